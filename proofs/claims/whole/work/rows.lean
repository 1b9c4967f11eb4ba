section
/-- a private method of a class that the tables say can be made, by its rows of tables_1 -/
def lw_okq (q : MethodName × Nat) : Prop := (q.1.cls ≠ "java/lang/invoke/MethodHandle" ∧ q.1.cls ≠ "java/lang/invoke/VarHandle") ∧ Cond.instantiable q.1.cls q.2 ∈ tables_1 ∧ Cond.privateMethod q.1 ∈ tables_1 ∧ Cond.instanceMethod q.1 ∈ tables_1
theorem lw_p0 : lw_okq (⟨"ShadowAlms$Reader", "skipBlanks", "()V"⟩, 7) := ⟨⟨by decide +kernel, by decide +kernel⟩, List.mem_of_getElem? (i := 40) (by decide +kernel), List.mem_of_getElem? (i := 286) (by decide +kernel), List.mem_of_getElem? (i := 287) (by decide +kernel)⟩
theorem lw_p1 : lw_okq (⟨"ShadowAlms$Reader", "readClause", "()V"⟩, 7) := ⟨⟨by decide +kernel, by decide +kernel⟩, List.mem_of_getElem? (i := 40) (by decide +kernel), List.mem_of_getElem? (i := 290) (by decide +kernel), List.mem_of_getElem? (i := 291) (by decide +kernel)⟩
theorem lw_p2 : lw_okq (⟨"ShadowAlms$Reader", "skipLetters", "()V"⟩, 7) := ⟨⟨by decide +kernel, by decide +kernel⟩, List.mem_of_getElem? (i := 40) (by decide +kernel), List.mem_of_getElem? (i := 294) (by decide +kernel), List.mem_of_getElem? (i := 295) (by decide +kernel)⟩
theorem lw_p3 : lw_okq (⟨"ShadowAlms$Reader", "kindOfWord", "(II)I"⟩, 7) := ⟨⟨by decide +kernel, by decide +kernel⟩, List.mem_of_getElem? (i := 40) (by decide +kernel), List.mem_of_getElem? (i := 298) (by decide +kernel), List.mem_of_getElem? (i := 299) (by decide +kernel)⟩
theorem lw_p4 : lw_okq (⟨"ShadowAlms$Reader", "isWord", "(Ljava/lang/String;II)Z"⟩, 7) := ⟨⟨by decide +kernel, by decide +kernel⟩, List.mem_of_getElem? (i := 40) (by decide +kernel), List.mem_of_getElem? (i := 310) (by decide +kernel), List.mem_of_getElem? (i := 311) (by decide +kernel)⟩
theorem lw_p5 : lw_okq (⟨"ShadowAlms$Reader", "faultOfKind", "(I)I"⟩, 7) := ⟨⟨by decide +kernel, by decide +kernel⟩, List.mem_of_getElem? (i := 40) (by decide +kernel), List.mem_of_getElem? (i := 362) (by decide +kernel), List.mem_of_getElem? (i := 363) (by decide +kernel)⟩
theorem lw_p6 : lw_okq (⟨"ShadowAlms$Reader", "noteFault", "(II)V"⟩, 7) := ⟨⟨by decide +kernel, by decide +kernel⟩, List.mem_of_getElem? (i := 40) (by decide +kernel), List.mem_of_getElem? (i := 376) (by decide +kernel), List.mem_of_getElem? (i := 377) (by decide +kernel)⟩
theorem lw_p7 : lw_okq (⟨"ShadowAlms$Reader", "readNumber", "(II)I"⟩, 7) := ⟨⟨by decide +kernel, by decide +kernel⟩, List.mem_of_getElem? (i := 40) (by decide +kernel), List.mem_of_getElem? (i := 386) (by decide +kernel), List.mem_of_getElem? (i := 387) (by decide +kernel)⟩
theorem lw_p8 : lw_okq (⟨"ShadowAlms$Reader", "readEndOfClause", "()V"⟩, 7) := ⟨⟨by decide +kernel, by decide +kernel⟩, List.mem_of_getElem? (i := 40) (by decide +kernel), List.mem_of_getElem? (i := 390) (by decide +kernel), List.mem_of_getElem? (i := 391) (by decide +kernel)⟩
theorem lw_p9 : lw_okq (⟨"ShadowAlms", "tallOf", "(I)I"⟩, 10) := ⟨⟨by decide +kernel, by decide +kernel⟩, List.mem_of_getElem? (i := 18) (by decide +kernel), List.mem_of_getElem? (i := 463) (by decide +kernel), List.mem_of_getElem? (i := 464) (by decide +kernel)⟩
theorem lw_p10 : lw_okq (⟨"ShadowAlms", "showAt", "(II)V"⟩, 10) := ⟨⟨by decide +kernel, by decide +kernel⟩, List.mem_of_getElem? (i := 18) (by decide +kernel), List.mem_of_getElem? (i := 475) (by decide +kernel), List.mem_of_getElem? (i := 476) (by decide +kernel)⟩
theorem lw_p11 : lw_okq (⟨"ShadowAlms$Scene", "castShades", "()V"⟩, 9) := ⟨⟨by decide +kernel, by decide +kernel⟩, List.mem_of_getElem? (i := 138) (by decide +kernel), List.mem_of_getElem? (i := 498) (by decide +kernel), List.mem_of_getElem? (i := 499) (by decide +kernel)⟩
theorem lw_p12 : lw_okq (⟨"ShadowAlms$Scene", "giveAllToLongest", "()V"⟩, 9) := ⟨⟨by decide +kernel, by decide +kernel⟩, List.mem_of_getElem? (i := 138) (by decide +kernel), List.mem_of_getElem? (i := 506) (by decide +kernel), List.mem_of_getElem? (i := 507) (by decide +kernel)⟩
theorem lw_p13 : lw_okq (⟨"ShadowAlms", "giveAt", "(I)I"⟩, 10) := ⟨⟨by decide +kernel, by decide +kernel⟩, List.mem_of_getElem? (i := 18) (by decide +kernel), List.mem_of_getElem? (i := 532) (by decide +kernel), List.mem_of_getElem? (i := 533) (by decide +kernel)⟩
theorem lw_p14 : lw_okq (⟨"ShadowAlms", "passDayByDraws", "()I"⟩, 10) := ⟨⟨by decide +kernel, by decide +kernel⟩, List.mem_of_getElem? (i := 18) (by decide +kernel), List.mem_of_getElem? (i := 546) (by decide +kernel), List.mem_of_getElem? (i := 547) (by decide +kernel)⟩
theorem lw_p15 : lw_okq (⟨"ShadowAlms$PlaceSearch", "fill", "(III)V"⟩, 6) := ⟨⟨by decide +kernel, by decide +kernel⟩, List.mem_of_getElem? (i := 177) (by decide +kernel), List.mem_of_getElem? (i := 568) (by decide +kernel), List.mem_of_getElem? (i := 569) (by decide +kernel)⟩
def lw_privs_1 : List (MethodName × Nat) := [(⟨"ShadowAlms$Reader", "skipBlanks", "()V"⟩, 7), (⟨"ShadowAlms$Reader", "readClause", "()V"⟩, 7), (⟨"ShadowAlms$Reader", "skipLetters", "()V"⟩, 7), (⟨"ShadowAlms$Reader", "kindOfWord", "(II)I"⟩, 7), (⟨"ShadowAlms$Reader", "isWord", "(Ljava/lang/String;II)Z"⟩, 7), (⟨"ShadowAlms$Reader", "faultOfKind", "(I)I"⟩, 7), (⟨"ShadowAlms$Reader", "noteFault", "(II)V"⟩, 7), (⟨"ShadowAlms$Reader", "readNumber", "(II)I"⟩, 7), (⟨"ShadowAlms$Reader", "readEndOfClause", "()V"⟩, 7), (⟨"ShadowAlms", "tallOf", "(I)I"⟩, 10), (⟨"ShadowAlms", "showAt", "(II)V"⟩, 10), (⟨"ShadowAlms$Scene", "castShades", "()V"⟩, 9), (⟨"ShadowAlms$Scene", "giveAllToLongest", "()V"⟩, 9), (⟨"ShadowAlms", "giveAt", "(I)I"⟩, 10), (⟨"ShadowAlms", "passDayByDraws", "()I"⟩, 10), (⟨"ShadowAlms$PlaceSearch", "fill", "(III)V"⟩, 6)]
theorem lw_r1 : ∀ q ∈ lw_privs_1, lw_okq q := List.forall_mem_cons.mpr ⟨lw_p0, List.forall_mem_cons.mpr ⟨lw_p1, List.forall_mem_cons.mpr ⟨lw_p2, List.forall_mem_cons.mpr ⟨lw_p3, List.forall_mem_cons.mpr ⟨lw_p4, List.forall_mem_cons.mpr ⟨lw_p5, List.forall_mem_cons.mpr ⟨lw_p6, List.forall_mem_cons.mpr ⟨lw_p7, List.forall_mem_cons.mpr ⟨lw_p8, List.forall_mem_cons.mpr ⟨lw_p9, List.forall_mem_cons.mpr ⟨lw_p10, List.forall_mem_cons.mpr ⟨lw_p11, List.forall_mem_cons.mpr ⟨lw_p12, List.forall_mem_cons.mpr ⟨lw_p13, List.forall_mem_cons.mpr ⟨lw_p14, List.forall_mem_cons.mpr ⟨lw_p15, fun _ h => absurd h List.not_mem_nil⟩⟩⟩⟩⟩⟩⟩⟩⟩⟩⟩⟩⟩⟩⟩⟩
theorem lw_p16 : lw_okq (⟨"ShadowAlms$PlaceSearch", "weigh", "()V"⟩, 6) := ⟨⟨by decide +kernel, by decide +kernel⟩, List.mem_of_getElem? (i := 177) (by decide +kernel), List.mem_of_getElem? (i := 572) (by decide +kernel), List.mem_of_getElem? (i := 573) (by decide +kernel)⟩
theorem lw_p17 : lw_okq (⟨"ShadowAlms$HatSearch", "handOut", "(II)V"⟩, 6) := ⟨⟨by decide +kernel, by decide +kernel⟩, List.mem_of_getElem? (i := 204) (by decide +kernel), List.mem_of_getElem? (i := 592) (by decide +kernel), List.mem_of_getElem? (i := 593) (by decide +kernel)⟩
theorem lw_p18 : lw_okq (⟨"ShadowAlms$HatSearch", "weigh", "()V"⟩, 6) := ⟨⟨by decide +kernel, by decide +kernel⟩, List.mem_of_getElem? (i := 204) (by decide +kernel), List.mem_of_getElem? (i := 596) (by decide +kernel), List.mem_of_getElem? (i := 597) (by decide +kernel)⟩
theorem lw_p19 : lw_okq (⟨"ShadowAlms", "almsOnDay", "(II)I"⟩, 10) := ⟨⟨by decide +kernel, by decide +kernel⟩, List.mem_of_getElem? (i := 18) (by decide +kernel), List.mem_of_getElem? (i := 634) (by decide +kernel), List.mem_of_getElem? (i := 635) (by decide +kernel)⟩
theorem lw_p20 : lw_okq (⟨"ShadowAlms", "fitsAllTales", "(I)Z"⟩, 10) := ⟨⟨by decide +kernel, by decide +kernel⟩, List.mem_of_getElem? (i := 18) (by decide +kernel), List.mem_of_getElem? (i := 654) (by decide +kernel), List.mem_of_getElem? (i := 655) (by decide +kernel)⟩
theorem lw_p21 : lw_okq (⟨"ShadowAlmsModel", "here", "()I"⟩, 58) := ⟨⟨by decide +kernel, by decide +kernel⟩, List.mem_of_getElem? (i := 692) (by decide +kernel), List.mem_of_getElem? (i := 888) (by decide +kernel), List.mem_of_getElem? (i := 889) (by decide +kernel)⟩
theorem lw_p22 : lw_okq (⟨"ShadowAlmsModel", "takeClause", "()I"⟩, 58) := ⟨⟨by decide +kernel, by decide +kernel⟩, List.mem_of_getElem? (i := 692) (by decide +kernel), List.mem_of_getElem? (i := 892) (by decide +kernel), List.mem_of_getElem? (i := 893) (by decide +kernel)⟩
theorem lw_p23 : lw_okq (⟨"ShadowAlmsModel", "readWord", "()V"⟩, 58) := ⟨⟨by decide +kernel, by decide +kernel⟩, List.mem_of_getElem? (i := 692) (by decide +kernel), List.mem_of_getElem? (i := 896) (by decide +kernel), List.mem_of_getElem? (i := 897) (by decide +kernel)⟩
theorem lw_p24 : lw_okq (⟨"ShadowAlmsModel", "fails", "(II)I"⟩, 58) := ⟨⟨by decide +kernel, by decide +kernel⟩, List.mem_of_getElem? (i := 692) (by decide +kernel), List.mem_of_getElem? (i := 912) (by decide +kernel), List.mem_of_getElem? (i := 913) (by decide +kernel)⟩
theorem lw_p25 : lw_okq (⟨"ShadowAlmsModel", "takeYear", "()I"⟩, 58) := ⟨⟨by decide +kernel, by decide +kernel⟩, List.mem_of_getElem? (i := 692) (by decide +kernel), List.mem_of_getElem? (i := 916) (by decide +kernel), List.mem_of_getElem? (i := 917) (by decide +kernel)⟩
theorem lw_p26 : lw_okq (⟨"ShadowAlmsModel", "takeNumber", "(II)I"⟩, 58) := ⟨⟨by decide +kernel, by decide +kernel⟩, List.mem_of_getElem? (i := 692) (by decide +kernel), List.mem_of_getElem? (i := 920) (by decide +kernel), List.mem_of_getElem? (i := 921) (by decide +kernel)⟩
theorem lw_p27 : lw_okq (⟨"ShadowAlmsModel", "takeBell", "()I"⟩, 58) := ⟨⟨by decide +kernel, by decide +kernel⟩, List.mem_of_getElem? (i := 692) (by decide +kernel), List.mem_of_getElem? (i := 926) (by decide +kernel), List.mem_of_getElem? (i := 927) (by decide +kernel)⟩
theorem lw_p28 : lw_okq (⟨"ShadowAlmsModel", "into", "([IIII)I"⟩, 58) := ⟨⟨by decide +kernel, by decide +kernel⟩, List.mem_of_getElem? (i := 692) (by decide +kernel), List.mem_of_getElem? (i := 930) (by decide +kernel), List.mem_of_getElem? (i := 931) (by decide +kernel)⟩
theorem lw_p29 : lw_okq (⟨"ShadowAlmsModel", "takeSpot", "()I"⟩, 58) := ⟨⟨by decide +kernel, by decide +kernel⟩, List.mem_of_getElem? (i := 692) (by decide +kernel), List.mem_of_getElem? (i := 934) (by decide +kernel), List.mem_of_getElem? (i := 935) (by decide +kernel)⟩
theorem lw_p30 : lw_okq (⟨"ShadowAlmsModel", "takeBeggar", "()I"⟩, 58) := ⟨⟨by decide +kernel, by decide +kernel⟩, List.mem_of_getElem? (i := 692) (by decide +kernel), List.mem_of_getElem? (i := 938) (by decide +kernel), List.mem_of_getElem? (i := 939) (by decide +kernel)⟩
theorem lw_p31 : lw_okq (⟨"ShadowAlmsModel", "takeHat", "()I"⟩, 58) := ⟨⟨by decide +kernel, by decide +kernel⟩, List.mem_of_getElem? (i := 692) (by decide +kernel), List.mem_of_getElem? (i := 942) (by decide +kernel), List.mem_of_getElem? (i := 943) (by decide +kernel)⟩
def lw_privs_2 : List (MethodName × Nat) := [(⟨"ShadowAlms$PlaceSearch", "weigh", "()V"⟩, 6), (⟨"ShadowAlms$HatSearch", "handOut", "(II)V"⟩, 6), (⟨"ShadowAlms$HatSearch", "weigh", "()V"⟩, 6), (⟨"ShadowAlms", "almsOnDay", "(II)I"⟩, 10), (⟨"ShadowAlms", "fitsAllTales", "(I)Z"⟩, 10), (⟨"ShadowAlmsModel", "here", "()I"⟩, 58), (⟨"ShadowAlmsModel", "takeClause", "()I"⟩, 58), (⟨"ShadowAlmsModel", "readWord", "()V"⟩, 58), (⟨"ShadowAlmsModel", "fails", "(II)I"⟩, 58), (⟨"ShadowAlmsModel", "takeYear", "()I"⟩, 58), (⟨"ShadowAlmsModel", "takeNumber", "(II)I"⟩, 58), (⟨"ShadowAlmsModel", "takeBell", "()I"⟩, 58), (⟨"ShadowAlmsModel", "into", "([IIII)I"⟩, 58), (⟨"ShadowAlmsModel", "takeSpot", "()I"⟩, 58), (⟨"ShadowAlmsModel", "takeBeggar", "()I"⟩, 58), (⟨"ShadowAlmsModel", "takeHat", "()I"⟩, 58)]
theorem lw_r2 : ∀ q ∈ lw_privs_2, lw_okq q := List.forall_mem_cons.mpr ⟨lw_p16, List.forall_mem_cons.mpr ⟨lw_p17, List.forall_mem_cons.mpr ⟨lw_p18, List.forall_mem_cons.mpr ⟨lw_p19, List.forall_mem_cons.mpr ⟨lw_p20, List.forall_mem_cons.mpr ⟨lw_p21, List.forall_mem_cons.mpr ⟨lw_p22, List.forall_mem_cons.mpr ⟨lw_p23, List.forall_mem_cons.mpr ⟨lw_p24, List.forall_mem_cons.mpr ⟨lw_p25, List.forall_mem_cons.mpr ⟨lw_p26, List.forall_mem_cons.mpr ⟨lw_p27, List.forall_mem_cons.mpr ⟨lw_p28, List.forall_mem_cons.mpr ⟨lw_p29, List.forall_mem_cons.mpr ⟨lw_p30, List.forall_mem_cons.mpr ⟨lw_p31, fun _ h => absurd h List.not_mem_nil⟩⟩⟩⟩⟩⟩⟩⟩⟩⟩⟩⟩⟩⟩⟩⟩
theorem lw_p32 : lw_okq (⟨"ShadowAlmsModel", "isBell", "(I)Z"⟩, 58) := ⟨⟨by decide +kernel, by decide +kernel⟩, List.mem_of_getElem? (i := 692) (by decide +kernel), List.mem_of_getElem? (i := 958) (by decide +kernel), List.mem_of_getElem? (i := 959) (by decide +kernel)⟩
theorem lw_p33 : lw_okq (⟨"ShadowAlmsModel", "longOn", "(II)I"⟩, 58) := ⟨⟨by decide +kernel, by decide +kernel⟩, List.mem_of_getElem? (i := 692) (by decide +kernel), List.mem_of_getElem? (i := 964) (by decide +kernel), List.mem_of_getElem? (i := 965) (by decide +kernel)⟩
theorem lw_p34 : lw_okq (⟨"ShadowAlmsModel", "isSpot", "(I)Z"⟩, 58) := ⟨⟨by decide +kernel, by decide +kernel⟩, List.mem_of_getElem? (i := 692) (by decide +kernel), List.mem_of_getElem? (i := 972) (by decide +kernel), List.mem_of_getElem? (i := 973) (by decide +kernel)⟩
theorem lw_p35 : lw_okq (⟨"ShadowAlmsModel", "whoIsOn", "(II)I"⟩, 58) := ⟨⟨by decide +kernel, by decide +kernel⟩, List.mem_of_getElem? (i := 692) (by decide +kernel), List.mem_of_getElem? (i := 976) (by decide +kernel), List.mem_of_getElem? (i := 977) (by decide +kernel)⟩
theorem lw_p36 : lw_okq (⟨"ShadowAlmsModel", "isBeggar", "(I)Z"⟩, 58) := ⟨⟨by decide +kernel, by decide +kernel⟩, List.mem_of_getElem? (i := 692) (by decide +kernel), List.mem_of_getElem? (i := 984) (by decide +kernel), List.mem_of_getElem? (i := 985) (by decide +kernel)⟩
theorem lw_p37 : lw_okq (⟨"ShadowAlmsModel", "tallOf", "(I)I"⟩, 58) := ⟨⟨by decide +kernel, by decide +kernel⟩, List.mem_of_getElem? (i := 692) (by decide +kernel), List.mem_of_getElem? (i := 988) (by decide +kernel), List.mem_of_getElem? (i := 989) (by decide +kernel)⟩
theorem lw_p38 : lw_okq (⟨"ShadowAlmsModel", "isHat", "(I)Z"⟩, 58) := ⟨⟨by decide +kernel, by decide +kernel⟩, List.mem_of_getElem? (i := 692) (by decide +kernel), List.mem_of_getElem? (i := 996) (by decide +kernel), List.mem_of_getElem? (i := 997) (by decide +kernel)⟩
theorem lw_p39 : lw_okq (⟨"ShadowAlmsModel", "onWhom", "(I)I"⟩, 58) := ⟨⟨by decide +kernel, by decide +kernel⟩, List.mem_of_getElem? (i := 692) (by decide +kernel), List.mem_of_getElem? (i := 1000) (by decide +kernel), List.mem_of_getElem? (i := 1001) (by decide +kernel)⟩
theorem lw_p40 : lw_okq (⟨"ShadowAlmsModel", "longNow", "(I)I"⟩, 58) := ⟨⟨by decide +kernel, by decide +kernel⟩, List.mem_of_getElem? (i := 692) (by decide +kernel), List.mem_of_getElem? (i := 1008) (by decide +kernel), List.mem_of_getElem? (i := 1009) (by decide +kernel)⟩
theorem lw_p41 : lw_okq (⟨"ShadowAlmsModel", "findAlms", "(II)V"⟩, 58) := ⟨⟨by decide +kernel, by decide +kernel⟩, List.mem_of_getElem? (i := 692) (by decide +kernel), List.mem_of_getElem? (i := 1012) (by decide +kernel), List.mem_of_getElem? (i := 1013) (by decide +kernel)⟩
theorem lw_p42 : lw_okq (⟨"ShadowAlmsModel", "shadowOf", "(III)I"⟩, 58) := ⟨⟨by decide +kernel, by decide +kernel⟩, List.mem_of_getElem? (i := 692) (by decide +kernel), List.mem_of_getElem? (i := 1016) (by decide +kernel), List.mem_of_getElem? (i := 1017) (by decide +kernel)⟩
theorem lw_p43 : lw_okq (⟨"ShadowAlmsModel", "lengthBy", "(III)I"⟩, 58) := ⟨⟨by decide +kernel, by decide +kernel⟩, List.mem_of_getElem? (i := 692) (by decide +kernel), List.mem_of_getElem? (i := 1020) (by decide +kernel), List.mem_of_getElem? (i := 1021) (by decide +kernel)⟩
theorem lw_p44 : lw_okq (⟨"ShadowAlmsModel", "almsOf", "(I)I"⟩, 58) := ⟨⟨by decide +kernel, by decide +kernel⟩, List.mem_of_getElem? (i := 692) (by decide +kernel), List.mem_of_getElem? (i := 1024) (by decide +kernel), List.mem_of_getElem? (i := 1025) (by decide +kernel)⟩
theorem lw_p45 : lw_okq (⟨"ShadowAlmsModel", "costOf", "(I)I"⟩, 58) := ⟨⟨by decide +kernel, by decide +kernel⟩, List.mem_of_getElem? (i := 692) (by decide +kernel), List.mem_of_getElem? (i := 1028) (by decide +kernel), List.mem_of_getElem? (i := 1029) (by decide +kernel)⟩
theorem lw_p46 : lw_okq (⟨"ShadowAlmsModel", "ringNow", "(I)I"⟩, 58) := ⟨⟨by decide +kernel, by decide +kernel⟩, List.mem_of_getElem? (i := 692) (by decide +kernel), List.mem_of_getElem? (i := 1050) (by decide +kernel), List.mem_of_getElem? (i := 1051) (by decide +kernel)⟩
theorem lw_p47 : lw_okq (⟨"ShadowAlmsModel", "dayNow", "()I"⟩, 58) := ⟨⟨by decide +kernel, by decide +kernel⟩, List.mem_of_getElem? (i := 692) (by decide +kernel), List.mem_of_getElem? (i := 1067) (by decide +kernel), List.mem_of_getElem? (i := 1068) (by decide +kernel)⟩
def lw_privs_3 : List (MethodName × Nat) := [(⟨"ShadowAlmsModel", "isBell", "(I)Z"⟩, 58), (⟨"ShadowAlmsModel", "longOn", "(II)I"⟩, 58), (⟨"ShadowAlmsModel", "isSpot", "(I)Z"⟩, 58), (⟨"ShadowAlmsModel", "whoIsOn", "(II)I"⟩, 58), (⟨"ShadowAlmsModel", "isBeggar", "(I)Z"⟩, 58), (⟨"ShadowAlmsModel", "tallOf", "(I)I"⟩, 58), (⟨"ShadowAlmsModel", "isHat", "(I)Z"⟩, 58), (⟨"ShadowAlmsModel", "onWhom", "(I)I"⟩, 58), (⟨"ShadowAlmsModel", "longNow", "(I)I"⟩, 58), (⟨"ShadowAlmsModel", "findAlms", "(II)V"⟩, 58), (⟨"ShadowAlmsModel", "shadowOf", "(III)I"⟩, 58), (⟨"ShadowAlmsModel", "lengthBy", "(III)I"⟩, 58), (⟨"ShadowAlmsModel", "almsOf", "(I)I"⟩, 58), (⟨"ShadowAlmsModel", "costOf", "(I)I"⟩, 58), (⟨"ShadowAlmsModel", "ringNow", "(I)I"⟩, 58), (⟨"ShadowAlmsModel", "dayNow", "()I"⟩, 58)]
theorem lw_r3 : ∀ q ∈ lw_privs_3, lw_okq q := List.forall_mem_cons.mpr ⟨lw_p32, List.forall_mem_cons.mpr ⟨lw_p33, List.forall_mem_cons.mpr ⟨lw_p34, List.forall_mem_cons.mpr ⟨lw_p35, List.forall_mem_cons.mpr ⟨lw_p36, List.forall_mem_cons.mpr ⟨lw_p37, List.forall_mem_cons.mpr ⟨lw_p38, List.forall_mem_cons.mpr ⟨lw_p39, List.forall_mem_cons.mpr ⟨lw_p40, List.forall_mem_cons.mpr ⟨lw_p41, List.forall_mem_cons.mpr ⟨lw_p42, List.forall_mem_cons.mpr ⟨lw_p43, List.forall_mem_cons.mpr ⟨lw_p44, List.forall_mem_cons.mpr ⟨lw_p45, List.forall_mem_cons.mpr ⟨lw_p46, List.forall_mem_cons.mpr ⟨lw_p47, fun _ h => absurd h List.not_mem_nil⟩⟩⟩⟩⟩⟩⟩⟩⟩⟩⟩⟩⟩⟩⟩⟩
theorem lw_p48 : lw_okq (⟨"ShadowAlmsModel", "draw", "(I)I"⟩, 58) := ⟨⟨by decide +kernel, by decide +kernel⟩, List.mem_of_getElem? (i := 692) (by decide +kernel), List.mem_of_getElem? (i := 1071) (by decide +kernel), List.mem_of_getElem? (i := 1072) (by decide +kernel)⟩
theorem lw_p49 : lw_okq (⟨"ShadowAlmsModel", "saveAll", "()V"⟩, 58) := ⟨⟨by decide +kernel, by decide +kernel⟩, List.mem_of_getElem? (i := 692) (by decide +kernel), List.mem_of_getElem? (i := 1083) (by decide +kernel), List.mem_of_getElem? (i := 1084) (by decide +kernel)⟩
theorem lw_p50 : lw_okq (⟨"ShadowAlmsModel", "findStanding", "(II)V"⟩, 58) := ⟨⟨by decide +kernel, by decide +kernel⟩, List.mem_of_getElem? (i := 692) (by decide +kernel), List.mem_of_getElem? (i := 1087) (by decide +kernel), List.mem_of_getElem? (i := 1088) (by decide +kernel)⟩
theorem lw_p51 : lw_okq (⟨"ShadowAlmsModel", "standBy", "(II)Z"⟩, 58) := ⟨⟨by decide +kernel, by decide +kernel⟩, List.mem_of_getElem? (i := 692) (by decide +kernel), List.mem_of_getElem? (i := 1092) (by decide +kernel), List.mem_of_getElem? (i := 1093) (by decide +kernel)⟩
theorem lw_p52 : lw_okq (⟨"ShadowAlmsModel", "almsOfAll", "(I)I"⟩, 58) := ⟨⟨by decide +kernel, by decide +kernel⟩, List.mem_of_getElem? (i := 692) (by decide +kernel), List.mem_of_getElem? (i := 1096) (by decide +kernel), List.mem_of_getElem? (i := 1097) (by decide +kernel)⟩
theorem lw_p53 : lw_okq (⟨"ShadowAlmsModel", "putBack", "()V"⟩, 58) := ⟨⟨by decide +kernel, by decide +kernel⟩, List.mem_of_getElem? (i := 692) (by decide +kernel), List.mem_of_getElem? (i := 1100) (by decide +kernel), List.mem_of_getElem? (i := 1101) (by decide +kernel)⟩
theorem lw_p54 : lw_okq (⟨"ShadowAlmsModel", "lendBy", "(I)Z"⟩, 58) := ⟨⟨by decide +kernel, by decide +kernel⟩, List.mem_of_getElem? (i := 692) (by decide +kernel), List.mem_of_getElem? (i := 1108) (by decide +kernel), List.mem_of_getElem? (i := 1109) (by decide +kernel)⟩
theorem lw_p55 : lw_okq (⟨"ShadowAlmsModel", "lacksFor", "(I)I"⟩, 58) := ⟨⟨by decide +kernel, by decide +kernel⟩, List.mem_of_getElem? (i := 692) (by decide +kernel), List.mem_of_getElem? (i := 1122) (by decide +kernel), List.mem_of_getElem? (i := 1123) (by decide +kernel)⟩
theorem lw_p56 : lw_okq (⟨"ShadowAlmsModel", "isAsTold", "(I)Z"⟩, 58) := ⟨⟨by decide +kernel, by decide +kernel⟩, List.mem_of_getElem? (i := 692) (by decide +kernel), List.mem_of_getElem? (i := 1143) (by decide +kernel), List.mem_of_getElem? (i := 1144) (by decide +kernel)⟩
def lw_privs_4 : List (MethodName × Nat) := [(⟨"ShadowAlmsModel", "draw", "(I)I"⟩, 58), (⟨"ShadowAlmsModel", "saveAll", "()V"⟩, 58), (⟨"ShadowAlmsModel", "findStanding", "(II)V"⟩, 58), (⟨"ShadowAlmsModel", "standBy", "(II)Z"⟩, 58), (⟨"ShadowAlmsModel", "almsOfAll", "(I)I"⟩, 58), (⟨"ShadowAlmsModel", "putBack", "()V"⟩, 58), (⟨"ShadowAlmsModel", "lendBy", "(I)Z"⟩, 58), (⟨"ShadowAlmsModel", "lacksFor", "(I)I"⟩, 58), (⟨"ShadowAlmsModel", "isAsTold", "(I)Z"⟩, 58)]
theorem lw_r4 : ∀ q ∈ lw_privs_4, lw_okq q := List.forall_mem_cons.mpr ⟨lw_p48, List.forall_mem_cons.mpr ⟨lw_p49, List.forall_mem_cons.mpr ⟨lw_p50, List.forall_mem_cons.mpr ⟨lw_p51, List.forall_mem_cons.mpr ⟨lw_p52, List.forall_mem_cons.mpr ⟨lw_p53, List.forall_mem_cons.mpr ⟨lw_p54, List.forall_mem_cons.mpr ⟨lw_p55, List.forall_mem_cons.mpr ⟨lw_p56, fun _ h => absurd h List.not_mem_nil⟩⟩⟩⟩⟩⟩⟩⟩⟩
def lw_privs : List (MethodName × Nat) := lw_privs_1 ++ (lw_privs_2 ++ (lw_privs_3 ++ (lw_privs_4)))
def lw_tbl : List Cond := k2_sels lw_privs ++ tables_1
theorem lw_privs_ok : ∀ q ∈ lw_privs, lw_okq q := by
  show ∀ q ∈ lw_privs_1 ++ (lw_privs_2 ++ (lw_privs_3 ++ (lw_privs_4))), lw_okq q
  exact List.forall_mem_append.mpr ⟨lw_r1, List.forall_mem_append.mpr ⟨lw_r2, List.forall_mem_append.mpr ⟨lw_r3, lw_r4⟩⟩⟩
end
section
def RX0 : String := "ShadowAlms$HatSearch"
def TX0 : u_T := fun k => match k with
  | 0 => ("ShadowAlms$HatSearch", "plan", "LShadowAlms$Plan;", true)
  | 1 => ("ShadowAlms$HatSearch", "scene", "LShadowAlms$Scene;", true)
  | 2 => ("ShadowAlms$HatSearch", "trial", "[I", true)
  | 3 => ("ShadowAlms$HatSearch", "any", "Z", false)
  | 4 => ("ShadowAlms$HatSearch", "most", "I", false)
  | _ => ("ShadowAlms$HatSearch", "found", "[I", true)
def tyX0 : Nat → FieldType := fun k => match k with
  | 0 => .object "ShadowAlms$Plan"
  | 1 => .object "ShadowAlms$Scene"
  | 2 => .array .int
  | 3 => .boolean
  | 4 => .int
  | _ => .array .int
abbrev wsX00 : List Cond := u_ws RX0 TX0 6
theorem nmX0 : ∀ a, a < 6 → ∀ b, b < 6 → a ≠ b → (TX0 a).2.1 ≠ (TX0 b).2.1 := by decide +kernel
theorem tyX0_ok : ∀ k, k < 6 → parseFieldDescriptor (TX0 k).2.2.1 = some (tyX0 k) := by decide +kernel
abbrev cX0_init : ByteArray := prog_2_method_1_code
def yX0_init : MethodName := ⟨RX0, "<init>", "(LShadowAlms$Plan;LShadowAlms$Scene;)V"⟩
abbrev cX0_seek : ByteArray := prog_2_method_2_code
def yX0_seek : MethodName := ⟨RX0, "seek", "()V"⟩
abbrev cX0_handOut : ByteArray := prog_2_method_3_code
def yX0_handOut : MethodName := ⟨RX0, "handOut", "(II)V"⟩
abbrev cX0_weigh : ByteArray := prog_2_method_4_code
def yX0_weigh : MethodName := ⟨RX0, "weigh", "()V"⟩
def RX1 : String := "ShadowAlms$PlaceSearch"
def TX1 : u_T := fun k => match k with
  | 0 => ("ShadowAlms$PlaceSearch", "plan", "LShadowAlms$Plan;", true)
  | 1 => ("ShadowAlms$PlaceSearch", "scene", "LShadowAlms$Scene;", true)
  | 2 => ("ShadowAlms$PlaceSearch", "forWhom", "I", false)
  | 3 => ("ShadowAlms$PlaceSearch", "any", "Z", false)
  | 4 => ("ShadowAlms$PlaceSearch", "most", "I", false)
  | _ => ("ShadowAlms$PlaceSearch", "found", "[I", true)
def tyX1 : Nat → FieldType := fun k => match k with
  | 0 => .object "ShadowAlms$Plan"
  | 1 => .object "ShadowAlms$Scene"
  | 2 => .int
  | 3 => .boolean
  | 4 => .int
  | _ => .array .int
abbrev wsX10 : List Cond := u_ws RX1 TX1 6
theorem nmX1 : ∀ a, a < 6 → ∀ b, b < 6 → a ≠ b → (TX1 a).2.1 ≠ (TX1 b).2.1 := by decide +kernel
theorem tyX1_ok : ∀ k, k < 6 → parseFieldDescriptor (TX1 k).2.2.1 = some (tyX1 k) := by decide +kernel
abbrev cX1_init : ByteArray := prog_3_method_1_code
def yX1_init : MethodName := ⟨RX1, "<init>", "(LShadowAlms$Plan;LShadowAlms$Scene;)V"⟩
abbrev cX1_seek : ByteArray := prog_3_method_2_code
def yX1_seek : MethodName := ⟨RX1, "seek", "(I)V"⟩
abbrev cX1_fill : ByteArray := prog_3_method_3_code
def yX1_fill : MethodName := ⟨RX1, "fill", "(III)V"⟩
abbrev cX1_weigh : ByteArray := prog_3_method_4_code
def yX1_weigh : MethodName := ⟨RX1, "weigh", "()V"⟩
def RX2 : String := "ShadowAlms$Plan"
def TX2 : u_T := fun k => match k with
  | 0 => ("ShadowAlms$Plan", "counts", "[I", true)
  | _ => ("ShadowAlms$Plan", "cells", "[I", true)
def tyX2 : Nat → FieldType := fun k => match k with
  | 0 => .array .int
  | _ => .array .int
abbrev wsX20 : List Cond := u_ws RX2 TX2 2
theorem nmX2 : ∀ a, a < 2 → ∀ b, b < 2 → a ≠ b → (TX2 a).2.1 ≠ (TX2 b).2.1 := by decide +kernel
theorem tyX2_ok : ∀ k, k < 2 → parseFieldDescriptor (TX2 k).2.2.1 = some (tyX2 k) := by decide +kernel
abbrev cX2_init : ByteArray := prog_4_method_1_code
def yX2_init : MethodName := ⟨RX2, "<init>", "()V"⟩
abbrev cX2_count : ByteArray := prog_4_method_2_code
def yX2_count : MethodName := ⟨RX2, "count", "(I)I"⟩
abbrev cX2_has : ByteArray := prog_4_method_3_code
def yX2_has : MethodName := ⟨RX2, "has", "(II)Z"⟩
abbrev cX2_number : ByteArray := prog_4_method_4_code
def yX2_number : MethodName := ⟨RX2, "number", "(III)I"⟩
abbrev cX2_clear : ByteArray := prog_4_method_5_code
def yX2_clear : MethodName := ⟨RX2, "clear", "()V"⟩
abbrev cX2_become : ByteArray := prog_4_method_6_code
def yX2_become : MethodName := ⟨RX2, "become", "(LShadowAlms$Plan;)V"⟩
abbrev cX2_add : ByteArray := prog_4_method_7_code
def yX2_add : MethodName := ⟨RX2, "add", "(I[I)V"⟩
abbrev cX2_hasMoreThanYear : ByteArray := prog_4_method_8_code
def yX2_hasMoreThanYear : MethodName := ⟨RX2, "hasMoreThanYear", "()Z"⟩
abbrev cX2_days : ByteArray := prog_4_method_9_code
def yX2_days : MethodName := ⟨RX2, "days", "()I"⟩
abbrev cX2_longOf : ByteArray := prog_4_method_10_code
def yX2_longOf : MethodName := ⟨RX2, "longOf", "(II)I"⟩
abbrev cX2_shadeOn : ByteArray := prog_4_method_11_code
def yX2_shadeOn : MethodName := ⟨RX2, "shadeOn", "(III)I"⟩
def RX3 : String := "ShadowAlms$Reader"
def TX3 : u_T := fun k => match k with
  | 0 => ("ShadowAlms$Reader", "text", "[C", true)
  | 1 => ("ShadowAlms$Reader", "numbers", "[I", true)
  | 2 => ("ShadowAlms$Reader", "at", "I", false)
  | 3 => ("ShadowAlms$Reader", "draft", "LShadowAlms$Plan;", true)
  | 4 => ("ShadowAlms$Reader", "length", "I", false)
  | 5 => ("ShadowAlms$Reader", "faultKind", "I", false)
  | _ => ("ShadowAlms$Reader", "faultPlace", "I", false)
def tyX3 : Nat → FieldType := fun k => match k with
  | 0 => .array .char
  | 1 => .array .int
  | 2 => .int
  | 3 => .object "ShadowAlms$Plan"
  | 4 => .int
  | 5 => .int
  | _ => .int
abbrev wsX30 : List Cond := u_ws RX3 TX3 7
theorem nmX3 : ∀ a, a < 7 → ∀ b, b < 7 → a ≠ b → (TX3 a).2.1 ≠ (TX3 b).2.1 := by decide +kernel
theorem tyX3_ok : ∀ k, k < 7 → parseFieldDescriptor (TX3 k).2.2.1 = some (tyX3 k) := by decide +kernel
abbrev cX3_init : ByteArray := prog_5_method_1_code
def yX3_init : MethodName := ⟨RX3, "<init>", "()V"⟩
abbrev cX3_take : ByteArray := prog_5_method_2_code
def yX3_take : MethodName := ⟨RX3, "take", "(IJ)V"⟩
abbrev cX3_read : ByteArray := prog_5_method_3_code
def yX3_read : MethodName := ⟨RX3, "read", "()V"⟩
abbrev cX3_readClause : ByteArray := prog_5_method_4_code
def yX3_readClause : MethodName := ⟨RX3, "readClause", "()V"⟩
abbrev cX3_faultOfKind : ByteArray := prog_5_method_5_code
def yX3_faultOfKind : MethodName := ⟨RX3, "faultOfKind", "(I)I"⟩
abbrev cX3_readNumber : ByteArray := prog_5_method_6_code
def yX3_readNumber : MethodName := ⟨RX3, "readNumber", "(II)I"⟩
abbrev cX3_readEndOfClause : ByteArray := prog_5_method_7_code
def yX3_readEndOfClause : MethodName := ⟨RX3, "readEndOfClause", "()V"⟩
abbrev cX3_skipBlanks : ByteArray := prog_5_method_8_code
def yX3_skipBlanks : MethodName := ⟨RX3, "skipBlanks", "()V"⟩
abbrev cX3_skipLetters : ByteArray := prog_5_method_9_code
def yX3_skipLetters : MethodName := ⟨RX3, "skipLetters", "()V"⟩
abbrev cX3_kindOfWord : ByteArray := prog_5_method_10_code
def yX3_kindOfWord : MethodName := ⟨RX3, "kindOfWord", "(II)I"⟩
abbrev cX3_isWord : ByteArray := prog_5_method_11_code
def yX3_isWord : MethodName := ⟨RX3, "isWord", "(Ljava/lang/String;II)Z"⟩
abbrev cX3_wordOf : ByteArray := prog_5_method_12_code
def yX3_wordOf : MethodName := ⟨RX3, "wordOf", "(I)Ljava/lang/String;"⟩
abbrev cX3_noteFault : ByteArray := prog_5_method_13_code
def yX3_noteFault : MethodName := ⟨RX3, "noteFault", "(II)V"⟩
def RX4 : String := "ShadowAlms$Rows"
def TX4 : u_T := fun k => match k with
  | 0 => ("ShadowAlms$Rows", "most", "I", true)
  | 1 => ("ShadowAlms$Rows", "cells", "[I", true)
  | _ => ("ShadowAlms$Rows", "count", "I", false)
def tyX4 : Nat → FieldType := fun k => match k with
  | 0 => .int
  | 1 => .array .int
  | _ => .int
abbrev wsX40 : List Cond := u_ws RX4 TX4 3
theorem nmX4 : ∀ a, a < 3 → ∀ b, b < 3 → a ≠ b → (TX4 a).2.1 ≠ (TX4 b).2.1 := by decide +kernel
theorem tyX4_ok : ∀ k, k < 3 → parseFieldDescriptor (TX4 k).2.2.1 = some (tyX4 k) := by decide +kernel
abbrev cX4_init : ByteArray := prog_6_method_1_code
def yX4_init : MethodName := ⟨RX4, "<init>", "(I)V"⟩
abbrev cX4_isFull : ByteArray := prog_6_method_2_code
def yX4_isFull : MethodName := ⟨RX4, "isFull", "()Z"⟩
abbrev cX4_add : ByteArray := prog_6_method_3_code
def yX4_add : MethodName := ⟨RX4, "add", "(IIII)V"⟩
abbrev cX4_cell : ByteArray := prog_6_method_4_code
def yX4_cell : MethodName := ⟨RX4, "cell", "(II)I"⟩
def RX5 : String := "ShadowAlms$Scene"
def TX5 : u_T := fun k => match k with
  | 0 => ("ShadowAlms$Scene", "plan", "LShadowAlms$Plan;", true)
  | 1 => ("ShadowAlms$Scene", "people", "I", false)
  | 2 => ("ShadowAlms$Scene", "length", "I", false)
  | 3 => ("ShadowAlms$Scene", "law", "I", false)
  | 4 => ("ShadowAlms$Scene", "high", "[I", true)
  | 5 => ("ShadowAlms$Scene", "cost", "[I", true)
  | 6 => ("ShadowAlms$Scene", "shade", "[I", true)
  | 7 => ("ShadowAlms$Scene", "gift", "[I", true)
  | _ => ("ShadowAlms$Scene", "onSpot", "[I", true)
def tyX5 : Nat → FieldType := fun k => match k with
  | 0 => .object "ShadowAlms$Plan"
  | 1 => .int
  | 2 => .int
  | 3 => .int
  | 4 => .array .int
  | 5 => .array .int
  | 6 => .array .int
  | 7 => .array .int
  | _ => .array .int
abbrev wsX50 : List Cond := u_ws RX5 TX5 9
theorem nmX5 : ∀ a, a < 9 → ∀ b, b < 9 → a ≠ b → (TX5 a).2.1 ≠ (TX5 b).2.1 := by decide +kernel
theorem tyX5_ok : ∀ k, k < 9 → parseFieldDescriptor (TX5 k).2.2.1 = some (tyX5 k) := by decide +kernel
abbrev cX5_init : ByteArray := prog_7_method_1_code
def yX5_init : MethodName := ⟨RX5, "<init>", "(LShadowAlms$Plan;)V"⟩
abbrev cX5_dress : ByteArray := prog_7_method_2_code
def yX5_dress : MethodName := ⟨RX5, "dress", "(LShadowAlms$State;Z)V"⟩
abbrev cX5_light : ByteArray := prog_7_method_3_code
def yX5_light : MethodName := ⟨RX5, "light", "(II)V"⟩
abbrev cX5_putHat : ByteArray := prog_7_method_4_code
def yX5_putHat : MethodName := ⟨RX5, "putHat", "(II)V"⟩
abbrev cX5_takeHat : ByteArray := prog_7_method_5_code
def yX5_takeHat : MethodName := ⟨RX5, "takeHat", "(II)V"⟩
abbrev cX5_addGiant : ByteArray := prog_7_method_6_code
def yX5_addGiant : MethodName := ⟨RX5, "addGiant", "(I)I"⟩
abbrev cX5_cast : ByteArray := prog_7_method_7_code
def yX5_cast : MethodName := ⟨RX5, "cast", "()V"⟩
abbrev cX5_castShades : ByteArray := prog_7_method_8_code
def yX5_castShades : MethodName := ⟨RX5, "castShades", "()V"⟩
abbrev cX5_giveAllToLongest : ByteArray := prog_7_method_9_code
def yX5_giveAllToLongest : MethodName := ⟨RX5, "giveAllToLongest", "()V"⟩
abbrev cX5_almsOf : ByteArray := prog_7_method_10_code
def yX5_almsOf : MethodName := ⟨RX5, "almsOf", "(I)I"⟩
abbrev cX5_sumOfAlms : ByteArray := prog_7_method_11_code
def yX5_sumOfAlms : MethodName := ⟨RX5, "sumOfAlms", "()I"⟩
abbrev cX5_lackOf : ByteArray := prog_7_method_12_code
def yX5_lackOf : MethodName := ⟨RX5, "lackOf", "(I)I"⟩
def RX6 : String := "ShadowAlms$State"
def TX6 : u_T := fun k => match k with
  | 0 => ("ShadowAlms$State", "where", "[I", true)
  | 1 => ("ShadowAlms$State", "wearer", "[I", true)
  | 2 => ("ShadowAlms$State", "purse", "[I", true)
  | 3 => ("ShadowAlms$State", "day", "I", false)
  | 4 => ("ShadowAlms$State", "given", "I", false)
  | 5 => ("ShadowAlms$State", "law", "I", false)
  | _ => ("ShadowAlms$State", "seed", "I", false)
def tyX6 : Nat → FieldType := fun k => match k with
  | 0 => .array .int
  | 1 => .array .int
  | 2 => .array .int
  | 3 => .int
  | 4 => .int
  | 5 => .int
  | _ => .int
abbrev wsX60 : List Cond := u_ws RX6 TX6 7
theorem nmX6 : ∀ a, a < 7 → ∀ b, b < 7 → a ≠ b → (TX6 a).2.1 ≠ (TX6 b).2.1 := by decide +kernel
theorem tyX6_ok : ∀ k, k < 7 → parseFieldDescriptor (TX6 k).2.2.1 = some (tyX6 k) := by decide +kernel
abbrev cX6_init : ByteArray := prog_8_method_1_code
def yX6_init : MethodName := ⟨RX6, "<init>", "()V"⟩
abbrev cX6_startAnew : ByteArray := prog_8_method_2_code
def yX6_startAnew : MethodName := ⟨RX6, "startAnew", "()V"⟩
abbrev cX6_become : ByteArray := prog_8_method_3_code
def yX6_become : MethodName := ⟨RX6, "become", "(LShadowAlms$State;)V"⟩
abbrev cX6_whoIsOn : ByteArray := prog_8_method_4_code
def yX6_whoIsOn : MethodName := ⟨RX6, "whoIsOn", "(I)I"⟩
abbrev cX6_hatOf : ByteArray := prog_8_method_5_code
def yX6_hatOf : MethodName := ⟨RX6, "hatOf", "(I)I"⟩
abbrev cX6_draw : ByteArray := prog_8_method_6_code
def yX6_draw : MethodName := ⟨RX6, "draw", "(I)I"⟩
def RX7 : String := "ShadowAlms"
def TX7 : u_T := fun k => match k with
  | 0 => ("ShadowAlms", "plan", "LShadowAlms$Plan;", true)
  | 1 => ("ShadowAlms", "reader", "LShadowAlms$Reader;", true)
  | 2 => ("ShadowAlms", "now", "LShadowAlms$State;", true)
  | 3 => ("ShadowAlms", "images", "[LShadowAlms$State;", true)
  | 4 => ("ShadowAlms", "kept", "[Z", true)
  | 5 => ("ShadowAlms", "tales", "LShadowAlms$Rows;", true)
  | 6 => ("ShadowAlms", "book", "LShadowAlms$Rows;", true)
  | 7 => ("ShadowAlms", "scene", "LShadowAlms$Scene;", true)
  | 8 => ("ShadowAlms", "places", "LShadowAlms$PlaceSearch;", true)
  | _ => ("ShadowAlms", "lending", "LShadowAlms$HatSearch;", true)
def tyX7 : Nat → FieldType := fun k => match k with
  | 0 => .object "ShadowAlms$Plan"
  | 1 => .object "ShadowAlms$Reader"
  | 2 => .object "ShadowAlms$State"
  | 3 => .array (.object "ShadowAlms$State")
  | 4 => .array .boolean
  | 5 => .object "ShadowAlms$Rows"
  | 6 => .object "ShadowAlms$Rows"
  | 7 => .object "ShadowAlms$Scene"
  | 8 => .object "ShadowAlms$PlaceSearch"
  | _ => .object "ShadowAlms$HatSearch"
abbrev wsX70 : List Cond := u_ws RX7 TX7 10
theorem nmX7 : ∀ a, a < 10 → ∀ b, b < 10 → a ≠ b → (TX7 a).2.1 ≠ (TX7 b).2.1 := by decide +kernel
theorem tyX7_ok : ∀ k, k < 10 → parseFieldDescriptor (TX7 k).2.2.1 = some (tyX7 k) := by decide +kernel
abbrev cX7_init : ByteArray := prog_1_method_1_code
def yX7_init : MethodName := ⟨RX7, "<init>", "()V"⟩
abbrev cX7_feed : ByteArray := prog_1_method_2_code
def yX7_feed : MethodName := ⟨RX7, "feed", "(IJ)I"⟩
abbrev cX7_square : ByteArray := prog_1_method_3_code
def yX7_square : MethodName := ⟨RX7, "square", "()I"⟩
abbrev cX7_fault : ByteArray := prog_1_method_4_code
def yX7_fault : MethodName := ⟨RX7, "fault", "()I"⟩
abbrev cX7_told : ByteArray := prog_1_method_5_code
def yX7_told : MethodName := ⟨RX7, "told", "(I)I"⟩
abbrev cX7_bell : ByteArray := prog_1_method_6_code
def yX7_bell : MethodName := ⟨RX7, "bell", "(II)I"⟩
abbrev cX7_spot : ByteArray := prog_1_method_7_code
def yX7_spot : MethodName := ⟨RX7, "spot", "(II)I"⟩
abbrev cX7_beggar : ByteArray := prog_1_method_8_code
def yX7_beggar : MethodName := ⟨RX7, "beggar", "(II)I"⟩
abbrev cX7_hat : ByteArray := prog_1_method_9_code
def yX7_hat : MethodName := ⟨RX7, "hat", "(II)I"⟩
abbrev cX7_shadow : ByteArray := prog_1_method_10_code
def yX7_shadow : MethodName := ⟨RX7, "shadow", "(III)I"⟩
abbrev cX7_go : ByteArray := prog_1_method_11_code
def yX7_go : MethodName := ⟨RX7, "go", "(II)I"⟩
abbrev cX7_lend : ByteArray := prog_1_method_12_code
def yX7_lend : MethodName := ⟨RX7, "lend", "(II)I"⟩
abbrev cX7_law : ByteArray := prog_1_method_13_code
def yX7_law : MethodName := ⟨RX7, "law", "(I)I"⟩
abbrev cX7_ring : ByteArray := prog_1_method_14_code
def yX7_ring : MethodName := ⟨RX7, "ring", "(I)I"⟩
abbrev cX7_day : ByteArray := prog_1_method_15_code
def yX7_day : MethodName := ⟨RX7, "day", "(I)I"⟩
abbrev cX7_drift : ByteArray := prog_1_method_16_code
def yX7_drift : MethodName := ⟨RX7, "drift", "(I)I"⟩
abbrev cX7_standing : ByteArray := prog_1_method_17_code
def yX7_standing : MethodName := ⟨RX7, "standing", "(III)I"⟩
abbrev cX7_hats : ByteArray := prog_1_method_18_code
def yX7_hats : MethodName := ⟨RX7, "hats", "(II)I"⟩
abbrev cX7_giant : ByteArray := prog_1_method_19_code
def yX7_giant : MethodName := ⟨RX7, "giant", "(IIII)I"⟩
abbrev cX7_peace : ByteArray := prog_1_method_20_code
def yX7_peace : MethodName := ⟨RX7, "peace", "(II)I"⟩
abbrev cX7_bread : ByteArray := prog_1_method_21_code
def yX7_bread : MethodName := ⟨RX7, "bread", "(II)I"⟩
abbrev cX7_best : ByteArray := prog_1_method_22_code
def yX7_best : MethodName := ⟨RX7, "best", "(II)I"⟩
abbrev cX7_tell : ByteArray := prog_1_method_23_code
def yX7_tell : MethodName := ⟨RX7, "tell", "(IIII)I"⟩
abbrev cX7_fits : ByteArray := prog_1_method_24_code
def yX7_fits : MethodName := ⟨RX7, "fits", "(I)I"⟩
abbrev cX7_write : ByteArray := prog_1_method_25_code
def yX7_write : MethodName := ⟨RX7, "write", "(III)I"⟩
abbrev cX7_tear : ByteArray := prog_1_method_26_code
def yX7_tear : MethodName := ⟨RX7, "tear", "()I"⟩
abbrev cX7_judge : ByteArray := prog_1_method_27_code
def yX7_judge : MethodName := ⟨RX7, "judge", "()I"⟩
abbrev cX7_seed : ByteArray := prog_1_method_28_code
def yX7_seed : MethodName := ⟨RX7, "seed", "(I)I"⟩
abbrev cX7_keep : ByteArray := prog_1_method_29_code
def yX7_keep : MethodName := ⟨RX7, "keep", "(I)I"⟩
abbrev cX7_goBack : ByteArray := prog_1_method_30_code
def yX7_goBack : MethodName := ⟨RX7, "goBack", "(I)I"⟩
abbrev cX7_tallOf : ByteArray := prog_1_method_31_code
def yX7_tallOf : MethodName := ⟨RX7, "tallOf", "(I)I"⟩
abbrev cX7_showAt : ByteArray := prog_1_method_32_code
def yX7_showAt : MethodName := ⟨RX7, "showAt", "(II)V"⟩
abbrev cX7_giveAt : ByteArray := prog_1_method_33_code
def yX7_giveAt : MethodName := ⟨RX7, "giveAt", "(I)I"⟩
abbrev cX7_passDayByDraws : ByteArray := prog_1_method_34_code
def yX7_passDayByDraws : MethodName := ⟨RX7, "passDayByDraws", "()I"⟩
abbrev cX7_almsOnDay : ByteArray := prog_1_method_35_code
def yX7_almsOnDay : MethodName := ⟨RX7, "almsOnDay", "(II)I"⟩
abbrev cX7_fitsAllTales : ByteArray := prog_1_method_36_code
def yX7_fitsAllTales : MethodName := ⟨RX7, "fitsAllTales", "(I)Z"⟩
def RX8 : String := "ShadowAlmsModel"
def TX8 : u_T := fun k => match k with
  | 0 => ("ShadowAlmsModel", "year", "I", false)
  | 1 => ("ShadowAlmsModel", "bells", "I", false)
  | 2 => ("ShadowAlmsModel", "longAt", "[I", true)
  | 3 => ("ShadowAlmsModel", "longer", "[I", true)
  | 4 => ("ShadowAlmsModel", "spots", "I", false)
  | 5 => ("ShadowAlmsModel", "steps", "[I", true)
  | 6 => ("ShadowAlmsModel", "mud", "[I", true)
  | 7 => ("ShadowAlmsModel", "wall", "[I", true)
  | 8 => ("ShadowAlmsModel", "beggars", "I", false)
  | 9 => ("ShadowAlmsModel", "tall", "[I", true)
  | 10 => ("ShadowAlmsModel", "hats", "I", false)
  | 11 => ("ShadowAlmsModel", "high", "[I", true)
  | 12 => ("ShadowAlmsModel", "cost", "[I", true)
  | 13 => ("ShadowAlmsModel", "today", "I", false)
  | 14 => ("ShadowAlmsModel", "spotOf", "[I", true)
  | 15 => ("ShadowAlmsModel", "hatOf", "[I", true)
  | 16 => ("ShadowAlmsModel", "purse", "[I", true)
  | 17 => ("ShadowAlmsModel", "given", "I", false)
  | 18 => ("ShadowAlmsModel", "law", "I", false)
  | 19 => ("ShadowAlmsModel", "seed", "I", false)
  | 20 => ("ShadowAlmsModel", "text", "[I", true)
  | 21 => ("ShadowAlmsModel", "texted", "I", false)
  | 22 => ("ShadowAlmsModel", "faultPlace", "I", false)
  | 23 => ("ShadowAlmsModel", "at0", "I", false)
  | 24 => ("ShadowAlmsModel", "said", "J", false)
  | 25 => ("ShadowAlmsModel", "wordEnd", "I", false)
  | 26 => ("ShadowAlmsModel", "number", "I", false)
  | 27 => ("ShadowAlmsModel", "numberAt", "I", false)
  | 28 => ("ShadowAlmsModel", "readYear", "I", false)
  | 29 => ("ShadowAlmsModel", "readClauses", "I", false)
  | 30 => ("ShadowAlmsModel", "readBells", "I", false)
  | 31 => ("ShadowAlmsModel", "readLong", "[I", true)
  | 32 => ("ShadowAlmsModel", "readLonger", "[I", true)
  | 33 => ("ShadowAlmsModel", "readSpots", "I", false)
  | 34 => ("ShadowAlmsModel", "readSteps", "[I", true)
  | 35 => ("ShadowAlmsModel", "readMud", "[I", true)
  | 36 => ("ShadowAlmsModel", "readWall", "[I", true)
  | 37 => ("ShadowAlmsModel", "readBeggars", "I", false)
  | 38 => ("ShadowAlmsModel", "readTall", "[I", true)
  | 39 => ("ShadowAlmsModel", "readHats", "I", false)
  | 40 => ("ShadowAlmsModel", "readHigh", "[I", true)
  | 41 => ("ShadowAlmsModel", "readCost", "[I", true)
  | 42 => ("ShadowAlmsModel", "shade", "[I", true)
  | 43 => ("ShadowAlmsModel", "alms", "[I", true)
  | 44 => ("ShadowAlmsModel", "wasSpot", "[I", true)
  | 45 => ("ShadowAlmsModel", "wasHat", "[I", true)
  | 46 => ("ShadowAlmsModel", "bestRow", "[I", true)
  | 47 => ("ShadowAlmsModel", "bestSum", "I", false)
  | 48 => ("ShadowAlmsModel", "tolds", "I", false)
  | 49 => ("ShadowAlmsModel", "toldLong", "[I", true)
  | 50 => ("ShadowAlmsModel", "toldSpot", "[I", true)
  | 51 => ("ShadowAlmsModel", "toldInches", "[I", true)
  | 52 => ("ShadowAlmsModel", "booked", "I", false)
  | 53 => ("ShadowAlmsModel", "bookBell", "[I", true)
  | 54 => ("ShadowAlmsModel", "bookWho", "[I", true)
  | 55 => ("ShadowAlmsModel", "bookAlms", "[I", true)
  | 56 => ("ShadowAlmsModel", "images", "[I", true)
  | _ => ("ShadowAlmsModel", "isKept", "[Z", true)
def tyX8 : Nat → FieldType := fun k => match k with
  | 0 => .int
  | 1 => .int
  | 2 => .array .int
  | 3 => .array .int
  | 4 => .int
  | 5 => .array .int
  | 6 => .array .int
  | 7 => .array .int
  | 8 => .int
  | 9 => .array .int
  | 10 => .int
  | 11 => .array .int
  | 12 => .array .int
  | 13 => .int
  | 14 => .array .int
  | 15 => .array .int
  | 16 => .array .int
  | 17 => .int
  | 18 => .int
  | 19 => .int
  | 20 => .array .int
  | 21 => .int
  | 22 => .int
  | 23 => .int
  | 24 => .long
  | 25 => .int
  | 26 => .int
  | 27 => .int
  | 28 => .int
  | 29 => .int
  | 30 => .int
  | 31 => .array .int
  | 32 => .array .int
  | 33 => .int
  | 34 => .array .int
  | 35 => .array .int
  | 36 => .array .int
  | 37 => .int
  | 38 => .array .int
  | 39 => .int
  | 40 => .array .int
  | 41 => .array .int
  | 42 => .array .int
  | 43 => .array .int
  | 44 => .array .int
  | 45 => .array .int
  | 46 => .array .int
  | 47 => .int
  | 48 => .int
  | 49 => .array .int
  | 50 => .array .int
  | 51 => .array .int
  | 52 => .int
  | 53 => .array .int
  | 54 => .array .int
  | 55 => .array .int
  | 56 => .array .int
  | _ => .array .boolean
abbrev wsX80 : List Cond := u_ws RX8 TX8 58
theorem nmX8 : ∀ a, a < 58 → ∀ b, b < 58 → a ≠ b → (TX8 a).2.1 ≠ (TX8 b).2.1 := by decide +kernel
theorem tyX8_ok : ∀ k, k < 58 → parseFieldDescriptor (TX8 k).2.2.1 = some (tyX8 k) := by decide +kernel
abbrev cX8_init : ByteArray := prog_10_method_1_code
def yX8_init : MethodName := ⟨RX8, "<init>", "()V"⟩
abbrev cX8_in : ByteArray := prog_10_method_3_code
def yX8_in : MethodName := ⟨RX8, "in", "(JJJ)Z"⟩
abbrev cX8_isBell : ByteArray := prog_10_method_4_code
def yX8_isBell : MethodName := ⟨RX8, "isBell", "(I)Z"⟩
abbrev cX8_isSpot : ByteArray := prog_10_method_5_code
def yX8_isSpot : MethodName := ⟨RX8, "isSpot", "(I)Z"⟩
abbrev cX8_isBeggar : ByteArray := prog_10_method_6_code
def yX8_isBeggar : MethodName := ⟨RX8, "isBeggar", "(I)Z"⟩
abbrev cX8_isHat : ByteArray := prog_10_method_7_code
def yX8_isHat : MethodName := ⟨RX8, "isHat", "(I)Z"⟩
abbrev cX8_feed : ByteArray := prog_10_method_8_code
def yX8_feed : MethodName := ⟨RX8, "feed", "(IJ)I"⟩
abbrev cX8_here : ByteArray := prog_10_method_9_code
def yX8_here : MethodName := ⟨RX8, "here", "()I"⟩
abbrev cX8_fails : ByteArray := prog_10_method_10_code
def yX8_fails : MethodName := ⟨RX8, "fails", "(II)I"⟩
abbrev cX8_readWord : ByteArray := prog_10_method_11_code
def yX8_readWord : MethodName := ⟨RX8, "readWord", "()V"⟩
abbrev cX8_code : ByteArray := prog_10_method_12_code
def yX8_code : MethodName := ⟨RX8, "code", "(III)J"⟩
abbrev cX8_more : ByteArray := prog_10_method_13_code
def yX8_more : MethodName := ⟨RX8, "more", "(JI)J"⟩
abbrev cX8_takeNumber : ByteArray := prog_10_method_14_code
def yX8_takeNumber : MethodName := ⟨RX8, "takeNumber", "(II)I"⟩
abbrev cX8_into : ByteArray := prog_10_method_15_code
def yX8_into : MethodName := ⟨RX8, "into", "([IIII)I"⟩
abbrev cX8_takeBell : ByteArray := prog_10_method_16_code
def yX8_takeBell : MethodName := ⟨RX8, "takeBell", "()I"⟩
abbrev cX8_takeSpot : ByteArray := prog_10_method_17_code
def yX8_takeSpot : MethodName := ⟨RX8, "takeSpot", "()I"⟩
abbrev cX8_takeBeggar : ByteArray := prog_10_method_18_code
def yX8_takeBeggar : MethodName := ⟨RX8, "takeBeggar", "()I"⟩
abbrev cX8_takeHat : ByteArray := prog_10_method_19_code
def yX8_takeHat : MethodName := ⟨RX8, "takeHat", "()I"⟩
abbrev cX8_takeYear : ByteArray := prog_10_method_20_code
def yX8_takeYear : MethodName := ⟨RX8, "takeYear", "()I"⟩
abbrev cX8_takeClause : ByteArray := prog_10_method_21_code
def yX8_takeClause : MethodName := ⟨RX8, "takeClause", "()I"⟩
abbrev cX8_square : ByteArray := prog_10_method_22_code
def yX8_square : MethodName := ⟨RX8, "square", "()I"⟩
abbrev cX8_fault : ByteArray := prog_10_method_23_code
def yX8_fault : MethodName := ⟨RX8, "fault", "()I"⟩
abbrev cX8_told : ByteArray := prog_10_method_24_code
def yX8_told : MethodName := ⟨RX8, "told", "(I)I"⟩
abbrev cX8_longOn : ByteArray := prog_10_method_25_code
def yX8_longOn : MethodName := ⟨RX8, "longOn", "(II)I"⟩
abbrev cX8_bell : ByteArray := prog_10_method_26_code
def yX8_bell : MethodName := ⟨RX8, "bell", "(II)I"⟩
abbrev cX8_whoIsOn : ByteArray := prog_10_method_27_code
def yX8_whoIsOn : MethodName := ⟨RX8, "whoIsOn", "(II)I"⟩
abbrev cX8_spot : ByteArray := prog_10_method_28_code
def yX8_spot : MethodName := ⟨RX8, "spot", "(II)I"⟩
abbrev cX8_tallOf : ByteArray := prog_10_method_29_code
def yX8_tallOf : MethodName := ⟨RX8, "tallOf", "(I)I"⟩
abbrev cX8_beggar : ByteArray := prog_10_method_30_code
def yX8_beggar : MethodName := ⟨RX8, "beggar", "(II)I"⟩
abbrev cX8_onWhom : ByteArray := prog_10_method_31_code
def yX8_onWhom : MethodName := ⟨RX8, "onWhom", "(I)I"⟩
abbrev cX8_hat : ByteArray := prog_10_method_32_code
def yX8_hat : MethodName := ⟨RX8, "hat", "(II)I"⟩
abbrev cX8_lengthBy : ByteArray := prog_10_method_33_code
def yX8_lengthBy : MethodName := ⟨RX8, "lengthBy", "(III)I"⟩
abbrev cX8_shadowOf : ByteArray := prog_10_method_34_code
def yX8_shadowOf : MethodName := ⟨RX8, "shadowOf", "(III)I"⟩
abbrev cX8_costOf : ByteArray := prog_10_method_35_code
def yX8_costOf : MethodName := ⟨RX8, "costOf", "(I)I"⟩
abbrev cX8_findAlms : ByteArray := prog_10_method_36_code
def yX8_findAlms : MethodName := ⟨RX8, "findAlms", "(II)V"⟩
abbrev cX8_almsOf : ByteArray := prog_10_method_37_code
def yX8_almsOf : MethodName := ⟨RX8, "almsOf", "(I)I"⟩
abbrev cX8_almsOfAll : ByteArray := prog_10_method_38_code
def yX8_almsOfAll : MethodName := ⟨RX8, "almsOfAll", "(I)I"⟩
abbrev cX8_longNow : ByteArray := prog_10_method_39_code
def yX8_longNow : MethodName := ⟨RX8, "longNow", "(I)I"⟩
abbrev cX8_shadow : ByteArray := prog_10_method_40_code
def yX8_shadow : MethodName := ⟨RX8, "shadow", "(III)I"⟩
abbrev cX8_go : ByteArray := prog_10_method_41_code
def yX8_go : MethodName := ⟨RX8, "go", "(II)I"⟩
abbrev cX8_lend : ByteArray := prog_10_method_42_code
def yX8_lend : MethodName := ⟨RX8, "lend", "(II)I"⟩
abbrev cX8_law : ByteArray := prog_10_method_43_code
def yX8_law : MethodName := ⟨RX8, "law", "(I)I"⟩
abbrev cX8_held : ByteArray := prog_10_method_44_code
def yX8_held : MethodName := ⟨RX8, "held", "(I)I"⟩
abbrev cX8_ringNow : ByteArray := prog_10_method_45_code
def yX8_ringNow : MethodName := ⟨RX8, "ringNow", "(I)I"⟩
abbrev cX8_ring : ByteArray := prog_10_method_46_code
def yX8_ring : MethodName := ⟨RX8, "ring", "(I)I"⟩
abbrev cX8_day : ByteArray := prog_10_method_47_code
def yX8_day : MethodName := ⟨RX8, "day", "(I)I"⟩
abbrev cX8_draw : ByteArray := prog_10_method_48_code
def yX8_draw : MethodName := ⟨RX8, "draw", "(I)I"⟩
abbrev cX8_dayNow : ByteArray := prog_10_method_49_code
def yX8_dayNow : MethodName := ⟨RX8, "dayNow", "()I"⟩
abbrev cX8_drift : ByteArray := prog_10_method_50_code
def yX8_drift : MethodName := ⟨RX8, "drift", "(I)I"⟩
abbrev cX8_saveAll : ByteArray := prog_10_method_51_code
def yX8_saveAll : MethodName := ⟨RX8, "saveAll", "()V"⟩
abbrev cX8_putBack : ByteArray := prog_10_method_52_code
def yX8_putBack : MethodName := ⟨RX8, "putBack", "()V"⟩
abbrev cX8_standBy : ByteArray := prog_10_method_53_code
def yX8_standBy : MethodName := ⟨RX8, "standBy", "(II)Z"⟩
abbrev cX8_findStanding : ByteArray := prog_10_method_54_code
def yX8_findStanding : MethodName := ⟨RX8, "findStanding", "(II)V"⟩
abbrev cX8_standing : ByteArray := prog_10_method_55_code
def yX8_standing : MethodName := ⟨RX8, "standing", "(III)I"⟩
abbrev cX8_lendBy : ByteArray := prog_10_method_56_code
def yX8_lendBy : MethodName := ⟨RX8, "lendBy", "(I)Z"⟩
abbrev cX8_hats : ByteArray := prog_10_method_57_code
def yX8_hats : MethodName := ⟨RX8, "hats", "(II)I"⟩
abbrev cX8_giant : ByteArray := prog_10_method_58_code
def yX8_giant : MethodName := ⟨RX8, "giant", "(IIII)I"⟩
abbrev cX8_lacksFor : ByteArray := prog_10_method_59_code
def yX8_lacksFor : MethodName := ⟨RX8, "lacksFor", "(I)I"⟩
abbrev cX8_peace : ByteArray := prog_10_method_60_code
def yX8_peace : MethodName := ⟨RX8, "peace", "(II)I"⟩
abbrev cX8_bread : ByteArray := prog_10_method_61_code
def yX8_bread : MethodName := ⟨RX8, "bread", "(II)I"⟩
abbrev cX8_best : ByteArray := prog_10_method_62_code
def yX8_best : MethodName := ⟨RX8, "best", "(II)I"⟩
abbrev cX8_tell : ByteArray := prog_10_method_63_code
def yX8_tell : MethodName := ⟨RX8, "tell", "(IIII)I"⟩
abbrev cX8_isAsTold : ByteArray := prog_10_method_64_code
def yX8_isAsTold : MethodName := ⟨RX8, "isAsTold", "(I)Z"⟩
abbrev cX8_fits : ByteArray := prog_10_method_65_code
def yX8_fits : MethodName := ⟨RX8, "fits", "(I)I"⟩
abbrev cX8_write : ByteArray := prog_10_method_66_code
def yX8_write : MethodName := ⟨RX8, "write", "(III)I"⟩
abbrev cX8_tear : ByteArray := prog_10_method_67_code
def yX8_tear : MethodName := ⟨RX8, "tear", "()I"⟩
abbrev cX8_judge : ByteArray := prog_10_method_68_code
def yX8_judge : MethodName := ⟨RX8, "judge", "()I"⟩
abbrev cX8_seed : ByteArray := prog_10_method_69_code
def yX8_seed : MethodName := ⟨RX8, "seed", "(I)I"⟩
abbrev cX8_keep : ByteArray := prog_10_method_70_code
def yX8_keep : MethodName := ⟨RX8, "keep", "(I)I"⟩
abbrev cX8_goBack : ByteArray := prog_10_method_71_code
def yX8_goBack : MethodName := ⟨RX8, "goBack", "(I)I"⟩
def RJx145de : String := "java/io/Serializable"
def TJx145de : u_T := fun k => match k with
  | _ => ("", "", "", false)
def tyJx145de : Nat → FieldType := fun k => match k with
  | _ => .int
abbrev wsJx145de0 : List Cond := u_ws RJx145de TJx145de 0
theorem nmJx145de : ∀ a, a < 0 → ∀ b, b < 0 → a ≠ b → (TJx145de a).2.1 ≠ (TJx145de b).2.1 := by decide +kernel
theorem tyJx145de_ok : ∀ k, k < 0 → parseFieldDescriptor (TJx145de k).2.2.1 = some (tyJx145de k) := by decide +kernel
def RJx9f9b0 : String := "java/lang/CharSequence"
def TJx9f9b0 : u_T := fun k => match k with
  | _ => ("", "", "", false)
def tyJx9f9b0 : Nat → FieldType := fun k => match k with
  | _ => .int
abbrev wsJx9f9b00 : List Cond := u_ws RJx9f9b0 TJx9f9b0 0
theorem nmJx9f9b0 : ∀ a, a < 0 → ∀ b, b < 0 → a ≠ b → (TJx9f9b0 a).2.1 ≠ (TJx9f9b0 b).2.1 := by decide +kernel
theorem tyJx9f9b0_ok : ∀ k, k < 0 → parseFieldDescriptor (TJx9f9b0 k).2.2.1 = some (tyJx9f9b0 k) := by decide +kernel
def RJxb160c : String := "java/lang/Comparable"
def TJxb160c : u_T := fun k => match k with
  | _ => ("", "", "", false)
def tyJxb160c : Nat → FieldType := fun k => match k with
  | _ => .int
abbrev wsJxb160c0 : List Cond := u_ws RJxb160c TJxb160c 0
theorem nmJxb160c : ∀ a, a < 0 → ∀ b, b < 0 → a ≠ b → (TJxb160c a).2.1 ≠ (TJxb160c b).2.1 := by decide +kernel
theorem tyJxb160c_ok : ∀ k, k < 0 → parseFieldDescriptor (TJxb160c k).2.2.1 = some (tyJxb160c k) := by decide +kernel
def RJ9 : String := "java/lang/Math"
def TJ9 : u_T := fun k => match k with
  | _ => ("", "", "", false)
def tyJ9 : Nat → FieldType := fun k => match k with
  | _ => .int
abbrev wsJ90 : List Cond := u_ws RJ9 TJ9 0
theorem nmJ9 : ∀ a, a < 0 → ∀ b, b < 0 → a ≠ b → (TJ9 a).2.1 ≠ (TJ9 b).2.1 := by decide +kernel
theorem tyJ9_ok : ∀ k, k < 0 → parseFieldDescriptor (TJ9 k).2.2.1 = some (tyJ9 k) := by decide +kernel
abbrev cJ9_max_7cf53 : ByteArray := prog_11_method_65_code
def yJ9_max_7cf53 : MethodName := ⟨RJ9, "max", "(II)I"⟩
abbrev cJ9_min_7cf53 : ByteArray := prog_11_method_69_code
def yJ9_min_7cf53 : MethodName := ⟨RJ9, "min", "(II)I"⟩
def RJ0 : String := "java/lang/String"
def TJ0 : u_T := fun k => match k with
  | _ => ("", "", "", false)
def tyJ0 : Nat → FieldType := fun k => match k with
  | _ => .int
abbrev wsJ00 : List Cond := u_ws RJ0 TJ0 0
theorem nmJ0 : ∀ a, a < 0 → ∀ b, b < 0 → a ≠ b → (TJ0 a).2.1 ≠ (TJ0 b).2.1 := by decide +kernel
theorem tyJ0_ok : ∀ k, k < 0 → parseFieldDescriptor (TJ0 k).2.2.1 = some (tyJ0 k) := by decide +kernel
abbrev cJ0_length_8abf5 : ByteArray := prog_12_method_54_code
def yJ0_length_8abf5 : MethodName := ⟨RJ0, "length", "()I"⟩
abbrev cJ0_charAt_5068e : ByteArray := prog_12_method_56_code
def yJ0_charAt_5068e : MethodName := ⟨RJ0, "charAt", "(I)C"⟩
abbrev cJ0_coder_7d493 : ByteArray := prog_12_method_152_code
def yJ0_coder_7d493 : MethodName := ⟨RJ0, "coder", "()B"⟩
abbrev cJ0_isLatin1_aae02 : ByteArray := prog_12_method_154_code
def yJ0_isLatin1_aae02 : MethodName := ⟨RJ0, "isLatin1", "()Z"⟩
abbrev cJ0_checkIndex_df160 : ByteArray := prog_12_method_155_code
def yJ0_checkIndex_df160 : MethodName := ⟨RJ0, "checkIndex", "(II)V"⟩
def RJ1 : String := "java/lang/StringLatin1"
def TJ1 : u_T := fun k => match k with
  | _ => ("", "", "", false)
def tyJ1 : Nat → FieldType := fun k => match k with
  | _ => .int
abbrev wsJ10 : List Cond := u_ws RJ1 TJ1 0
theorem nmJ1 : ∀ a, a < 0 → ∀ b, b < 0 → a ≠ b → (TJ1 a).2.1 ≠ (TJ1 b).2.1 := by decide +kernel
theorem tyJ1_ok : ∀ k, k < 0 → parseFieldDescriptor (TJ1 k).2.2.1 = some (tyJ1 k) := by decide +kernel
abbrev cJ1_charAt_3b067 : ByteArray := prog_13_method_2_code
def yJ1_charAt_3b067 : MethodName := ⟨RJ1, "charAt", "([BI)C"⟩
def RJ2 : String := "java/lang/StringUTF16"
def TJ2 : u_T := fun k => match k with
  | _ => ("", "", "", false)
def tyJ2 : Nat → FieldType := fun k => match k with
  | _ => .int
abbrev wsJ20 : List Cond := u_ws RJ2 TJ2 0
theorem nmJ2 : ∀ a, a < 0 → ∀ b, b < 0 → a ≠ b → (TJ2 a).2.1 ≠ (TJ2 b).2.1 := by decide +kernel
theorem tyJ2_ok : ∀ k, k < 0 → parseFieldDescriptor (TJ2 k).2.2.1 = some (tyJ2 k) := by decide +kernel
abbrev cJ2_getChar_3b067 : ByteArray := prog_14_method_5_code
def yJ2_getChar_3b067 : MethodName := ⟨RJ2, "getChar", "([BI)C"⟩
abbrev cJ2_length_9d52b : ByteArray := prog_14_method_6_code
def yJ2_length_9d52b : MethodName := ⟨RJ2, "length", "([B)I"⟩
abbrev cJ2_charAt_3b067 : ByteArray := prog_14_method_83_code
def yJ2_charAt_3b067 : MethodName := ⟨RJ2, "charAt", "([BI)C"⟩
abbrev cJ2_checkIndex_2214a : ByteArray := prog_14_method_91_code
def yJ2_checkIndex_2214a : MethodName := ⟨RJ2, "checkIndex", "(I[B)V"⟩
def RJ10 : String := "java/lang/System"
def TJ10 : u_T := fun k => match k with
  | _ => ("", "", "", false)
def tyJ10 : Nat → FieldType := fun k => match k with
  | _ => .int
abbrev wsJ100 : List Cond := u_ws RJ10 TJ10 0
theorem nmJ10 : ∀ a, a < 0 → ∀ b, b < 0 → a ≠ b → (TJ10 a).2.1 ≠ (TJ10 b).2.1 := by decide +kernel
theorem tyJ10_ok : ∀ k, k < 0 → parseFieldDescriptor (TJ10 k).2.2.1 = some (tyJ10 k) := by decide +kernel
def RJxfd54e : String := "java/lang/constant/Constable"
def TJxfd54e : u_T := fun k => match k with
  | _ => ("", "", "", false)
def tyJxfd54e : Nat → FieldType := fun k => match k with
  | _ => .int
abbrev wsJxfd54e0 : List Cond := u_ws RJxfd54e TJxfd54e 0
theorem nmJxfd54e : ∀ a, a < 0 → ∀ b, b < 0 → a ≠ b → (TJxfd54e a).2.1 ≠ (TJxfd54e b).2.1 := by decide +kernel
theorem tyJxfd54e_ok : ∀ k, k < 0 → parseFieldDescriptor (TJxfd54e k).2.2.1 = some (tyJxfd54e k) := by decide +kernel
def RJx3cf43 : String := "java/lang/constant/ConstantDesc"
def TJx3cf43 : u_T := fun k => match k with
  | _ => ("", "", "", false)
def tyJx3cf43 : Nat → FieldType := fun k => match k with
  | _ => .int
abbrev wsJx3cf430 : List Cond := u_ws RJx3cf43 TJx3cf43 0
theorem nmJx3cf43 : ∀ a, a < 0 → ∀ b, b < 0 → a ≠ b → (TJx3cf43 a).2.1 ≠ (TJx3cf43 b).2.1 := by decide +kernel
theorem tyJx3cf43_ok : ∀ k, k < 0 → parseFieldDescriptor (TJx3cf43 k).2.2.1 = some (tyJx3cf43 k) := by decide +kernel
def RJ7 : String := "java/util/Arrays"
def TJ7 : u_T := fun k => match k with
  | _ => ("", "", "", false)
def tyJ7 : Nat → FieldType := fun k => match k with
  | _ => .int
abbrev wsJ70 : List Cond := u_ws RJ7 TJ7 0
theorem nmJ7 : ∀ a, a < 0 → ∀ b, b < 0 → a ≠ b → (TJ7 a).2.1 ≠ (TJ7 b).2.1 := by decide +kernel
theorem tyJ7_ok : ∀ k, k < 0 → parseFieldDescriptor (TJ7 k).2.2.1 = some (tyJ7 k) := by decide +kernel
abbrev cJ7_fill_53178 : ByteArray := prog_16_method_103_code
def yJ7_fill_53178 : MethodName := ⟨RJ7, "fill", "([II)V"⟩
def RJ3 : String := "jdk/internal/util/Preconditions"
def TJ3 : u_T := fun k => match k with
  | _ => ("", "", "", false)
def tyJ3 : Nat → FieldType := fun k => match k with
  | _ => .int
abbrev wsJ30 : List Cond := u_ws RJ3 TJ3 0
theorem nmJ3 : ∀ a, a < 0 → ∀ b, b < 0 → a ≠ b → (TJ3 a).2.1 ≠ (TJ3 b).2.1 := by decide +kernel
theorem tyJ3_ok : ∀ k, k < 0 → parseFieldDescriptor (TJ3 k).2.2.1 = some (tyJ3 k) := by decide +kernel
abbrev cJ3_checkIndex_8e157 : ByteArray := prog_17_method_11_code
def yJ3_checkIndex_8e157 : MethodName := ⟨RJ3, "checkIndex", "(IILjava/util/function/BiFunction;)I"⟩
def RL : String := "ShadowAlmsLaw"
abbrev cL_law : ByteArray := code
def yL_law : MethodName := ⟨RL, "law", "([I)Z"⟩
abbrev vwCl : List vw_C := [(RX0, TX0, 6), (RX1, TX1, 6), (RX2, TX2, 2), (RX3, TX3, 7), (RX4, TX4, 3), (RX5, TX5, 9), (RX6, TX6, 7), (RX7, TX7, 10), (RX8, TX8, 58)]
end
section
theorem dX0_init_0 : decode cX0_init 0 = .ok (.aload_n 0, 1) := by decide +kernel
theorem dX0_init_1 : decode cX0_init 1 = .ok (.invokespecial 3, 3) := by decide +kernel
theorem dX0_init_4 : decode cX0_init 4 = .ok (.aload_n 0, 1) := by decide +kernel
theorem dX0_init_5 : decode cX0_init 5 = .ok (.iconst 4, 1) := by decide +kernel
theorem dX0_init_6 : decode cX0_init 6 = .ok (.newarray .int, 2) := by decide +kernel
theorem dX0_init_8 : decode cX0_init 8 = .ok (.putfield 9, 3) := by decide +kernel
theorem dX0_init_11 : decode cX0_init 11 = .ok (.aload_n 0, 1) := by decide +kernel
theorem dX0_init_12 : decode cX0_init 12 = .ok (.iconst 4, 1) := by decide +kernel
theorem dX0_init_13 : decode cX0_init 13 = .ok (.newarray .int, 2) := by decide +kernel
theorem dX0_init_15 : decode cX0_init 15 = .ok (.putfield 15, 3) := by decide +kernel
theorem dX0_init_18 : decode cX0_init 18 = .ok (.aload_n 0, 1) := by decide +kernel
theorem dX0_init_19 : decode cX0_init 19 = .ok (.aload_n 1, 1) := by decide +kernel
theorem dX0_init_20 : decode cX0_init 20 = .ok (.putfield 18, 3) := by decide +kernel
theorem dX0_init_23 : decode cX0_init 23 = .ok (.aload_n 0, 1) := by decide +kernel
theorem dX0_init_24 : decode cX0_init 24 = .ok (.aload_n 2, 1) := by decide +kernel
theorem dX0_init_25 : decode cX0_init 25 = .ok (.putfield 22, 3) := by decide +kernel
theorem dX0_init_28 : decode cX0_init 28 = .ok (.return_, 1) := by decide +kernel
theorem dX0_seek_0 : decode cX0_seek 0 = .ok (.aload_n 0, 1) := by decide +kernel
theorem dX0_seek_1 : decode cX0_seek 1 = .ok (.iconst 0, 1) := by decide +kernel
theorem dX0_seek_2 : decode cX0_seek 2 = .ok (.putfield 26, 3) := by decide +kernel
theorem dX0_seek_5 : decode cX0_seek 5 = .ok (.iconst 0, 1) := by decide +kernel
theorem dX0_seek_6 : decode cX0_seek 6 = .ok (.istore_n 1, 1) := by decide +kernel
theorem dX0_seek_7 : decode cX0_seek 7 = .ok (.iconst 0, 1) := by decide +kernel
theorem dX0_seek_8 : decode cX0_seek 8 = .ok (.istore_n 2, 1) := by decide +kernel
theorem dX0_seek_9 : decode cX0_seek 9 = .ok (.iload_n 2, 1) := by decide +kernel
theorem dX0_seek_10 : decode cX0_seek 10 = .ok (.aload_n 0, 1) := by decide +kernel
theorem dX0_seek_11 : decode cX0_seek 11 = .ok (.getfield 18, 3) := by decide +kernel
theorem dX0_seek_14 : decode cX0_seek 14 = .ok (.iconst 2, 1) := by decide +kernel
theorem dX0_seek_15 : decode cX0_seek 15 = .ok (.invokevirtual 30, 3) := by decide +kernel
theorem dX0_seek_18 : decode cX0_seek 18 = .ok (.if_icmp .ge 36, 3) := by decide +kernel
theorem dX0_seek_21 : decode cX0_seek 21 = .ok (.aload_n 0, 1) := by decide +kernel
theorem dX0_seek_22 : decode cX0_seek 22 = .ok (.getfield 22, 3) := by decide +kernel
theorem dX0_seek_25 : decode cX0_seek 25 = .ok (.getfield 36, 3) := by decide +kernel
theorem dX0_seek_28 : decode cX0_seek 28 = .ok (.iload_n 2, 1) := by decide +kernel
theorem dX0_seek_29 : decode cX0_seek 29 = .ok (.iaload, 1) := by decide +kernel
theorem dX0_seek_30 : decode cX0_seek 30 = .ok (.iconst (-1), 1) := by decide +kernel
theorem dX0_seek_31 : decode cX0_seek 31 = .ok (.if_icmp .eq 17, 3) := by decide +kernel
theorem dX0_seek_34 : decode cX0_seek 34 = .ok (.iload_n 1, 1) := by decide +kernel
theorem dX0_seek_35 : decode cX0_seek 35 = .ok (.iconst 1, 1) := by decide +kernel
theorem dX0_seek_36 : decode cX0_seek 36 = .ok (.aload_n 0, 1) := by decide +kernel
theorem dX0_seek_37 : decode cX0_seek 37 = .ok (.getfield 22, 3) := by decide +kernel
theorem dX0_seek_40 : decode cX0_seek 40 = .ok (.getfield 36, 3) := by decide +kernel
theorem dX0_seek_43 : decode cX0_seek 43 = .ok (.iload_n 2, 1) := by decide +kernel
theorem dX0_seek_44 : decode cX0_seek 44 = .ok (.iaload, 1) := by decide +kernel
theorem dX0_seek_45 : decode cX0_seek 45 = .ok (.ishl, 1) := by decide +kernel
theorem dX0_seek_46 : decode cX0_seek 46 = .ok (.ior, 1) := by decide +kernel
theorem dX0_seek_47 : decode cX0_seek 47 = .ok (.istore_n 1, 1) := by decide +kernel
theorem dX0_seek_48 : decode cX0_seek 48 = .ok (.iinc 2 1, 3) := by decide +kernel
theorem dX0_seek_51 : decode cX0_seek 51 = .ok (.goto (-42), 3) := by decide +kernel
theorem dX0_seek_54 : decode cX0_seek 54 = .ok (.aload_n 0, 1) := by decide +kernel
theorem dX0_seek_55 : decode cX0_seek 55 = .ok (.iconst 0, 1) := by decide +kernel
theorem dX0_seek_56 : decode cX0_seek 56 = .ok (.iload_n 1, 1) := by decide +kernel
theorem dX0_seek_57 : decode cX0_seek 57 = .ok (.invokevirtual 41, 3) := by decide +kernel
theorem dX0_seek_60 : decode cX0_seek 60 = .ok (.return_, 1) := by decide +kernel
theorem dX0_handOut_0 : decode cX0_handOut 0 = .ok (.iload_n 1, 1) := by decide +kernel
theorem dX0_handOut_1 : decode cX0_handOut 1 = .ok (.aload_n 0, 1) := by decide +kernel
theorem dX0_handOut_2 : decode cX0_handOut 2 = .ok (.getfield 18, 3) := by decide +kernel
theorem dX0_handOut_5 : decode cX0_handOut 5 = .ok (.iconst 4, 1) := by decide +kernel
theorem dX0_handOut_6 : decode cX0_handOut 6 = .ok (.invokevirtual 30, 3) := by decide +kernel
theorem dX0_handOut_9 : decode cX0_handOut 9 = .ok (.if_icmp .ge 8, 3) := by decide +kernel
theorem dX0_handOut_12 : decode cX0_handOut 12 = .ok (.iload_n 1, 1) := by decide +kernel
theorem dX0_handOut_13 : decode cX0_handOut 13 = .ok (.iconst 4, 1) := by decide +kernel
theorem dX0_handOut_14 : decode cX0_handOut 14 = .ok (.if_icmp .lt 8, 3) := by decide +kernel
theorem dX0_handOut_17 : decode cX0_handOut 17 = .ok (.aload_n 0, 1) := by decide +kernel
theorem dX0_handOut_18 : decode cX0_handOut 18 = .ok (.invokevirtual 45, 3) := by decide +kernel
theorem dX0_handOut_21 : decode cX0_handOut 21 = .ok (.return_, 1) := by decide +kernel
theorem dX0_handOut_22 : decode cX0_handOut 22 = .ok (.aload_n 0, 1) := by decide +kernel
theorem dX0_handOut_23 : decode cX0_handOut 23 = .ok (.getfield 9, 3) := by decide +kernel
theorem dX0_handOut_26 : decode cX0_handOut 26 = .ok (.iload_n 1, 1) := by decide +kernel
theorem dX0_handOut_27 : decode cX0_handOut 27 = .ok (.iconst (-1), 1) := by decide +kernel
theorem dX0_handOut_28 : decode cX0_handOut 28 = .ok (.iastore, 1) := by decide +kernel
theorem dX0_handOut_29 : decode cX0_handOut 29 = .ok (.aload_n 0, 1) := by decide +kernel
theorem dX0_handOut_30 : decode cX0_handOut 30 = .ok (.iload_n 1, 1) := by decide +kernel
theorem dX0_handOut_31 : decode cX0_handOut 31 = .ok (.iconst 1, 1) := by decide +kernel
theorem dX0_handOut_32 : decode cX0_handOut 32 = .ok (.iadd, 1) := by decide +kernel
theorem dX0_handOut_33 : decode cX0_handOut 33 = .ok (.iload_n 2, 1) := by decide +kernel
theorem dX0_handOut_34 : decode cX0_handOut 34 = .ok (.invokevirtual 41, 3) := by decide +kernel
theorem dX0_handOut_37 : decode cX0_handOut 37 = .ok (.iconst 0, 1) := by decide +kernel
theorem dX0_handOut_38 : decode cX0_handOut 38 = .ok (.istore_n 3, 1) := by decide +kernel
theorem dX0_handOut_39 : decode cX0_handOut 39 = .ok (.iload_n 3, 1) := by decide +kernel
theorem dX0_handOut_40 : decode cX0_handOut 40 = .ok (.aload_n 0, 1) := by decide +kernel
theorem dX0_handOut_41 : decode cX0_handOut 41 = .ok (.getfield 18, 3) := by decide +kernel
theorem dX0_handOut_44 : decode cX0_handOut 44 = .ok (.iconst 3, 1) := by decide +kernel
theorem dX0_handOut_45 : decode cX0_handOut 45 = .ok (.invokevirtual 30, 3) := by decide +kernel
theorem dX0_handOut_48 : decode cX0_handOut 48 = .ok (.if_icmp .ge 57, 3) := by decide +kernel
theorem dX0_handOut_51 : decode cX0_handOut 51 = .ok (.iload_n 2, 1) := by decide +kernel
theorem dX0_handOut_52 : decode cX0_handOut 52 = .ok (.iload_n 3, 1) := by decide +kernel
theorem dX0_handOut_53 : decode cX0_handOut 53 = .ok (.ishr, 1) := by decide +kernel
theorem dX0_handOut_54 : decode cX0_handOut 54 = .ok (.iconst 1, 1) := by decide +kernel
theorem dX0_handOut_55 : decode cX0_handOut 55 = .ok (.iand, 1) := by decide +kernel
theorem dX0_handOut_56 : decode cX0_handOut 56 = .ok (.iconst 1, 1) := by decide +kernel
theorem dX0_handOut_57 : decode cX0_handOut 57 = .ok (.if_icmp .ne 42, 3) := by decide +kernel
theorem dX0_handOut_60 : decode cX0_handOut 60 = .ok (.aload_n 0, 1) := by decide +kernel
theorem dX0_handOut_61 : decode cX0_handOut 61 = .ok (.getfield 9, 3) := by decide +kernel
theorem dX0_handOut_64 : decode cX0_handOut 64 = .ok (.iload_n 1, 1) := by decide +kernel
theorem dX0_handOut_65 : decode cX0_handOut 65 = .ok (.iload_n 3, 1) := by decide +kernel
theorem dX0_handOut_66 : decode cX0_handOut 66 = .ok (.iastore, 1) := by decide +kernel
theorem dX0_handOut_67 : decode cX0_handOut 67 = .ok (.aload_n 0, 1) := by decide +kernel
theorem dX0_handOut_68 : decode cX0_handOut 68 = .ok (.getfield 22, 3) := by decide +kernel
theorem dX0_handOut_71 : decode cX0_handOut 71 = .ok (.iload_n 1, 1) := by decide +kernel
theorem dX0_handOut_72 : decode cX0_handOut 72 = .ok (.iload_n 3, 1) := by decide +kernel
theorem dX0_handOut_73 : decode cX0_handOut 73 = .ok (.invokevirtual 48, 3) := by decide +kernel
theorem dX0_handOut_76 : decode cX0_handOut 76 = .ok (.aload_n 0, 1) := by decide +kernel
theorem dX0_handOut_77 : decode cX0_handOut 77 = .ok (.iload_n 1, 1) := by decide +kernel
theorem dX0_handOut_78 : decode cX0_handOut 78 = .ok (.iconst 1, 1) := by decide +kernel
theorem dX0_handOut_79 : decode cX0_handOut 79 = .ok (.iadd, 1) := by decide +kernel
theorem dX0_handOut_80 : decode cX0_handOut 80 = .ok (.iload_n 2, 1) := by decide +kernel
theorem dX0_handOut_81 : decode cX0_handOut 81 = .ok (.iconst 1, 1) := by decide +kernel
theorem dX0_handOut_82 : decode cX0_handOut 82 = .ok (.iload_n 3, 1) := by decide +kernel
theorem dX0_handOut_83 : decode cX0_handOut 83 = .ok (.ishl, 1) := by decide +kernel
theorem dX0_handOut_84 : decode cX0_handOut 84 = .ok (.iconst (-1), 1) := by decide +kernel
theorem dX0_handOut_85 : decode cX0_handOut 85 = .ok (.ixor, 1) := by decide +kernel
theorem dX0_handOut_86 : decode cX0_handOut 86 = .ok (.iand, 1) := by decide +kernel
theorem dX0_handOut_87 : decode cX0_handOut 87 = .ok (.invokevirtual 41, 3) := by decide +kernel
theorem dX0_handOut_90 : decode cX0_handOut 90 = .ok (.aload_n 0, 1) := by decide +kernel
theorem dX0_handOut_91 : decode cX0_handOut 91 = .ok (.getfield 22, 3) := by decide +kernel
theorem dX0_handOut_94 : decode cX0_handOut 94 = .ok (.iload_n 1, 1) := by decide +kernel
theorem dX0_handOut_95 : decode cX0_handOut 95 = .ok (.iload_n 3, 1) := by decide +kernel
theorem dX0_handOut_96 : decode cX0_handOut 96 = .ok (.invokevirtual 51, 3) := by decide +kernel
theorem dX0_handOut_99 : decode cX0_handOut 99 = .ok (.iinc 3 1, 3) := by decide +kernel
theorem dX0_handOut_102 : decode cX0_handOut 102 = .ok (.goto (-63), 3) := by decide +kernel
theorem dX0_handOut_105 : decode cX0_handOut 105 = .ok (.return_, 1) := by decide +kernel
theorem dX0_weigh_0 : decode cX0_weigh 0 = .ok (.aload_n 0, 1) := by decide +kernel
theorem dX0_weigh_1 : decode cX0_weigh 1 = .ok (.getfield 22, 3) := by decide +kernel
theorem dX0_weigh_4 : decode cX0_weigh 4 = .ok (.invokevirtual 54, 3) := by decide +kernel
theorem dX0_weigh_7 : decode cX0_weigh 7 = .ok (.aload_n 0, 1) := by decide +kernel
theorem dX0_weigh_8 : decode cX0_weigh 8 = .ok (.getfield 22, 3) := by decide +kernel
theorem dX0_weigh_11 : decode cX0_weigh 11 = .ok (.invokevirtual 57, 3) := by decide +kernel
theorem dX0_weigh_14 : decode cX0_weigh 14 = .ok (.istore_n 1, 1) := by decide +kernel
theorem dX0_weigh_15 : decode cX0_weigh 15 = .ok (.aload_n 0, 1) := by decide +kernel
theorem dX0_weigh_16 : decode cX0_weigh 16 = .ok (.getfield 26, 3) := by decide +kernel
theorem dX0_weigh_19 : decode cX0_weigh 19 = .ok (.ifCond .eq 11, 3) := by decide +kernel
theorem dX0_weigh_22 : decode cX0_weigh 22 = .ok (.iload_n 1, 1) := by decide +kernel
theorem dX0_weigh_23 : decode cX0_weigh 23 = .ok (.aload_n 0, 1) := by decide +kernel
theorem dX0_weigh_24 : decode cX0_weigh 24 = .ok (.getfield 61, 3) := by decide +kernel
theorem dX0_weigh_27 : decode cX0_weigh 27 = .ok (.if_icmp .le 27, 3) := by decide +kernel
theorem dX0_weigh_30 : decode cX0_weigh 30 = .ok (.aload_n 0, 1) := by decide +kernel
theorem dX0_weigh_31 : decode cX0_weigh 31 = .ok (.iconst 1, 1) := by decide +kernel
theorem dX0_weigh_32 : decode cX0_weigh 32 = .ok (.putfield 26, 3) := by decide +kernel
theorem dX0_weigh_35 : decode cX0_weigh 35 = .ok (.aload_n 0, 1) := by decide +kernel
theorem dX0_weigh_36 : decode cX0_weigh 36 = .ok (.iload_n 1, 1) := by decide +kernel
theorem dX0_weigh_37 : decode cX0_weigh 37 = .ok (.putfield 61, 3) := by decide +kernel
theorem dX0_weigh_40 : decode cX0_weigh 40 = .ok (.aload_n 0, 1) := by decide +kernel
theorem dX0_weigh_41 : decode cX0_weigh 41 = .ok (.getfield 9, 3) := by decide +kernel
theorem dX0_weigh_44 : decode cX0_weigh 44 = .ok (.iconst 0, 1) := by decide +kernel
theorem dX0_weigh_45 : decode cX0_weigh 45 = .ok (.aload_n 0, 1) := by decide +kernel
theorem dX0_weigh_46 : decode cX0_weigh 46 = .ok (.getfield 15, 3) := by decide +kernel
theorem dX0_weigh_49 : decode cX0_weigh 49 = .ok (.iconst 0, 1) := by decide +kernel
theorem dX0_weigh_50 : decode cX0_weigh 50 = .ok (.iconst 4, 1) := by decide +kernel
theorem dX0_weigh_51 : decode cX0_weigh 51 = .ok (.invokestatic 65, 3) := by decide +kernel
theorem dX0_weigh_54 : decode cX0_weigh 54 = .ok (.return_, 1) := by decide +kernel
theorem dX1_init_0 : decode cX1_init 0 = .ok (.aload_n 0, 1) := by decide +kernel
theorem dX1_init_1 : decode cX1_init 1 = .ok (.invokespecial 3, 3) := by decide +kernel
theorem dX1_init_4 : decode cX1_init 4 = .ok (.aload_n 0, 1) := by decide +kernel
theorem dX1_init_5 : decode cX1_init 5 = .ok (.bipush 6, 2) := by decide +kernel
theorem dX1_init_7 : decode cX1_init 7 = .ok (.newarray .int, 2) := by decide +kernel
theorem dX1_init_9 : decode cX1_init 9 = .ok (.putfield 9, 3) := by decide +kernel
theorem dX1_init_12 : decode cX1_init 12 = .ok (.aload_n 0, 1) := by decide +kernel
theorem dX1_init_13 : decode cX1_init 13 = .ok (.aload_n 1, 1) := by decide +kernel
theorem dX1_init_14 : decode cX1_init 14 = .ok (.putfield 15, 3) := by decide +kernel
theorem dX1_init_17 : decode cX1_init 17 = .ok (.aload_n 0, 1) := by decide +kernel
theorem dX1_init_18 : decode cX1_init 18 = .ok (.aload_n 2, 1) := by decide +kernel
theorem dX1_init_19 : decode cX1_init 19 = .ok (.putfield 19, 3) := by decide +kernel
theorem dX1_init_22 : decode cX1_init 22 = .ok (.return_, 1) := by decide +kernel
theorem dX1_seek_0 : decode cX1_seek 0 = .ok (.aload_n 0, 1) := by decide +kernel
theorem dX1_seek_1 : decode cX1_seek 1 = .ok (.iload_n 1, 1) := by decide +kernel
theorem dX1_seek_2 : decode cX1_seek 2 = .ok (.putfield 23, 3) := by decide +kernel
theorem dX1_seek_5 : decode cX1_seek 5 = .ok (.aload_n 0, 1) := by decide +kernel
theorem dX1_seek_6 : decode cX1_seek 6 = .ok (.iconst 0, 1) := by decide +kernel
theorem dX1_seek_7 : decode cX1_seek 7 = .ok (.putfield 27, 3) := by decide +kernel
theorem dX1_seek_10 : decode cX1_seek 10 = .ok (.aload_n 0, 1) := by decide +kernel
theorem dX1_seek_11 : decode cX1_seek 11 = .ok (.iconst 0, 1) := by decide +kernel
theorem dX1_seek_12 : decode cX1_seek 12 = .ok (.aload_n 0, 1) := by decide +kernel
theorem dX1_seek_13 : decode cX1_seek 13 = .ok (.getfield 15, 3) := by decide +kernel
theorem dX1_seek_16 : decode cX1_seek 16 = .ok (.iconst 3, 1) := by decide +kernel
theorem dX1_seek_17 : decode cX1_seek 17 = .ok (.invokevirtual 31, 3) := by decide +kernel
theorem dX1_seek_20 : decode cX1_seek 20 = .ok (.aload_n 0, 1) := by decide +kernel
theorem dX1_seek_21 : decode cX1_seek 21 = .ok (.getfield 15, 3) := by decide +kernel
theorem dX1_seek_24 : decode cX1_seek 24 = .ok (.iconst 2, 1) := by decide +kernel
theorem dX1_seek_25 : decode cX1_seek 25 = .ok (.invokevirtual 31, 3) := by decide +kernel
theorem dX1_seek_28 : decode cX1_seek 28 = .ok (.invokestatic 37, 3) := by decide +kernel
theorem dX1_seek_31 : decode cX1_seek 31 = .ok (.iconst 0, 1) := by decide +kernel
theorem dX1_seek_32 : decode cX1_seek 32 = .ok (.invokevirtual 43, 3) := by decide +kernel
theorem dX1_seek_35 : decode cX1_seek 35 = .ok (.return_, 1) := by decide +kernel
theorem dX1_fill_0 : decode cX1_fill 0 = .ok (.aload_n 0, 1) := by decide +kernel
theorem dX1_fill_1 : decode cX1_fill 1 = .ok (.getfield 15, 3) := by decide +kernel
theorem dX1_fill_4 : decode cX1_fill 4 = .ok (.iconst 2, 1) := by decide +kernel
theorem dX1_fill_5 : decode cX1_fill 5 = .ok (.invokevirtual 31, 3) := by decide +kernel
theorem dX1_fill_8 : decode cX1_fill 8 = .ok (.istore 4, 2) := by decide +kernel
theorem dX1_fill_10 : decode cX1_fill 10 = .ok (.iload_n 1, 1) := by decide +kernel
theorem dX1_fill_11 : decode cX1_fill 11 = .ok (.iload 4, 2) := by decide +kernel
theorem dX1_fill_13 : decode cX1_fill 13 = .ok (.if_icmp .ge 9, 3) := by decide +kernel
theorem dX1_fill_16 : decode cX1_fill 16 = .ok (.iload_n 1, 1) := by decide +kernel
theorem dX1_fill_17 : decode cX1_fill 17 = .ok (.bipush 6, 2) := by decide +kernel
theorem dX1_fill_19 : decode cX1_fill 19 = .ok (.if_icmp .lt 8, 3) := by decide +kernel
theorem dX1_fill_22 : decode cX1_fill 22 = .ok (.aload_n 0, 1) := by decide +kernel
theorem dX1_fill_23 : decode cX1_fill 23 = .ok (.invokevirtual 47, 3) := by decide +kernel
theorem dX1_fill_26 : decode cX1_fill 26 = .ok (.return_, 1) := by decide +kernel
theorem dX1_fill_27 : decode cX1_fill 27 = .ok (.iconst 0, 1) := by decide +kernel
theorem dX1_fill_28 : decode cX1_fill 28 = .ok (.istore 5, 2) := by decide +kernel
theorem dX1_fill_30 : decode cX1_fill 30 = .ok (.iload 5, 2) := by decide +kernel
theorem dX1_fill_32 : decode cX1_fill 32 = .ok (.aload_n 0, 1) := by decide +kernel
theorem dX1_fill_33 : decode cX1_fill 33 = .ok (.getfield 15, 3) := by decide +kernel
theorem dX1_fill_36 : decode cX1_fill 36 = .ok (.iconst 3, 1) := by decide +kernel
theorem dX1_fill_37 : decode cX1_fill 37 = .ok (.invokevirtual 31, 3) := by decide +kernel
theorem dX1_fill_40 : decode cX1_fill 40 = .ok (.if_icmp .ge 49, 3) := by decide +kernel
theorem dX1_fill_43 : decode cX1_fill 43 = .ok (.iload_n 2, 1) := by decide +kernel
theorem dX1_fill_44 : decode cX1_fill 44 = .ok (.ifCond .le 45, 3) := by decide +kernel
theorem dX1_fill_47 : decode cX1_fill 47 = .ok (.iload_n 3, 1) := by decide +kernel
theorem dX1_fill_48 : decode cX1_fill 48 = .ok (.iload 5, 2) := by decide +kernel
theorem dX1_fill_50 : decode cX1_fill 50 = .ok (.ishr, 1) := by decide +kernel
theorem dX1_fill_51 : decode cX1_fill 51 = .ok (.iconst 1, 1) := by decide +kernel
theorem dX1_fill_52 : decode cX1_fill 52 = .ok (.iand, 1) := by decide +kernel
theorem dX1_fill_53 : decode cX1_fill 53 = .ok (.ifCond .ne 30, 3) := by decide +kernel
theorem dX1_fill_56 : decode cX1_fill 56 = .ok (.aload_n 0, 1) := by decide +kernel
theorem dX1_fill_57 : decode cX1_fill 57 = .ok (.getfield 19, 3) := by decide +kernel
theorem dX1_fill_60 : decode cX1_fill 60 = .ok (.getfield 50, 3) := by decide +kernel
theorem dX1_fill_63 : decode cX1_fill 63 = .ok (.iload_n 1, 1) := by decide +kernel
theorem dX1_fill_64 : decode cX1_fill 64 = .ok (.iload 5, 2) := by decide +kernel
theorem dX1_fill_66 : decode cX1_fill 66 = .ok (.iastore, 1) := by decide +kernel
theorem dX1_fill_67 : decode cX1_fill 67 = .ok (.aload_n 0, 1) := by decide +kernel
theorem dX1_fill_68 : decode cX1_fill 68 = .ok (.iload_n 1, 1) := by decide +kernel
theorem dX1_fill_69 : decode cX1_fill 69 = .ok (.iconst 1, 1) := by decide +kernel
theorem dX1_fill_70 : decode cX1_fill 70 = .ok (.iadd, 1) := by decide +kernel
theorem dX1_fill_71 : decode cX1_fill 71 = .ok (.iload_n 2, 1) := by decide +kernel
theorem dX1_fill_72 : decode cX1_fill 72 = .ok (.iconst 1, 1) := by decide +kernel
theorem dX1_fill_73 : decode cX1_fill 73 = .ok (.isub, 1) := by decide +kernel
theorem dX1_fill_74 : decode cX1_fill 74 = .ok (.iload_n 3, 1) := by decide +kernel
theorem dX1_fill_75 : decode cX1_fill 75 = .ok (.iconst 1, 1) := by decide +kernel
theorem dX1_fill_76 : decode cX1_fill 76 = .ok (.iload 5, 2) := by decide +kernel
theorem dX1_fill_78 : decode cX1_fill 78 = .ok (.ishl, 1) := by decide +kernel
theorem dX1_fill_79 : decode cX1_fill 79 = .ok (.ior, 1) := by decide +kernel
theorem dX1_fill_80 : decode cX1_fill 80 = .ok (.invokevirtual 43, 3) := by decide +kernel
theorem dX1_fill_83 : decode cX1_fill 83 = .ok (.iinc 5 1, 3) := by decide +kernel
theorem dX1_fill_86 : decode cX1_fill 86 = .ok (.goto (-56), 3) := by decide +kernel
theorem dX1_fill_89 : decode cX1_fill 89 = .ok (.iload_n 2, 1) := by decide +kernel
theorem dX1_fill_90 : decode cX1_fill 90 = .ok (.iload 4, 2) := by decide +kernel
theorem dX1_fill_92 : decode cX1_fill 92 = .ok (.iload_n 1, 1) := by decide +kernel
theorem dX1_fill_93 : decode cX1_fill 93 = .ok (.isub, 1) := by decide +kernel
theorem dX1_fill_94 : decode cX1_fill 94 = .ok (.if_icmp .ge 22, 3) := by decide +kernel
theorem dX1_fill_97 : decode cX1_fill 97 = .ok (.aload_n 0, 1) := by decide +kernel
theorem dX1_fill_98 : decode cX1_fill 98 = .ok (.getfield 19, 3) := by decide +kernel
theorem dX1_fill_101 : decode cX1_fill 101 = .ok (.getfield 50, 3) := by decide +kernel
theorem dX1_fill_104 : decode cX1_fill 104 = .ok (.iload_n 1, 1) := by decide +kernel
theorem dX1_fill_105 : decode cX1_fill 105 = .ok (.iconst (-1), 1) := by decide +kernel
theorem dX1_fill_106 : decode cX1_fill 106 = .ok (.iastore, 1) := by decide +kernel
theorem dX1_fill_107 : decode cX1_fill 107 = .ok (.aload_n 0, 1) := by decide +kernel
theorem dX1_fill_108 : decode cX1_fill 108 = .ok (.iload_n 1, 1) := by decide +kernel
theorem dX1_fill_109 : decode cX1_fill 109 = .ok (.iconst 1, 1) := by decide +kernel
theorem dX1_fill_110 : decode cX1_fill 110 = .ok (.iadd, 1) := by decide +kernel
theorem dX1_fill_111 : decode cX1_fill 111 = .ok (.iload_n 2, 1) := by decide +kernel
theorem dX1_fill_112 : decode cX1_fill 112 = .ok (.iload_n 3, 1) := by decide +kernel
theorem dX1_fill_113 : decode cX1_fill 113 = .ok (.invokevirtual 43, 3) := by decide +kernel
theorem dX1_fill_116 : decode cX1_fill 116 = .ok (.return_, 1) := by decide +kernel
theorem dX1_weigh_0 : decode cX1_weigh 0 = .ok (.aload_n 0, 1) := by decide +kernel
theorem dX1_weigh_1 : decode cX1_weigh 1 = .ok (.getfield 19, 3) := by decide +kernel
theorem dX1_weigh_4 : decode cX1_weigh 4 = .ok (.invokevirtual 55, 3) := by decide +kernel
theorem dX1_weigh_7 : decode cX1_weigh 7 = .ok (.aload_n 0, 1) := by decide +kernel
theorem dX1_weigh_8 : decode cX1_weigh 8 = .ok (.getfield 23, 3) := by decide +kernel
theorem dX1_weigh_11 : decode cX1_weigh 11 = .ok (.iconst (-1), 1) := by decide +kernel
theorem dX1_weigh_12 : decode cX1_weigh 12 = .ok (.if_icmp .ne 13, 3) := by decide +kernel
theorem dX1_weigh_15 : decode cX1_weigh 15 = .ok (.aload_n 0, 1) := by decide +kernel
theorem dX1_weigh_16 : decode cX1_weigh 16 = .ok (.getfield 19, 3) := by decide +kernel
theorem dX1_weigh_19 : decode cX1_weigh 19 = .ok (.invokevirtual 58, 3) := by decide +kernel
theorem dX1_weigh_22 : decode cX1_weigh 22 = .ok (.goto 14, 3) := by decide +kernel
theorem dX1_weigh_25 : decode cX1_weigh 25 = .ok (.aload_n 0, 1) := by decide +kernel
theorem dX1_weigh_26 : decode cX1_weigh 26 = .ok (.getfield 19, 3) := by decide +kernel
theorem dX1_weigh_29 : decode cX1_weigh 29 = .ok (.aload_n 0, 1) := by decide +kernel
theorem dX1_weigh_30 : decode cX1_weigh 30 = .ok (.getfield 23, 3) := by decide +kernel
theorem dX1_weigh_33 : decode cX1_weigh 33 = .ok (.invokevirtual 62, 3) := by decide +kernel
theorem dX1_weigh_36 : decode cX1_weigh 36 = .ok (.istore_n 1, 1) := by decide +kernel
theorem dX1_weigh_37 : decode cX1_weigh 37 = .ok (.aload_n 0, 1) := by decide +kernel
theorem dX1_weigh_38 : decode cX1_weigh 38 = .ok (.getfield 27, 3) := by decide +kernel
theorem dX1_weigh_41 : decode cX1_weigh 41 = .ok (.ifCond .eq 11, 3) := by decide +kernel
theorem dX1_weigh_44 : decode cX1_weigh 44 = .ok (.iload_n 1, 1) := by decide +kernel
theorem dX1_weigh_45 : decode cX1_weigh 45 = .ok (.aload_n 0, 1) := by decide +kernel
theorem dX1_weigh_46 : decode cX1_weigh 46 = .ok (.getfield 65, 3) := by decide +kernel
theorem dX1_weigh_49 : decode cX1_weigh 49 = .ok (.if_icmp .le 31, 3) := by decide +kernel
theorem dX1_weigh_52 : decode cX1_weigh 52 = .ok (.aload_n 0, 1) := by decide +kernel
theorem dX1_weigh_53 : decode cX1_weigh 53 = .ok (.iconst 1, 1) := by decide +kernel
theorem dX1_weigh_54 : decode cX1_weigh 54 = .ok (.putfield 27, 3) := by decide +kernel
theorem dX1_weigh_57 : decode cX1_weigh 57 = .ok (.aload_n 0, 1) := by decide +kernel
theorem dX1_weigh_58 : decode cX1_weigh 58 = .ok (.iload_n 1, 1) := by decide +kernel
theorem dX1_weigh_59 : decode cX1_weigh 59 = .ok (.putfield 65, 3) := by decide +kernel
theorem dX1_weigh_62 : decode cX1_weigh 62 = .ok (.aload_n 0, 1) := by decide +kernel
theorem dX1_weigh_63 : decode cX1_weigh 63 = .ok (.getfield 19, 3) := by decide +kernel
theorem dX1_weigh_66 : decode cX1_weigh 66 = .ok (.getfield 50, 3) := by decide +kernel
theorem dX1_weigh_69 : decode cX1_weigh 69 = .ok (.iconst 0, 1) := by decide +kernel
theorem dX1_weigh_70 : decode cX1_weigh 70 = .ok (.aload_n 0, 1) := by decide +kernel
theorem dX1_weigh_71 : decode cX1_weigh 71 = .ok (.getfield 9, 3) := by decide +kernel
theorem dX1_weigh_74 : decode cX1_weigh 74 = .ok (.iconst 0, 1) := by decide +kernel
theorem dX1_weigh_75 : decode cX1_weigh 75 = .ok (.bipush 6, 2) := by decide +kernel
theorem dX1_weigh_77 : decode cX1_weigh 77 = .ok (.invokestatic 68, 3) := by decide +kernel
theorem dX1_weigh_80 : decode cX1_weigh 80 = .ok (.return_, 1) := by decide +kernel
theorem dX2_init_0 : decode cX2_init 0 = .ok (.aload_n 0, 1) := by decide +kernel
theorem dX2_init_1 : decode cX2_init 1 = .ok (.invokespecial 3, 3) := by decide +kernel
theorem dX2_init_4 : decode cX2_init 4 = .ok (.aload_n 0, 1) := by decide +kernel
theorem dX2_init_5 : decode cX2_init 5 = .ok (.iconst 5, 1) := by decide +kernel
theorem dX2_init_6 : decode cX2_init 6 = .ok (.newarray .int, 2) := by decide +kernel
theorem dX2_init_8 : decode cX2_init 8 = .ok (.putfield 9, 3) := by decide +kernel
theorem dX2_init_11 : decode cX2_init 11 = .ok (.aload_n 0, 1) := by decide +kernel
theorem dX2_init_12 : decode cX2_init 12 = .ok (.bipush 90, 2) := by decide +kernel
theorem dX2_init_14 : decode cX2_init 14 = .ok (.newarray .int, 2) := by decide +kernel
theorem dX2_init_16 : decode cX2_init 16 = .ok (.putfield 15, 3) := by decide +kernel
theorem dX2_init_19 : decode cX2_init 19 = .ok (.return_, 1) := by decide +kernel
theorem dX2_count_0 : decode cX2_count 0 = .ok (.aload_n 0, 1) := by decide +kernel
theorem dX2_count_1 : decode cX2_count 1 = .ok (.getfield 9, 3) := by decide +kernel
theorem dX2_count_4 : decode cX2_count 4 = .ok (.iload_n 1, 1) := by decide +kernel
theorem dX2_count_5 : decode cX2_count 5 = .ok (.iaload, 1) := by decide +kernel
theorem dX2_count_6 : decode cX2_count 6 = .ok (.ireturn, 1) := by decide +kernel
theorem dX2_has_0 : decode cX2_has 0 = .ok (.iload_n 2, 1) := by decide +kernel
theorem dX2_has_1 : decode cX2_has 1 = .ok (.ifCond .lt 17, 3) := by decide +kernel
theorem dX2_has_4 : decode cX2_has 4 = .ok (.iload_n 2, 1) := by decide +kernel
theorem dX2_has_5 : decode cX2_has 5 = .ok (.aload_n 0, 1) := by decide +kernel
theorem dX2_has_6 : decode cX2_has 6 = .ok (.getfield 9, 3) := by decide +kernel
theorem dX2_has_9 : decode cX2_has 9 = .ok (.iload_n 1, 1) := by decide +kernel
theorem dX2_has_10 : decode cX2_has 10 = .ok (.iaload, 1) := by decide +kernel
theorem dX2_has_11 : decode cX2_has 11 = .ok (.if_icmp .ge 7, 3) := by decide +kernel
theorem dX2_has_14 : decode cX2_has 14 = .ok (.iconst 1, 1) := by decide +kernel
theorem dX2_has_15 : decode cX2_has 15 = .ok (.goto 4, 3) := by decide +kernel
theorem dX2_has_18 : decode cX2_has 18 = .ok (.iconst 0, 1) := by decide +kernel
theorem dX2_has_19 : decode cX2_has 19 = .ok (.ireturn, 1) := by decide +kernel
theorem dX2_number_0 : decode cX2_number 0 = .ok (.iload_n 2, 1) := by decide +kernel
theorem dX2_number_1 : decode cX2_number 1 = .ok (.ifCond .lt 13, 3) := by decide +kernel
theorem dX2_number_4 : decode cX2_number 4 = .ok (.iload_n 2, 1) := by decide +kernel
theorem dX2_number_5 : decode cX2_number 5 = .ok (.aload_n 0, 1) := by decide +kernel
theorem dX2_number_6 : decode cX2_number 6 = .ok (.getfield 9, 3) := by decide +kernel
theorem dX2_number_9 : decode cX2_number 9 = .ok (.iload_n 1, 1) := by decide +kernel
theorem dX2_number_10 : decode cX2_number 10 = .ok (.iaload, 1) := by decide +kernel
theorem dX2_number_11 : decode cX2_number 11 = .ok (.if_icmp .lt 5, 3) := by decide +kernel
theorem dX2_number_14 : decode cX2_number 14 = .ok (.iconst 0, 1) := by decide +kernel
theorem dX2_number_15 : decode cX2_number 15 = .ok (.ireturn, 1) := by decide +kernel
theorem dX2_number_16 : decode cX2_number 16 = .ok (.aload_n 0, 1) := by decide +kernel
theorem dX2_number_17 : decode cX2_number 17 = .ok (.getfield 15, 3) := by decide +kernel
theorem dX2_number_20 : decode cX2_number 20 = .ok (.iload_n 1, 1) := by decide +kernel
theorem dX2_number_21 : decode cX2_number 21 = .ok (.bipush 6, 2) := by decide +kernel
theorem dX2_number_23 : decode cX2_number 23 = .ok (.imul, 1) := by decide +kernel
theorem dX2_number_24 : decode cX2_number 24 = .ok (.iload_n 2, 1) := by decide +kernel
theorem dX2_number_25 : decode cX2_number 25 = .ok (.iadd, 1) := by decide +kernel
theorem dX2_number_26 : decode cX2_number 26 = .ok (.iconst 3, 1) := by decide +kernel
theorem dX2_number_27 : decode cX2_number 27 = .ok (.imul, 1) := by decide +kernel
theorem dX2_number_28 : decode cX2_number 28 = .ok (.iload_n 3, 1) := by decide +kernel
theorem dX2_number_29 : decode cX2_number 29 = .ok (.iadd, 1) := by decide +kernel
theorem dX2_number_30 : decode cX2_number 30 = .ok (.iaload, 1) := by decide +kernel
theorem dX2_number_31 : decode cX2_number 31 = .ok (.ireturn, 1) := by decide +kernel
theorem dX2_clear_0 : decode cX2_clear 0 = .ok (.aload_n 0, 1) := by decide +kernel
theorem dX2_clear_1 : decode cX2_clear 1 = .ok (.getfield 9, 3) := by decide +kernel
theorem dX2_clear_4 : decode cX2_clear 4 = .ok (.iconst 0, 1) := by decide +kernel
theorem dX2_clear_5 : decode cX2_clear 5 = .ok (.invokestatic 18, 3) := by decide +kernel
theorem dX2_clear_8 : decode cX2_clear 8 = .ok (.return_, 1) := by decide +kernel
theorem dX2_become_0 : decode cX2_become 0 = .ok (.aload_n 1, 1) := by decide +kernel
theorem dX2_become_1 : decode cX2_become 1 = .ok (.getfield 9, 3) := by decide +kernel
theorem dX2_become_4 : decode cX2_become 4 = .ok (.iconst 0, 1) := by decide +kernel
theorem dX2_become_5 : decode cX2_become 5 = .ok (.aload_n 0, 1) := by decide +kernel
theorem dX2_become_6 : decode cX2_become 6 = .ok (.getfield 9, 3) := by decide +kernel
theorem dX2_become_9 : decode cX2_become 9 = .ok (.iconst 0, 1) := by decide +kernel
theorem dX2_become_10 : decode cX2_become 10 = .ok (.iconst 5, 1) := by decide +kernel
theorem dX2_become_11 : decode cX2_become 11 = .ok (.invokestatic 24, 3) := by decide +kernel
theorem dX2_become_14 : decode cX2_become 14 = .ok (.aload_n 1, 1) := by decide +kernel
theorem dX2_become_15 : decode cX2_become 15 = .ok (.getfield 15, 3) := by decide +kernel
theorem dX2_become_18 : decode cX2_become 18 = .ok (.iconst 0, 1) := by decide +kernel
theorem dX2_become_19 : decode cX2_become 19 = .ok (.aload_n 0, 1) := by decide +kernel
theorem dX2_become_20 : decode cX2_become 20 = .ok (.getfield 15, 3) := by decide +kernel
theorem dX2_become_23 : decode cX2_become 23 = .ok (.iconst 0, 1) := by decide +kernel
theorem dX2_become_24 : decode cX2_become 24 = .ok (.aload_n 0, 1) := by decide +kernel
theorem dX2_become_25 : decode cX2_become 25 = .ok (.getfield 15, 3) := by decide +kernel
theorem dX2_become_28 : decode cX2_become 28 = .ok (.arraylength, 1) := by decide +kernel
theorem dX2_become_29 : decode cX2_become 29 = .ok (.invokestatic 24, 3) := by decide +kernel
theorem dX2_become_32 : decode cX2_become 32 = .ok (.return_, 1) := by decide +kernel
theorem dX2_add_0 : decode cX2_add 0 = .ok (.aload_n 0, 1) := by decide +kernel
theorem dX2_add_1 : decode cX2_add 1 = .ok (.getfield 9, 3) := by decide +kernel
theorem dX2_add_4 : decode cX2_add 4 = .ok (.iload_n 1, 1) := by decide +kernel
theorem dX2_add_5 : decode cX2_add 5 = .ok (.iaload, 1) := by decide +kernel
theorem dX2_add_6 : decode cX2_add 6 = .ok (.getstatic 30, 3) := by decide +kernel
theorem dX2_add_9 : decode cX2_add 9 = .ok (.iload_n 1, 1) := by decide +kernel
theorem dX2_add_10 : decode cX2_add 10 = .ok (.iaload, 1) := by decide +kernel
theorem dX2_add_11 : decode cX2_add 11 = .ok (.if_icmp .ge 38, 3) := by decide +kernel
theorem dX2_add_14 : decode cX2_add 14 = .ok (.iload_n 1, 1) := by decide +kernel
theorem dX2_add_15 : decode cX2_add 15 = .ok (.bipush 6, 2) := by decide +kernel
theorem dX2_add_17 : decode cX2_add 17 = .ok (.imul, 1) := by decide +kernel
theorem dX2_add_18 : decode cX2_add 18 = .ok (.aload_n 0, 1) := by decide +kernel
theorem dX2_add_19 : decode cX2_add 19 = .ok (.getfield 9, 3) := by decide +kernel
theorem dX2_add_22 : decode cX2_add 22 = .ok (.iload_n 1, 1) := by decide +kernel
theorem dX2_add_23 : decode cX2_add 23 = .ok (.iaload, 1) := by decide +kernel
theorem dX2_add_24 : decode cX2_add 24 = .ok (.iadd, 1) := by decide +kernel
theorem dX2_add_25 : decode cX2_add 25 = .ok (.iconst 3, 1) := by decide +kernel
theorem dX2_add_26 : decode cX2_add 26 = .ok (.imul, 1) := by decide +kernel
theorem dX2_add_27 : decode cX2_add 27 = .ok (.istore_n 3, 1) := by decide +kernel
theorem dX2_add_28 : decode cX2_add 28 = .ok (.aload_n 2, 1) := by decide +kernel
theorem dX2_add_29 : decode cX2_add 29 = .ok (.iconst 0, 1) := by decide +kernel
theorem dX2_add_30 : decode cX2_add 30 = .ok (.aload_n 0, 1) := by decide +kernel
theorem dX2_add_31 : decode cX2_add 31 = .ok (.getfield 15, 3) := by decide +kernel
theorem dX2_add_34 : decode cX2_add 34 = .ok (.iload_n 3, 1) := by decide +kernel
theorem dX2_add_35 : decode cX2_add 35 = .ok (.iconst 3, 1) := by decide +kernel
theorem dX2_add_36 : decode cX2_add 36 = .ok (.invokestatic 24, 3) := by decide +kernel
theorem dX2_add_39 : decode cX2_add 39 = .ok (.aload_n 0, 1) := by decide +kernel
theorem dX2_add_40 : decode cX2_add 40 = .ok (.getfield 9, 3) := by decide +kernel
theorem dX2_add_43 : decode cX2_add 43 = .ok (.iload_n 1, 1) := by decide +kernel
theorem dX2_add_44 : decode cX2_add 44 = .ok (.dup2, 1) := by decide +kernel
theorem dX2_add_45 : decode cX2_add 45 = .ok (.iaload, 1) := by decide +kernel
theorem dX2_add_46 : decode cX2_add 46 = .ok (.iconst 1, 1) := by decide +kernel
theorem dX2_add_47 : decode cX2_add 47 = .ok (.iadd, 1) := by decide +kernel
theorem dX2_add_48 : decode cX2_add 48 = .ok (.iastore, 1) := by decide +kernel
theorem dX2_add_49 : decode cX2_add 49 = .ok (.return_, 1) := by decide +kernel
theorem dX2_hasMoreThanYear_0 : decode cX2_hasMoreThanYear 0 = .ok (.aload_n 0, 1) := by decide +kernel
theorem dX2_hasMoreThanYear_1 : decode cX2_hasMoreThanYear 1 = .ok (.getfield 9, 3) := by decide +kernel
theorem dX2_hasMoreThanYear_4 : decode cX2_hasMoreThanYear 4 = .ok (.iconst 1, 1) := by decide +kernel
theorem dX2_hasMoreThanYear_5 : decode cX2_hasMoreThanYear 5 = .ok (.iaload, 1) := by decide +kernel
theorem dX2_hasMoreThanYear_6 : decode cX2_hasMoreThanYear 6 = .ok (.aload_n 0, 1) := by decide +kernel
theorem dX2_hasMoreThanYear_7 : decode cX2_hasMoreThanYear 7 = .ok (.getfield 9, 3) := by decide +kernel
theorem dX2_hasMoreThanYear_10 : decode cX2_hasMoreThanYear 10 = .ok (.iconst 2, 1) := by decide +kernel
theorem dX2_hasMoreThanYear_11 : decode cX2_hasMoreThanYear 11 = .ok (.iaload, 1) := by decide +kernel
theorem dX2_hasMoreThanYear_12 : decode cX2_hasMoreThanYear 12 = .ok (.iadd, 1) := by decide +kernel
theorem dX2_hasMoreThanYear_13 : decode cX2_hasMoreThanYear 13 = .ok (.aload_n 0, 1) := by decide +kernel
theorem dX2_hasMoreThanYear_14 : decode cX2_hasMoreThanYear 14 = .ok (.getfield 9, 3) := by decide +kernel
theorem dX2_hasMoreThanYear_17 : decode cX2_hasMoreThanYear 17 = .ok (.iconst 3, 1) := by decide +kernel
theorem dX2_hasMoreThanYear_18 : decode cX2_hasMoreThanYear 18 = .ok (.iaload, 1) := by decide +kernel
theorem dX2_hasMoreThanYear_19 : decode cX2_hasMoreThanYear 19 = .ok (.iadd, 1) := by decide +kernel
theorem dX2_hasMoreThanYear_20 : decode cX2_hasMoreThanYear 20 = .ok (.aload_n 0, 1) := by decide +kernel
theorem dX2_hasMoreThanYear_21 : decode cX2_hasMoreThanYear 21 = .ok (.getfield 9, 3) := by decide +kernel
theorem dX2_hasMoreThanYear_24 : decode cX2_hasMoreThanYear 24 = .ok (.iconst 4, 1) := by decide +kernel
theorem dX2_hasMoreThanYear_25 : decode cX2_hasMoreThanYear 25 = .ok (.iaload, 1) := by decide +kernel
theorem dX2_hasMoreThanYear_26 : decode cX2_hasMoreThanYear 26 = .ok (.iadd, 1) := by decide +kernel
theorem dX2_hasMoreThanYear_27 : decode cX2_hasMoreThanYear 27 = .ok (.ifCond .le 7, 3) := by decide +kernel
theorem dX2_hasMoreThanYear_30 : decode cX2_hasMoreThanYear 30 = .ok (.iconst 1, 1) := by decide +kernel
theorem dX2_hasMoreThanYear_31 : decode cX2_hasMoreThanYear 31 = .ok (.goto 4, 3) := by decide +kernel
theorem dX2_hasMoreThanYear_34 : decode cX2_hasMoreThanYear 34 = .ok (.iconst 0, 1) := by decide +kernel
theorem dX2_hasMoreThanYear_35 : decode cX2_hasMoreThanYear 35 = .ok (.ireturn, 1) := by decide +kernel
theorem dX2_days_0 : decode cX2_days 0 = .ok (.aload_n 0, 1) := by decide +kernel
theorem dX2_days_1 : decode cX2_days 1 = .ok (.getfield 9, 3) := by decide +kernel
theorem dX2_days_4 : decode cX2_days 4 = .ok (.iconst 0, 1) := by decide +kernel
theorem dX2_days_5 : decode cX2_days 5 = .ok (.iaload, 1) := by decide +kernel
theorem dX2_days_6 : decode cX2_days 6 = .ok (.ifCond .ne 8, 3) := by decide +kernel
theorem dX2_days_9 : decode cX2_days 9 = .ok (.bipush 12, 2) := by decide +kernel
theorem dX2_days_11 : decode cX2_days 11 = .ok (.goto 14, 3) := by decide +kernel
theorem dX2_days_14 : decode cX2_days 14 = .ok (.iconst 1, 1) := by decide +kernel
theorem dX2_days_15 : decode cX2_days 15 = .ok (.aload_n 0, 1) := by decide +kernel
theorem dX2_days_16 : decode cX2_days 16 = .ok (.iconst 0, 1) := by decide +kernel
theorem dX2_days_17 : decode cX2_days 17 = .ok (.iconst 0, 1) := by decide +kernel
theorem dX2_days_18 : decode cX2_days 18 = .ok (.iconst 0, 1) := by decide +kernel
theorem dX2_days_19 : decode cX2_days 19 = .ok (.invokevirtual 33, 3) := by decide +kernel
theorem dX2_days_22 : decode cX2_days 22 = .ok (.invokestatic 37, 3) := by decide +kernel
theorem dX2_days_25 : decode cX2_days 25 = .ok (.ireturn, 1) := by decide +kernel
theorem dX2_longOf_0 : decode cX2_longOf 0 = .ok (.aload_n 0, 1) := by decide +kernel
theorem dX2_longOf_1 : decode cX2_longOf 1 = .ok (.invokevirtual 43, 3) := by decide +kernel
theorem dX2_longOf_4 : decode cX2_longOf 4 = .ok (.istore_n 3, 1) := by decide +kernel
theorem dX2_longOf_5 : decode cX2_longOf 5 = .ok (.iload_n 3, 1) := by decide +kernel
theorem dX2_longOf_6 : decode cX2_longOf 6 = .ok (.iconst 1, 1) := by decide +kernel
theorem dX2_longOf_7 : decode cX2_longOf 7 = .ok (.if_icmp .ge 7, 3) := by decide +kernel
theorem dX2_longOf_10 : decode cX2_longOf 10 = .ok (.iconst 0, 1) := by decide +kernel
theorem dX2_longOf_11 : decode cX2_longOf 11 = .ok (.goto 6, 3) := by decide +kernel
theorem dX2_longOf_14 : decode cX2_longOf 14 = .ok (.iload_n 2, 1) := by decide +kernel
theorem dX2_longOf_15 : decode cX2_longOf 15 = .ok (.iload_n 3, 1) := by decide +kernel
theorem dX2_longOf_16 : decode cX2_longOf 16 = .ok (.irem, 1) := by decide +kernel
theorem dX2_longOf_17 : decode cX2_longOf 17 = .ok (.istore 4, 2) := by decide +kernel
theorem dX2_longOf_19 : decode cX2_longOf 19 = .ok (.iload 4, 2) := by decide +kernel
theorem dX2_longOf_21 : decode cX2_longOf 21 = .ok (.iload_n 3, 1) := by decide +kernel
theorem dX2_longOf_22 : decode cX2_longOf 22 = .ok (.iload 4, 2) := by decide +kernel
theorem dX2_longOf_24 : decode cX2_longOf 24 = .ok (.isub, 1) := by decide +kernel
theorem dX2_longOf_25 : decode cX2_longOf 25 = .ok (.invokestatic 47, 3) := by decide +kernel
theorem dX2_longOf_28 : decode cX2_longOf 28 = .ok (.istore 5, 2) := by decide +kernel
theorem dX2_longOf_30 : decode cX2_longOf 30 = .ok (.aload_n 0, 1) := by decide +kernel
theorem dX2_longOf_31 : decode cX2_longOf 31 = .ok (.iconst 1, 1) := by decide +kernel
theorem dX2_longOf_32 : decode cX2_longOf 32 = .ok (.iload_n 1, 1) := by decide +kernel
theorem dX2_longOf_33 : decode cX2_longOf 33 = .ok (.iconst 0, 1) := by decide +kernel
theorem dX2_longOf_34 : decode cX2_longOf 34 = .ok (.invokevirtual 33, 3) := by decide +kernel
theorem dX2_longOf_37 : decode cX2_longOf 37 = .ok (.aload_n 0, 1) := by decide +kernel
theorem dX2_longOf_38 : decode cX2_longOf 38 = .ok (.iconst 1, 1) := by decide +kernel
theorem dX2_longOf_39 : decode cX2_longOf 39 = .ok (.iload_n 1, 1) := by decide +kernel
theorem dX2_longOf_40 : decode cX2_longOf 40 = .ok (.iconst 1, 1) := by decide +kernel
theorem dX2_longOf_41 : decode cX2_longOf 41 = .ok (.invokevirtual 33, 3) := by decide +kernel
theorem dX2_longOf_44 : decode cX2_longOf 44 = .ok (.iload 5, 2) := by decide +kernel
theorem dX2_longOf_46 : decode cX2_longOf 46 = .ok (.imul, 1) := by decide +kernel
theorem dX2_longOf_47 : decode cX2_longOf 47 = .ok (.iadd, 1) := by decide +kernel
theorem dX2_longOf_48 : decode cX2_longOf 48 = .ok (.ireturn, 1) := by decide +kernel
theorem dX2_shadeOn_0 : decode cX2_shadeOn 0 = .ok (.iload_n 2, 1) := by decide +kernel
theorem dX2_shadeOn_1 : decode cX2_shadeOn 1 = .ok (.iload_n 3, 1) := by decide +kernel
theorem dX2_shadeOn_2 : decode cX2_shadeOn 2 = .ok (.imul, 1) := by decide +kernel
theorem dX2_shadeOn_3 : decode cX2_shadeOn 3 = .ok (.bipush 10, 2) := by decide +kernel
theorem dX2_shadeOn_5 : decode cX2_shadeOn 5 = .ok (.idiv, 1) := by decide +kernel
theorem dX2_shadeOn_6 : decode cX2_shadeOn 6 = .ok (.istore 4, 2) := by decide +kernel
theorem dX2_shadeOn_8 : decode cX2_shadeOn 8 = .ok (.iload 4, 2) := by decide +kernel
theorem dX2_shadeOn_10 : decode cX2_shadeOn 10 = .ok (.bipush 10, 2) := by decide +kernel
theorem dX2_shadeOn_12 : decode cX2_shadeOn 12 = .ok (.aload_n 0, 1) := by decide +kernel
theorem dX2_shadeOn_13 : decode cX2_shadeOn 13 = .ok (.iconst 2, 1) := by decide +kernel
theorem dX2_shadeOn_14 : decode cX2_shadeOn 14 = .ok (.iload_n 1, 1) := by decide +kernel
theorem dX2_shadeOn_15 : decode cX2_shadeOn 15 = .ok (.iconst 1, 1) := by decide +kernel
theorem dX2_shadeOn_16 : decode cX2_shadeOn 16 = .ok (.invokevirtual 33, 3) := by decide +kernel
theorem dX2_shadeOn_19 : decode cX2_shadeOn 19 = .ok (.isub, 1) := by decide +kernel
theorem dX2_shadeOn_20 : decode cX2_shadeOn 20 = .ok (.imul, 1) := by decide +kernel
theorem dX2_shadeOn_21 : decode cX2_shadeOn 21 = .ok (.bipush 10, 2) := by decide +kernel
theorem dX2_shadeOn_23 : decode cX2_shadeOn 23 = .ok (.idiv, 1) := by decide +kernel
theorem dX2_shadeOn_24 : decode cX2_shadeOn 24 = .ok (.istore 4, 2) := by decide +kernel
theorem dX2_shadeOn_26 : decode cX2_shadeOn 26 = .ok (.aload_n 0, 1) := by decide +kernel
theorem dX2_shadeOn_27 : decode cX2_shadeOn 27 = .ok (.iconst 2, 1) := by decide +kernel
theorem dX2_shadeOn_28 : decode cX2_shadeOn 28 = .ok (.iload_n 1, 1) := by decide +kernel
theorem dX2_shadeOn_29 : decode cX2_shadeOn 29 = .ok (.iconst 2, 1) := by decide +kernel
theorem dX2_shadeOn_30 : decode cX2_shadeOn 30 = .ok (.invokevirtual 33, 3) := by decide +kernel
theorem dX2_shadeOn_33 : decode cX2_shadeOn 33 = .ok (.istore 5, 2) := by decide +kernel
theorem dX2_shadeOn_35 : decode cX2_shadeOn 35 = .ok (.iload 5, 2) := by decide +kernel
theorem dX2_shadeOn_37 : decode cX2_shadeOn 37 = .ok (.ifCond .ne 8, 3) := by decide +kernel
theorem dX2_shadeOn_40 : decode cX2_shadeOn 40 = .ok (.iload 4, 2) := by decide +kernel
theorem dX2_shadeOn_42 : decode cX2_shadeOn 42 = .ok (.goto 10, 3) := by decide +kernel
theorem dX2_shadeOn_45 : decode cX2_shadeOn 45 = .ok (.iload 4, 2) := by decide +kernel
theorem dX2_shadeOn_47 : decode cX2_shadeOn 47 = .ok (.iload 5, 2) := by decide +kernel
theorem dX2_shadeOn_49 : decode cX2_shadeOn 49 = .ok (.invokestatic 47, 3) := by decide +kernel
theorem dX2_shadeOn_52 : decode cX2_shadeOn 52 = .ok (.ireturn, 1) := by decide +kernel
theorem dX3_init_0 : decode cX3_init 0 = .ok (.aload_n 0, 1) := by decide +kernel
theorem dX3_init_1 : decode cX3_init 1 = .ok (.invokespecial 3, 3) := by decide +kernel
theorem dX3_init_4 : decode cX3_init 4 = .ok (.aload_n 0, 1) := by decide +kernel
theorem dX3_init_5 : decode cX3_init 5 = .ok (.sipush 500, 3) := by decide +kernel
theorem dX3_init_8 : decode cX3_init 8 = .ok (.newarray .char, 2) := by decide +kernel
theorem dX3_init_10 : decode cX3_init 10 = .ok (.putfield 9, 3) := by decide +kernel
theorem dX3_init_13 : decode cX3_init 13 = .ok (.aload_n 0, 1) := by decide +kernel
theorem dX3_init_14 : decode cX3_init 14 = .ok (.iconst 3, 1) := by decide +kernel
theorem dX3_init_15 : decode cX3_init 15 = .ok (.newarray .int, 2) := by decide +kernel
theorem dX3_init_17 : decode cX3_init 17 = .ok (.putfield 15, 3) := by decide +kernel
theorem dX3_init_20 : decode cX3_init 20 = .ok (.aload_n 0, 1) := by decide +kernel
theorem dX3_init_21 : decode cX3_init 21 = .ok (.new 19, 3) := by decide +kernel
theorem dX3_init_24 : decode cX3_init 24 = .ok (.dup, 1) := by decide +kernel
theorem dX3_init_25 : decode cX3_init 25 = .ok (.invokespecial 21, 3) := by decide +kernel
theorem dX3_init_28 : decode cX3_init 28 = .ok (.putfield 22, 3) := by decide +kernel
theorem dX3_init_31 : decode cX3_init 31 = .ok (.aload_n 0, 1) := by decide +kernel
theorem dX3_init_32 : decode cX3_init 32 = .ok (.iconst (-1), 1) := by decide +kernel
theorem dX3_init_33 : decode cX3_init 33 = .ok (.putfield 26, 3) := by decide +kernel
theorem dX3_init_36 : decode cX3_init 36 = .ok (.return_, 1) := by decide +kernel
theorem dX3_take_0 : decode cX3_take 0 = .ok (.iload_n 1, 1) := by decide +kernel
theorem dX3_take_1 : decode cX3_take 1 = .ok (.iconst 1, 1) := by decide +kernel
theorem dX3_take_2 : decode cX3_take 2 = .ok (.isub, 1) := by decide +kernel
theorem dX3_take_3 : decode cX3_take 3 = .ok (.istore 4, 2) := by decide +kernel
theorem dX3_take_5 : decode cX3_take 5 = .ok (.iload 4, 2) := by decide +kernel
theorem dX3_take_7 : decode cX3_take 7 = .ok (.ifCond .lt 51, 3) := by decide +kernel
theorem dX3_take_10 : decode cX3_take 10 = .ok (.aload_n 0, 1) := by decide +kernel
theorem dX3_take_11 : decode cX3_take 11 = .ok (.getfield 30, 3) := by decide +kernel
theorem dX3_take_14 : decode cX3_take 14 = .ok (.sipush 500, 3) := by decide +kernel
theorem dX3_take_17 : decode cX3_take 17 = .ok (.if_icmp .ge 41, 3) := by decide +kernel
theorem dX3_take_20 : decode cX3_take 20 = .ok (.aload_n 0, 1) := by decide +kernel
theorem dX3_take_21 : decode cX3_take 21 = .ok (.getfield 9, 3) := by decide +kernel
theorem dX3_take_24 : decode cX3_take 24 = .ok (.aload_n 0, 1) := by decide +kernel
theorem dX3_take_25 : decode cX3_take 25 = .ok (.getfield 30, 3) := by decide +kernel
theorem dX3_take_28 : decode cX3_take 28 = .ok (.lload_n 2, 1) := by decide +kernel
theorem dX3_take_29 : decode cX3_take 29 = .ok (.bipush 8, 2) := by decide +kernel
theorem dX3_take_31 : decode cX3_take 31 = .ok (.iload 4, 2) := by decide +kernel
theorem dX3_take_33 : decode cX3_take 33 = .ok (.imul, 1) := by decide +kernel
theorem dX3_take_34 : decode cX3_take 34 = .ok (.lushr, 1) := by decide +kernel
theorem dX3_take_35 : decode cX3_take 35 = .ok (.ldc2_w 33, 3) := by decide +kernel
theorem dX3_take_38 : decode cX3_take 38 = .ok (.land, 1) := by decide +kernel
theorem dX3_take_39 : decode cX3_take 39 = .ok (.l2i, 1) := by decide +kernel
theorem dX3_take_40 : decode cX3_take 40 = .ok (.i2c, 1) := by decide +kernel
theorem dX3_take_41 : decode cX3_take 41 = .ok (.castore, 1) := by decide +kernel
theorem dX3_take_42 : decode cX3_take 42 = .ok (.aload_n 0, 1) := by decide +kernel
theorem dX3_take_43 : decode cX3_take 43 = .ok (.dup, 1) := by decide +kernel
theorem dX3_take_44 : decode cX3_take 44 = .ok (.getfield 30, 3) := by decide +kernel
theorem dX3_take_47 : decode cX3_take 47 = .ok (.iconst 1, 1) := by decide +kernel
theorem dX3_take_48 : decode cX3_take 48 = .ok (.iadd, 1) := by decide +kernel
theorem dX3_take_49 : decode cX3_take 49 = .ok (.putfield 30, 3) := by decide +kernel
theorem dX3_take_52 : decode cX3_take 52 = .ok (.iinc 4 (-1), 3) := by decide +kernel
theorem dX3_take_55 : decode cX3_take 55 = .ok (.goto (-50), 3) := by decide +kernel
theorem dX3_take_58 : decode cX3_take 58 = .ok (.return_, 1) := by decide +kernel
theorem dX3_read_0 : decode cX3_read 0 = .ok (.aload_n 0, 1) := by decide +kernel
theorem dX3_read_1 : decode cX3_read 1 = .ok (.getfield 22, 3) := by decide +kernel
theorem dX3_read_4 : decode cX3_read 4 = .ok (.invokevirtual 35, 3) := by decide +kernel
theorem dX3_read_7 : decode cX3_read 7 = .ok (.aload_n 0, 1) := by decide +kernel
theorem dX3_read_8 : decode cX3_read 8 = .ok (.iconst 0, 1) := by decide +kernel
theorem dX3_read_9 : decode cX3_read 9 = .ok (.putfield 38, 3) := by decide +kernel
theorem dX3_read_12 : decode cX3_read 12 = .ok (.aload_n 0, 1) := by decide +kernel
theorem dX3_read_13 : decode cX3_read 13 = .ok (.iconst (-1), 1) := by decide +kernel
theorem dX3_read_14 : decode cX3_read 14 = .ok (.putfield 26, 3) := by decide +kernel
theorem dX3_read_17 : decode cX3_read 17 = .ok (.aload_n 0, 1) := by decide +kernel
theorem dX3_read_18 : decode cX3_read 18 = .ok (.iconst 0, 1) := by decide +kernel
theorem dX3_read_19 : decode cX3_read 19 = .ok (.putfield 41, 3) := by decide +kernel
theorem dX3_read_22 : decode cX3_read 22 = .ok (.aload_n 0, 1) := by decide +kernel
theorem dX3_read_23 : decode cX3_read 23 = .ok (.invokevirtual 44, 3) := by decide +kernel
theorem dX3_read_26 : decode cX3_read 26 = .ok (.iconst 0, 1) := by decide +kernel
theorem dX3_read_27 : decode cX3_read 27 = .ok (.istore_n 1, 1) := by decide +kernel
theorem dX3_read_28 : decode cX3_read 28 = .ok (.iload_n 1, 1) := by decide +kernel
theorem dX3_read_29 : decode cX3_read 29 = .ok (.sipush 500, 3) := by decide +kernel
theorem dX3_read_32 : decode cX3_read 32 = .ok (.if_icmp .ge 35, 3) := by decide +kernel
theorem dX3_read_35 : decode cX3_read 35 = .ok (.aload_n 0, 1) := by decide +kernel
theorem dX3_read_36 : decode cX3_read 36 = .ok (.getfield 41, 3) := by decide +kernel
theorem dX3_read_39 : decode cX3_read 39 = .ok (.aload_n 0, 1) := by decide +kernel
theorem dX3_read_40 : decode cX3_read 40 = .ok (.getfield 30, 3) := by decide +kernel
theorem dX3_read_43 : decode cX3_read 43 = .ok (.if_icmp .ge 24, 3) := by decide +kernel
theorem dX3_read_46 : decode cX3_read 46 = .ok (.aload_n 0, 1) := by decide +kernel
theorem dX3_read_47 : decode cX3_read 47 = .ok (.getfield 38, 3) := by decide +kernel
theorem dX3_read_50 : decode cX3_read 50 = .ok (.ifCond .ne 17, 3) := by decide +kernel
theorem dX3_read_53 : decode cX3_read 53 = .ok (.aload_n 0, 1) := by decide +kernel
theorem dX3_read_54 : decode cX3_read 54 = .ok (.invokevirtual 47, 3) := by decide +kernel
theorem dX3_read_57 : decode cX3_read 57 = .ok (.aload_n 0, 1) := by decide +kernel
theorem dX3_read_58 : decode cX3_read 58 = .ok (.invokevirtual 44, 3) := by decide +kernel
theorem dX3_read_61 : decode cX3_read 61 = .ok (.iinc 1 1, 3) := by decide +kernel
theorem dX3_read_64 : decode cX3_read 64 = .ok (.goto (-36), 3) := by decide +kernel
theorem dX3_read_67 : decode cX3_read 67 = .ok (.aload_n 0, 1) := by decide +kernel
theorem dX3_read_68 : decode cX3_read 68 = .ok (.iconst 0, 1) := by decide +kernel
theorem dX3_read_69 : decode cX3_read 69 = .ok (.putfield 30, 3) := by decide +kernel
theorem dX3_read_72 : decode cX3_read 72 = .ok (.return_, 1) := by decide +kernel
theorem dX3_readClause_0 : decode cX3_readClause 0 = .ok (.aload_n 0, 1) := by decide +kernel
theorem dX3_readClause_1 : decode cX3_readClause 1 = .ok (.getfield 41, 3) := by decide +kernel
theorem dX3_readClause_4 : decode cX3_readClause 4 = .ok (.istore_n 1, 1) := by decide +kernel
theorem dX3_readClause_5 : decode cX3_readClause 5 = .ok (.aload_n 0, 1) := by decide +kernel
theorem dX3_readClause_6 : decode cX3_readClause 6 = .ok (.invokevirtual 50, 3) := by decide +kernel
theorem dX3_readClause_9 : decode cX3_readClause 9 = .ok (.aload_n 0, 1) := by decide +kernel
theorem dX3_readClause_10 : decode cX3_readClause 10 = .ok (.iload_n 1, 1) := by decide +kernel
theorem dX3_readClause_11 : decode cX3_readClause 11 = .ok (.aload_n 0, 1) := by decide +kernel
theorem dX3_readClause_12 : decode cX3_readClause 12 = .ok (.getfield 41, 3) := by decide +kernel
theorem dX3_readClause_15 : decode cX3_readClause 15 = .ok (.invokevirtual 53, 3) := by decide +kernel
theorem dX3_readClause_18 : decode cX3_readClause 18 = .ok (.istore_n 2, 1) := by decide +kernel
theorem dX3_readClause_19 : decode cX3_readClause 19 = .ok (.aload_n 0, 1) := by decide +kernel
theorem dX3_readClause_20 : decode cX3_readClause 20 = .ok (.iload_n 2, 1) := by decide +kernel
theorem dX3_readClause_21 : decode cX3_readClause 21 = .ok (.invokevirtual 57, 3) := by decide +kernel
theorem dX3_readClause_24 : decode cX3_readClause 24 = .ok (.istore_n 3, 1) := by decide +kernel
theorem dX3_readClause_25 : decode cX3_readClause 25 = .ok (.iload_n 3, 1) := by decide +kernel
theorem dX3_readClause_26 : decode cX3_readClause 26 = .ok (.ifCond .eq 10, 3) := by decide +kernel
theorem dX3_readClause_29 : decode cX3_readClause 29 = .ok (.aload_n 0, 1) := by decide +kernel
theorem dX3_readClause_30 : decode cX3_readClause 30 = .ok (.iload_n 3, 1) := by decide +kernel
theorem dX3_readClause_31 : decode cX3_readClause 31 = .ok (.iload_n 1, 1) := by decide +kernel
theorem dX3_readClause_32 : decode cX3_readClause 32 = .ok (.invokevirtual 61, 3) := by decide +kernel
theorem dX3_readClause_35 : decode cX3_readClause 35 = .ok (.return_, 1) := by decide +kernel
theorem dX3_readClause_36 : decode cX3_readClause 36 = .ok (.iconst 0, 1) := by decide +kernel
theorem dX3_readClause_37 : decode cX3_readClause 37 = .ok (.istore 4, 2) := by decide +kernel
theorem dX3_readClause_39 : decode cX3_readClause 39 = .ok (.iload 4, 2) := by decide +kernel
theorem dX3_readClause_41 : decode cX3_readClause 41 = .ok (.getstatic 65, 3) := by decide +kernel
theorem dX3_readClause_44 : decode cX3_readClause 44 = .ok (.iload_n 2, 1) := by decide +kernel
theorem dX3_readClause_45 : decode cX3_readClause 45 = .ok (.iaload, 1) := by decide +kernel
theorem dX3_readClause_46 : decode cX3_readClause 46 = .ok (.if_icmp .ge 47, 3) := by decide +kernel
theorem dX3_readClause_49 : decode cX3_readClause 49 = .ok (.aload_n 0, 1) := by decide +kernel
theorem dX3_readClause_50 : decode cX3_readClause 50 = .ok (.getfield 38, 3) := by decide +kernel
theorem dX3_readClause_53 : decode cX3_readClause 53 = .ok (.ifCond .ne 40, 3) := by decide +kernel
theorem dX3_readClause_56 : decode cX3_readClause 56 = .ok (.iload_n 2, 1) := by decide +kernel
theorem dX3_readClause_57 : decode cX3_readClause 57 = .ok (.iconst 3, 1) := by decide +kernel
theorem dX3_readClause_58 : decode cX3_readClause 58 = .ok (.imul, 1) := by decide +kernel
theorem dX3_readClause_59 : decode cX3_readClause 59 = .ok (.iload 4, 2) := by decide +kernel
theorem dX3_readClause_61 : decode cX3_readClause 61 = .ok (.iadd, 1) := by decide +kernel
theorem dX3_readClause_62 : decode cX3_readClause 62 = .ok (.istore 5, 2) := by decide +kernel
theorem dX3_readClause_64 : decode cX3_readClause 64 = .ok (.aload_n 0, 1) := by decide +kernel
theorem dX3_readClause_65 : decode cX3_readClause 65 = .ok (.getfield 15, 3) := by decide +kernel
theorem dX3_readClause_68 : decode cX3_readClause 68 = .ok (.iload 4, 2) := by decide +kernel
theorem dX3_readClause_70 : decode cX3_readClause 70 = .ok (.aload_n 0, 1) := by decide +kernel
theorem dX3_readClause_71 : decode cX3_readClause 71 = .ok (.getstatic 68, 3) := by decide +kernel
theorem dX3_readClause_74 : decode cX3_readClause 74 = .ok (.iload 5, 2) := by decide +kernel
theorem dX3_readClause_76 : decode cX3_readClause 76 = .ok (.iaload, 1) := by decide +kernel
theorem dX3_readClause_77 : decode cX3_readClause 77 = .ok (.getstatic 71, 3) := by decide +kernel
theorem dX3_readClause_80 : decode cX3_readClause 80 = .ok (.iload 5, 2) := by decide +kernel
theorem dX3_readClause_82 : decode cX3_readClause 82 = .ok (.iaload, 1) := by decide +kernel
theorem dX3_readClause_83 : decode cX3_readClause 83 = .ok (.invokevirtual 74, 3) := by decide +kernel
theorem dX3_readClause_86 : decode cX3_readClause 86 = .ok (.iastore, 1) := by decide +kernel
theorem dX3_readClause_87 : decode cX3_readClause 87 = .ok (.iinc 4 1, 3) := by decide +kernel
theorem dX3_readClause_90 : decode cX3_readClause 90 = .ok (.goto (-51), 3) := by decide +kernel
theorem dX3_readClause_93 : decode cX3_readClause 93 = .ok (.aload_n 0, 1) := by decide +kernel
theorem dX3_readClause_94 : decode cX3_readClause 94 = .ok (.getfield 38, 3) := by decide +kernel
theorem dX3_readClause_97 : decode cX3_readClause 97 = .ok (.ifCond .ne 19, 3) := by decide +kernel
theorem dX3_readClause_100 : decode cX3_readClause 100 = .ok (.aload_n 0, 1) := by decide +kernel
theorem dX3_readClause_101 : decode cX3_readClause 101 = .ok (.invokevirtual 77, 3) := by decide +kernel
theorem dX3_readClause_104 : decode cX3_readClause 104 = .ok (.aload_n 0, 1) := by decide +kernel
theorem dX3_readClause_105 : decode cX3_readClause 105 = .ok (.getfield 22, 3) := by decide +kernel
theorem dX3_readClause_108 : decode cX3_readClause 108 = .ok (.iload_n 2, 1) := by decide +kernel
theorem dX3_readClause_109 : decode cX3_readClause 109 = .ok (.aload_n 0, 1) := by decide +kernel
theorem dX3_readClause_110 : decode cX3_readClause 110 = .ok (.getfield 15, 3) := by decide +kernel
theorem dX3_readClause_113 : decode cX3_readClause 113 = .ok (.invokevirtual 80, 3) := by decide +kernel
theorem dX3_readClause_116 : decode cX3_readClause 116 = .ok (.return_, 1) := by decide +kernel
theorem dX3_faultOfKind_0 : decode cX3_faultOfKind 0 = .ok (.iload_n 1, 1) := by decide +kernel
theorem dX3_faultOfKind_1 : decode cX3_faultOfKind 1 = .ok (.iconst (-1), 1) := by decide +kernel
theorem dX3_faultOfKind_2 : decode cX3_faultOfKind 2 = .ok (.if_icmp .eq 17, 3) := by decide +kernel
theorem dX3_faultOfKind_5 : decode cX3_faultOfKind 5 = .ok (.iload_n 1, 1) := by decide +kernel
theorem dX3_faultOfKind_6 : decode cX3_faultOfKind 6 = .ok (.ifCond .ne 15, 3) := by decide +kernel
theorem dX3_faultOfKind_9 : decode cX3_faultOfKind 9 = .ok (.aload_n 0, 1) := by decide +kernel
theorem dX3_faultOfKind_10 : decode cX3_faultOfKind 10 = .ok (.getfield 22, 3) := by decide +kernel
theorem dX3_faultOfKind_13 : decode cX3_faultOfKind 13 = .ok (.invokevirtual 84, 3) := by decide +kernel
theorem dX3_faultOfKind_16 : decode cX3_faultOfKind 16 = .ok (.ifCond .eq 5, 3) := by decide +kernel
theorem dX3_faultOfKind_19 : decode cX3_faultOfKind 19 = .ok (.iconst 1, 1) := by decide +kernel
theorem dX3_faultOfKind_20 : decode cX3_faultOfKind 20 = .ok (.ireturn, 1) := by decide +kernel
theorem dX3_faultOfKind_21 : decode cX3_faultOfKind 21 = .ok (.aload_n 0, 1) := by decide +kernel
theorem dX3_faultOfKind_22 : decode cX3_faultOfKind 22 = .ok (.getfield 22, 3) := by decide +kernel
theorem dX3_faultOfKind_25 : decode cX3_faultOfKind 25 = .ok (.iload_n 1, 1) := by decide +kernel
theorem dX3_faultOfKind_26 : decode cX3_faultOfKind 26 = .ok (.invokevirtual 88, 3) := by decide +kernel
theorem dX3_faultOfKind_29 : decode cX3_faultOfKind 29 = .ok (.getstatic 91, 3) := by decide +kernel
theorem dX3_faultOfKind_32 : decode cX3_faultOfKind 32 = .ok (.iload_n 1, 1) := by decide +kernel
theorem dX3_faultOfKind_33 : decode cX3_faultOfKind 33 = .ok (.iaload, 1) := by decide +kernel
theorem dX3_faultOfKind_34 : decode cX3_faultOfKind 34 = .ok (.if_icmp .lt 7, 3) := by decide +kernel
theorem dX3_faultOfKind_37 : decode cX3_faultOfKind 37 = .ok (.iconst 3, 1) := by decide +kernel
theorem dX3_faultOfKind_38 : decode cX3_faultOfKind 38 = .ok (.goto 4, 3) := by decide +kernel
theorem dX3_faultOfKind_41 : decode cX3_faultOfKind 41 = .ok (.iconst 0, 1) := by decide +kernel
theorem dX3_faultOfKind_42 : decode cX3_faultOfKind 42 = .ok (.ireturn, 1) := by decide +kernel
theorem dX3_readNumber_0 : decode cX3_readNumber 0 = .ok (.aload_n 0, 1) := by decide +kernel
theorem dX3_readNumber_1 : decode cX3_readNumber 1 = .ok (.invokevirtual 44, 3) := by decide +kernel
theorem dX3_readNumber_4 : decode cX3_readNumber 4 = .ok (.aload_n 0, 1) := by decide +kernel
theorem dX3_readNumber_5 : decode cX3_readNumber 5 = .ok (.getfield 41, 3) := by decide +kernel
theorem dX3_readNumber_8 : decode cX3_readNumber 8 = .ok (.istore_n 3, 1) := by decide +kernel
theorem dX3_readNumber_9 : decode cX3_readNumber 9 = .ok (.iconst 0, 1) := by decide +kernel
theorem dX3_readNumber_10 : decode cX3_readNumber 10 = .ok (.istore 4, 2) := by decide +kernel
theorem dX3_readNumber_12 : decode cX3_readNumber 12 = .ok (.aload_n 0, 1) := by decide +kernel
theorem dX3_readNumber_13 : decode cX3_readNumber 13 = .ok (.getfield 41, 3) := by decide +kernel
theorem dX3_readNumber_16 : decode cX3_readNumber 16 = .ok (.aload_n 0, 1) := by decide +kernel
theorem dX3_readNumber_17 : decode cX3_readNumber 17 = .ok (.getfield 30, 3) := by decide +kernel
theorem dX3_readNumber_20 : decode cX3_readNumber 20 = .ok (.if_icmp .ge 79, 3) := by decide +kernel
theorem dX3_readNumber_23 : decode cX3_readNumber 23 = .ok (.aload_n 0, 1) := by decide +kernel
theorem dX3_readNumber_24 : decode cX3_readNumber 24 = .ok (.getfield 9, 3) := by decide +kernel
theorem dX3_readNumber_27 : decode cX3_readNumber 27 = .ok (.aload_n 0, 1) := by decide +kernel
theorem dX3_readNumber_28 : decode cX3_readNumber 28 = .ok (.getfield 41, 3) := by decide +kernel
theorem dX3_readNumber_31 : decode cX3_readNumber 31 = .ok (.caload, 1) := by decide +kernel
theorem dX3_readNumber_32 : decode cX3_readNumber 32 = .ok (.bipush 48, 2) := by decide +kernel
theorem dX3_readNumber_34 : decode cX3_readNumber 34 = .ok (.if_icmp .lt 65, 3) := by decide +kernel
theorem dX3_readNumber_37 : decode cX3_readNumber 37 = .ok (.aload_n 0, 1) := by decide +kernel
theorem dX3_readNumber_38 : decode cX3_readNumber 38 = .ok (.getfield 9, 3) := by decide +kernel
theorem dX3_readNumber_41 : decode cX3_readNumber 41 = .ok (.aload_n 0, 1) := by decide +kernel
theorem dX3_readNumber_42 : decode cX3_readNumber 42 = .ok (.getfield 41, 3) := by decide +kernel
theorem dX3_readNumber_45 : decode cX3_readNumber 45 = .ok (.caload, 1) := by decide +kernel
theorem dX3_readNumber_46 : decode cX3_readNumber 46 = .ok (.bipush 57, 2) := by decide +kernel
theorem dX3_readNumber_48 : decode cX3_readNumber 48 = .ok (.if_icmp .gt 51, 3) := by decide +kernel
theorem dX3_readNumber_51 : decode cX3_readNumber 51 = .ok (.aload_n 0, 1) := by decide +kernel
theorem dX3_readNumber_52 : decode cX3_readNumber 52 = .ok (.getfield 41, 3) := by decide +kernel
theorem dX3_readNumber_55 : decode cX3_readNumber 55 = .ok (.iload_n 3, 1) := by decide +kernel
theorem dX3_readNumber_56 : decode cX3_readNumber 56 = .ok (.isub, 1) := by decide +kernel
theorem dX3_readNumber_57 : decode cX3_readNumber 57 = .ok (.iconst 3, 1) := by decide +kernel
theorem dX3_readNumber_58 : decode cX3_readNumber 58 = .ok (.if_icmp .ge 24, 3) := by decide +kernel
theorem dX3_readNumber_61 : decode cX3_readNumber 61 = .ok (.iload 4, 2) := by decide +kernel
theorem dX3_readNumber_63 : decode cX3_readNumber 63 = .ok (.bipush 10, 2) := by decide +kernel
theorem dX3_readNumber_65 : decode cX3_readNumber 65 = .ok (.imul, 1) := by decide +kernel
theorem dX3_readNumber_66 : decode cX3_readNumber 66 = .ok (.aload_n 0, 1) := by decide +kernel
theorem dX3_readNumber_67 : decode cX3_readNumber 67 = .ok (.getfield 9, 3) := by decide +kernel
theorem dX3_readNumber_70 : decode cX3_readNumber 70 = .ok (.aload_n 0, 1) := by decide +kernel
theorem dX3_readNumber_71 : decode cX3_readNumber 71 = .ok (.getfield 41, 3) := by decide +kernel
theorem dX3_readNumber_74 : decode cX3_readNumber 74 = .ok (.caload, 1) := by decide +kernel
theorem dX3_readNumber_75 : decode cX3_readNumber 75 = .ok (.bipush 48, 2) := by decide +kernel
theorem dX3_readNumber_77 : decode cX3_readNumber 77 = .ok (.isub, 1) := by decide +kernel
theorem dX3_readNumber_78 : decode cX3_readNumber 78 = .ok (.iadd, 1) := by decide +kernel
theorem dX3_readNumber_79 : decode cX3_readNumber 79 = .ok (.goto 5, 3) := by decide +kernel
theorem dX3_readNumber_82 : decode cX3_readNumber 82 = .ok (.iload 4, 2) := by decide +kernel
theorem dX3_readNumber_84 : decode cX3_readNumber 84 = .ok (.istore 4, 2) := by decide +kernel
theorem dX3_readNumber_86 : decode cX3_readNumber 86 = .ok (.aload_n 0, 1) := by decide +kernel
theorem dX3_readNumber_87 : decode cX3_readNumber 87 = .ok (.dup, 1) := by decide +kernel
theorem dX3_readNumber_88 : decode cX3_readNumber 88 = .ok (.getfield 41, 3) := by decide +kernel
theorem dX3_readNumber_91 : decode cX3_readNumber 91 = .ok (.iconst 1, 1) := by decide +kernel
theorem dX3_readNumber_92 : decode cX3_readNumber 92 = .ok (.iadd, 1) := by decide +kernel
theorem dX3_readNumber_93 : decode cX3_readNumber 93 = .ok (.putfield 41, 3) := by decide +kernel
theorem dX3_readNumber_96 : decode cX3_readNumber 96 = .ok (.goto (-84), 3) := by decide +kernel
theorem dX3_readNumber_99 : decode cX3_readNumber 99 = .ok (.aload_n 0, 1) := by decide +kernel
theorem dX3_readNumber_100 : decode cX3_readNumber 100 = .ok (.getfield 41, 3) := by decide +kernel
theorem dX3_readNumber_103 : decode cX3_readNumber 103 = .ok (.iload_n 3, 1) := by decide +kernel
theorem dX3_readNumber_104 : decode cX3_readNumber 104 = .ok (.if_icmp .ne 12, 3) := by decide +kernel
theorem dX3_readNumber_107 : decode cX3_readNumber 107 = .ok (.aload_n 0, 1) := by decide +kernel
theorem dX3_readNumber_108 : decode cX3_readNumber 108 = .ok (.iconst 1, 1) := by decide +kernel
theorem dX3_readNumber_109 : decode cX3_readNumber 109 = .ok (.iload_n 3, 1) := by decide +kernel
theorem dX3_readNumber_110 : decode cX3_readNumber 110 = .ok (.invokevirtual 61, 3) := by decide +kernel
theorem dX3_readNumber_113 : decode cX3_readNumber 113 = .ok (.goto 31, 3) := by decide +kernel
theorem dX3_readNumber_116 : decode cX3_readNumber 116 = .ok (.aload_n 0, 1) := by decide +kernel
theorem dX3_readNumber_117 : decode cX3_readNumber 117 = .ok (.getfield 41, 3) := by decide +kernel
theorem dX3_readNumber_120 : decode cX3_readNumber 120 = .ok (.iload_n 3, 1) := by decide +kernel
theorem dX3_readNumber_121 : decode cX3_readNumber 121 = .ok (.isub, 1) := by decide +kernel
theorem dX3_readNumber_122 : decode cX3_readNumber 122 = .ok (.iconst 3, 1) := by decide +kernel
theorem dX3_readNumber_123 : decode cX3_readNumber 123 = .ok (.if_icmp .gt 15, 3) := by decide +kernel
theorem dX3_readNumber_126 : decode cX3_readNumber 126 = .ok (.iload 4, 2) := by decide +kernel
theorem dX3_readNumber_128 : decode cX3_readNumber 128 = .ok (.iload_n 1, 1) := by decide +kernel
theorem dX3_readNumber_129 : decode cX3_readNumber 129 = .ok (.if_icmp .lt 9, 3) := by decide +kernel
theorem dX3_readNumber_132 : decode cX3_readNumber 132 = .ok (.iload 4, 2) := by decide +kernel
theorem dX3_readNumber_134 : decode cX3_readNumber 134 = .ok (.iload_n 2, 1) := by decide +kernel
theorem dX3_readNumber_135 : decode cX3_readNumber 135 = .ok (.if_icmp .le 9, 3) := by decide +kernel
theorem dX3_readNumber_138 : decode cX3_readNumber 138 = .ok (.aload_n 0, 1) := by decide +kernel
theorem dX3_readNumber_139 : decode cX3_readNumber 139 = .ok (.iconst 2, 1) := by decide +kernel
theorem dX3_readNumber_140 : decode cX3_readNumber 140 = .ok (.iload_n 3, 1) := by decide +kernel
theorem dX3_readNumber_141 : decode cX3_readNumber 141 = .ok (.invokevirtual 61, 3) := by decide +kernel
theorem dX3_readNumber_144 : decode cX3_readNumber 144 = .ok (.iload 4, 2) := by decide +kernel
theorem dX3_readNumber_146 : decode cX3_readNumber 146 = .ok (.ireturn, 1) := by decide +kernel
theorem dX3_readEndOfClause_0 : decode cX3_readEndOfClause 0 = .ok (.aload_n 0, 1) := by decide +kernel
theorem dX3_readEndOfClause_1 : decode cX3_readEndOfClause 1 = .ok (.invokevirtual 44, 3) := by decide +kernel
theorem dX3_readEndOfClause_4 : decode cX3_readEndOfClause 4 = .ok (.aload_n 0, 1) := by decide +kernel
theorem dX3_readEndOfClause_5 : decode cX3_readEndOfClause 5 = .ok (.getfield 41, 3) := by decide +kernel
theorem dX3_readEndOfClause_8 : decode cX3_readEndOfClause 8 = .ok (.aload_n 0, 1) := by decide +kernel
theorem dX3_readEndOfClause_9 : decode cX3_readEndOfClause 9 = .ok (.getfield 30, 3) := by decide +kernel
theorem dX3_readEndOfClause_12 : decode cX3_readEndOfClause 12 = .ok (.if_icmp .ge 30, 3) := by decide +kernel
theorem dX3_readEndOfClause_15 : decode cX3_readEndOfClause 15 = .ok (.aload_n 0, 1) := by decide +kernel
theorem dX3_readEndOfClause_16 : decode cX3_readEndOfClause 16 = .ok (.getfield 9, 3) := by decide +kernel
theorem dX3_readEndOfClause_19 : decode cX3_readEndOfClause 19 = .ok (.aload_n 0, 1) := by decide +kernel
theorem dX3_readEndOfClause_20 : decode cX3_readEndOfClause 20 = .ok (.getfield 41, 3) := by decide +kernel
theorem dX3_readEndOfClause_23 : decode cX3_readEndOfClause 23 = .ok (.caload, 1) := by decide +kernel
theorem dX3_readEndOfClause_24 : decode cX3_readEndOfClause 24 = .ok (.bipush 59, 2) := by decide +kernel
theorem dX3_readEndOfClause_26 : decode cX3_readEndOfClause 26 = .ok (.if_icmp .ne 16, 3) := by decide +kernel
theorem dX3_readEndOfClause_29 : decode cX3_readEndOfClause 29 = .ok (.aload_n 0, 1) := by decide +kernel
theorem dX3_readEndOfClause_30 : decode cX3_readEndOfClause 30 = .ok (.dup, 1) := by decide +kernel
theorem dX3_readEndOfClause_31 : decode cX3_readEndOfClause 31 = .ok (.getfield 41, 3) := by decide +kernel
theorem dX3_readEndOfClause_34 : decode cX3_readEndOfClause 34 = .ok (.iconst 1, 1) := by decide +kernel
theorem dX3_readEndOfClause_35 : decode cX3_readEndOfClause 35 = .ok (.iadd, 1) := by decide +kernel
theorem dX3_readEndOfClause_36 : decode cX3_readEndOfClause 36 = .ok (.putfield 41, 3) := by decide +kernel
theorem dX3_readEndOfClause_39 : decode cX3_readEndOfClause 39 = .ok (.goto 12, 3) := by decide +kernel
theorem dX3_readEndOfClause_42 : decode cX3_readEndOfClause 42 = .ok (.aload_n 0, 1) := by decide +kernel
theorem dX3_readEndOfClause_43 : decode cX3_readEndOfClause 43 = .ok (.iconst 1, 1) := by decide +kernel
theorem dX3_readEndOfClause_44 : decode cX3_readEndOfClause 44 = .ok (.aload_n 0, 1) := by decide +kernel
theorem dX3_readEndOfClause_45 : decode cX3_readEndOfClause 45 = .ok (.getfield 41, 3) := by decide +kernel
theorem dX3_readEndOfClause_48 : decode cX3_readEndOfClause 48 = .ok (.invokevirtual 61, 3) := by decide +kernel
theorem dX3_readEndOfClause_51 : decode cX3_readEndOfClause 51 = .ok (.return_, 1) := by decide +kernel
theorem dX3_skipBlanks_0 : decode cX3_skipBlanks 0 = .ok (.aload_n 0, 1) := by decide +kernel
theorem dX3_skipBlanks_1 : decode cX3_skipBlanks 1 = .ok (.getfield 41, 3) := by decide +kernel
theorem dX3_skipBlanks_4 : decode cX3_skipBlanks 4 = .ok (.aload_n 0, 1) := by decide +kernel
theorem dX3_skipBlanks_5 : decode cX3_skipBlanks 5 = .ok (.getfield 30, 3) := by decide +kernel
theorem dX3_skipBlanks_8 : decode cX3_skipBlanks 8 = .ok (.if_icmp .ge 30, 3) := by decide +kernel
theorem dX3_skipBlanks_11 : decode cX3_skipBlanks 11 = .ok (.aload_n 0, 1) := by decide +kernel
theorem dX3_skipBlanks_12 : decode cX3_skipBlanks 12 = .ok (.getfield 9, 3) := by decide +kernel
theorem dX3_skipBlanks_15 : decode cX3_skipBlanks 15 = .ok (.aload_n 0, 1) := by decide +kernel
theorem dX3_skipBlanks_16 : decode cX3_skipBlanks 16 = .ok (.getfield 41, 3) := by decide +kernel
theorem dX3_skipBlanks_19 : decode cX3_skipBlanks 19 = .ok (.caload, 1) := by decide +kernel
theorem dX3_skipBlanks_20 : decode cX3_skipBlanks 20 = .ok (.bipush 32, 2) := by decide +kernel
theorem dX3_skipBlanks_22 : decode cX3_skipBlanks 22 = .ok (.if_icmp .ne 16, 3) := by decide +kernel
theorem dX3_skipBlanks_25 : decode cX3_skipBlanks 25 = .ok (.aload_n 0, 1) := by decide +kernel
theorem dX3_skipBlanks_26 : decode cX3_skipBlanks 26 = .ok (.dup, 1) := by decide +kernel
theorem dX3_skipBlanks_27 : decode cX3_skipBlanks 27 = .ok (.getfield 41, 3) := by decide +kernel
theorem dX3_skipBlanks_30 : decode cX3_skipBlanks 30 = .ok (.iconst 1, 1) := by decide +kernel
theorem dX3_skipBlanks_31 : decode cX3_skipBlanks 31 = .ok (.iadd, 1) := by decide +kernel
theorem dX3_skipBlanks_32 : decode cX3_skipBlanks 32 = .ok (.putfield 41, 3) := by decide +kernel
theorem dX3_skipBlanks_35 : decode cX3_skipBlanks 35 = .ok (.goto (-35), 3) := by decide +kernel
theorem dX3_skipBlanks_38 : decode cX3_skipBlanks 38 = .ok (.return_, 1) := by decide +kernel
theorem dX3_skipLetters_0 : decode cX3_skipLetters 0 = .ok (.aload_n 0, 1) := by decide +kernel
theorem dX3_skipLetters_1 : decode cX3_skipLetters 1 = .ok (.getfield 41, 3) := by decide +kernel
theorem dX3_skipLetters_4 : decode cX3_skipLetters 4 = .ok (.aload_n 0, 1) := by decide +kernel
theorem dX3_skipLetters_5 : decode cX3_skipLetters 5 = .ok (.getfield 30, 3) := by decide +kernel
theorem dX3_skipLetters_8 : decode cX3_skipLetters 8 = .ok (.if_icmp .ge 44, 3) := by decide +kernel
theorem dX3_skipLetters_11 : decode cX3_skipLetters 11 = .ok (.aload_n 0, 1) := by decide +kernel
theorem dX3_skipLetters_12 : decode cX3_skipLetters 12 = .ok (.getfield 9, 3) := by decide +kernel
theorem dX3_skipLetters_15 : decode cX3_skipLetters 15 = .ok (.aload_n 0, 1) := by decide +kernel
theorem dX3_skipLetters_16 : decode cX3_skipLetters 16 = .ok (.getfield 41, 3) := by decide +kernel
theorem dX3_skipLetters_19 : decode cX3_skipLetters 19 = .ok (.caload, 1) := by decide +kernel
theorem dX3_skipLetters_20 : decode cX3_skipLetters 20 = .ok (.bipush 97, 2) := by decide +kernel
theorem dX3_skipLetters_22 : decode cX3_skipLetters 22 = .ok (.if_icmp .lt 30, 3) := by decide +kernel
theorem dX3_skipLetters_25 : decode cX3_skipLetters 25 = .ok (.aload_n 0, 1) := by decide +kernel
theorem dX3_skipLetters_26 : decode cX3_skipLetters 26 = .ok (.getfield 9, 3) := by decide +kernel
theorem dX3_skipLetters_29 : decode cX3_skipLetters 29 = .ok (.aload_n 0, 1) := by decide +kernel
theorem dX3_skipLetters_30 : decode cX3_skipLetters 30 = .ok (.getfield 41, 3) := by decide +kernel
theorem dX3_skipLetters_33 : decode cX3_skipLetters 33 = .ok (.caload, 1) := by decide +kernel
theorem dX3_skipLetters_34 : decode cX3_skipLetters 34 = .ok (.bipush 122, 2) := by decide +kernel
theorem dX3_skipLetters_36 : decode cX3_skipLetters 36 = .ok (.if_icmp .gt 16, 3) := by decide +kernel
theorem dX3_skipLetters_39 : decode cX3_skipLetters 39 = .ok (.aload_n 0, 1) := by decide +kernel
theorem dX3_skipLetters_40 : decode cX3_skipLetters 40 = .ok (.dup, 1) := by decide +kernel
theorem dX3_skipLetters_41 : decode cX3_skipLetters 41 = .ok (.getfield 41, 3) := by decide +kernel
theorem dX3_skipLetters_44 : decode cX3_skipLetters 44 = .ok (.iconst 1, 1) := by decide +kernel
theorem dX3_skipLetters_45 : decode cX3_skipLetters 45 = .ok (.iadd, 1) := by decide +kernel
theorem dX3_skipLetters_46 : decode cX3_skipLetters 46 = .ok (.putfield 41, 3) := by decide +kernel
theorem dX3_skipLetters_49 : decode cX3_skipLetters 49 = .ok (.goto (-49), 3) := by decide +kernel
theorem dX3_skipLetters_52 : decode cX3_skipLetters 52 = .ok (.return_, 1) := by decide +kernel
theorem dX3_kindOfWord_0 : decode cX3_kindOfWord 0 = .ok (.iconst 0, 1) := by decide +kernel
theorem dX3_kindOfWord_1 : decode cX3_kindOfWord 1 = .ok (.istore_n 3, 1) := by decide +kernel
theorem dX3_kindOfWord_2 : decode cX3_kindOfWord 2 = .ok (.iload_n 3, 1) := by decide +kernel
theorem dX3_kindOfWord_3 : decode cX3_kindOfWord 3 = .ok (.iconst 5, 1) := by decide +kernel
theorem dX3_kindOfWord_4 : decode cX3_kindOfWord 4 = .ok (.if_icmp .ge 24, 3) := by decide +kernel
theorem dX3_kindOfWord_7 : decode cX3_kindOfWord 7 = .ok (.aload_n 0, 1) := by decide +kernel
theorem dX3_kindOfWord_8 : decode cX3_kindOfWord 8 = .ok (.iload_n 3, 1) := by decide +kernel
theorem dX3_kindOfWord_9 : decode cX3_kindOfWord 9 = .ok (.invokestatic 94, 3) := by decide +kernel
theorem dX3_kindOfWord_12 : decode cX3_kindOfWord 12 = .ok (.iload_n 1, 1) := by decide +kernel
theorem dX3_kindOfWord_13 : decode cX3_kindOfWord 13 = .ok (.iload_n 2, 1) := by decide +kernel
theorem dX3_kindOfWord_14 : decode cX3_kindOfWord 14 = .ok (.invokevirtual 98, 3) := by decide +kernel
theorem dX3_kindOfWord_17 : decode cX3_kindOfWord 17 = .ok (.ifCond .eq 5, 3) := by decide +kernel
theorem dX3_kindOfWord_20 : decode cX3_kindOfWord 20 = .ok (.iload_n 3, 1) := by decide +kernel
theorem dX3_kindOfWord_21 : decode cX3_kindOfWord 21 = .ok (.ireturn, 1) := by decide +kernel
theorem dX3_kindOfWord_22 : decode cX3_kindOfWord 22 = .ok (.iinc 3 1, 3) := by decide +kernel
theorem dX3_kindOfWord_25 : decode cX3_kindOfWord 25 = .ok (.goto (-23), 3) := by decide +kernel
theorem dX3_kindOfWord_28 : decode cX3_kindOfWord 28 = .ok (.iconst (-1), 1) := by decide +kernel
theorem dX3_kindOfWord_29 : decode cX3_kindOfWord 29 = .ok (.ireturn, 1) := by decide +kernel
theorem dX3_isWord_0 : decode cX3_isWord 0 = .ok (.iload_n 3, 1) := by decide +kernel
theorem dX3_isWord_1 : decode cX3_isWord 1 = .ok (.iload_n 2, 1) := by decide +kernel
theorem dX3_isWord_2 : decode cX3_isWord 2 = .ok (.isub, 1) := by decide +kernel
theorem dX3_isWord_3 : decode cX3_isWord 3 = .ok (.aload_n 1, 1) := by decide +kernel
theorem dX3_isWord_4 : decode cX3_isWord 4 = .ok (.invokevirtual 102, 3) := by decide +kernel
theorem dX3_isWord_7 : decode cX3_isWord 7 = .ok (.if_icmp .eq 5, 3) := by decide +kernel
theorem dX3_isWord_10 : decode cX3_isWord 10 = .ok (.iconst 0, 1) := by decide +kernel
theorem dX3_isWord_11 : decode cX3_isWord 11 = .ok (.ireturn, 1) := by decide +kernel
theorem dX3_isWord_12 : decode cX3_isWord 12 = .ok (.iload_n 2, 1) := by decide +kernel
theorem dX3_isWord_13 : decode cX3_isWord 13 = .ok (.istore 4, 2) := by decide +kernel
theorem dX3_isWord_15 : decode cX3_isWord 15 = .ok (.iload 4, 2) := by decide +kernel
theorem dX3_isWord_17 : decode cX3_isWord 17 = .ok (.iload_n 3, 1) := by decide +kernel
theorem dX3_isWord_18 : decode cX3_isWord 18 = .ok (.if_icmp .ge 29, 3) := by decide +kernel
theorem dX3_isWord_21 : decode cX3_isWord 21 = .ok (.aload_n 0, 1) := by decide +kernel
theorem dX3_isWord_22 : decode cX3_isWord 22 = .ok (.getfield 9, 3) := by decide +kernel
theorem dX3_isWord_25 : decode cX3_isWord 25 = .ok (.iload 4, 2) := by decide +kernel
theorem dX3_isWord_27 : decode cX3_isWord 27 = .ok (.caload, 1) := by decide +kernel
theorem dX3_isWord_28 : decode cX3_isWord 28 = .ok (.aload_n 1, 1) := by decide +kernel
theorem dX3_isWord_29 : decode cX3_isWord 29 = .ok (.iload 4, 2) := by decide +kernel
theorem dX3_isWord_31 : decode cX3_isWord 31 = .ok (.iload_n 2, 1) := by decide +kernel
theorem dX3_isWord_32 : decode cX3_isWord 32 = .ok (.isub, 1) := by decide +kernel
theorem dX3_isWord_33 : decode cX3_isWord 33 = .ok (.invokevirtual 107, 3) := by decide +kernel
theorem dX3_isWord_36 : decode cX3_isWord 36 = .ok (.if_icmp .eq 5, 3) := by decide +kernel
theorem dX3_isWord_39 : decode cX3_isWord 39 = .ok (.iconst 0, 1) := by decide +kernel
theorem dX3_isWord_40 : decode cX3_isWord 40 = .ok (.ireturn, 1) := by decide +kernel
theorem dX3_isWord_41 : decode cX3_isWord 41 = .ok (.iinc 4 1, 3) := by decide +kernel
theorem dX3_isWord_44 : decode cX3_isWord 44 = .ok (.goto (-29), 3) := by decide +kernel
theorem dX3_isWord_47 : decode cX3_isWord 47 = .ok (.iconst 1, 1) := by decide +kernel
theorem dX3_isWord_48 : decode cX3_isWord 48 = .ok (.ireturn, 1) := by decide +kernel
theorem dX3_wordOf_0 : decode cX3_wordOf 0 = .ok (.iload_n 0, 1) := by decide +kernel
theorem dX3_wordOf_1 : decode cX3_wordOf 1 = .ok (.tableswitch 43 0 3 #[31, 34, 37, 40], 31) := by decide +kernel
theorem dX3_wordOf_32 : decode cX3_wordOf 32 = .ok (.ldc 111, 2) := by decide +kernel
theorem dX3_wordOf_34 : decode cX3_wordOf 34 = .ok (.areturn, 1) := by decide +kernel
theorem dX3_wordOf_35 : decode cX3_wordOf 35 = .ok (.ldc 113, 2) := by decide +kernel
theorem dX3_wordOf_37 : decode cX3_wordOf 37 = .ok (.areturn, 1) := by decide +kernel
theorem dX3_wordOf_38 : decode cX3_wordOf 38 = .ok (.ldc 115, 2) := by decide +kernel
theorem dX3_wordOf_40 : decode cX3_wordOf 40 = .ok (.areturn, 1) := by decide +kernel
theorem dX3_wordOf_41 : decode cX3_wordOf 41 = .ok (.ldc 117, 2) := by decide +kernel
theorem dX3_wordOf_43 : decode cX3_wordOf 43 = .ok (.areturn, 1) := by decide +kernel
theorem dX3_wordOf_44 : decode cX3_wordOf 44 = .ok (.ldc 119, 2) := by decide +kernel
theorem dX3_wordOf_46 : decode cX3_wordOf 46 = .ok (.areturn, 1) := by decide +kernel
theorem dX3_noteFault_0 : decode cX3_noteFault 0 = .ok (.aload_n 0, 1) := by decide +kernel
theorem dX3_noteFault_1 : decode cX3_noteFault 1 = .ok (.iload_n 1, 1) := by decide +kernel
theorem dX3_noteFault_2 : decode cX3_noteFault 2 = .ok (.putfield 38, 3) := by decide +kernel
theorem dX3_noteFault_5 : decode cX3_noteFault 5 = .ok (.aload_n 0, 1) := by decide +kernel
theorem dX3_noteFault_6 : decode cX3_noteFault 6 = .ok (.iload_n 2, 1) := by decide +kernel
theorem dX3_noteFault_7 : decode cX3_noteFault 7 = .ok (.putfield 26, 3) := by decide +kernel
theorem dX3_noteFault_10 : decode cX3_noteFault 10 = .ok (.return_, 1) := by decide +kernel
theorem dX4_init_0 : decode cX4_init 0 = .ok (.aload_n 0, 1) := by decide +kernel
theorem dX4_init_1 : decode cX4_init 1 = .ok (.invokespecial 3, 3) := by decide +kernel
theorem dX4_init_4 : decode cX4_init 4 = .ok (.aload_n 0, 1) := by decide +kernel
theorem dX4_init_5 : decode cX4_init 5 = .ok (.iload_n 1, 1) := by decide +kernel
theorem dX4_init_6 : decode cX4_init 6 = .ok (.putfield 9, 3) := by decide +kernel
theorem dX4_init_9 : decode cX4_init 9 = .ok (.aload_n 0, 1) := by decide +kernel
theorem dX4_init_10 : decode cX4_init 10 = .ok (.iconst 4, 1) := by decide +kernel
theorem dX4_init_11 : decode cX4_init 11 = .ok (.iload_n 1, 1) := by decide +kernel
theorem dX4_init_12 : decode cX4_init 12 = .ok (.imul, 1) := by decide +kernel
theorem dX4_init_13 : decode cX4_init 13 = .ok (.newarray .int, 2) := by decide +kernel
theorem dX4_init_15 : decode cX4_init 15 = .ok (.putfield 15, 3) := by decide +kernel
theorem dX4_init_18 : decode cX4_init 18 = .ok (.return_, 1) := by decide +kernel
theorem dX4_isFull_0 : decode cX4_isFull 0 = .ok (.aload_n 0, 1) := by decide +kernel
theorem dX4_isFull_1 : decode cX4_isFull 1 = .ok (.getfield 19, 3) := by decide +kernel
theorem dX4_isFull_4 : decode cX4_isFull 4 = .ok (.aload_n 0, 1) := by decide +kernel
theorem dX4_isFull_5 : decode cX4_isFull 5 = .ok (.getfield 9, 3) := by decide +kernel
theorem dX4_isFull_8 : decode cX4_isFull 8 = .ok (.if_icmp .lt 7, 3) := by decide +kernel
theorem dX4_isFull_11 : decode cX4_isFull 11 = .ok (.iconst 1, 1) := by decide +kernel
theorem dX4_isFull_12 : decode cX4_isFull 12 = .ok (.goto 4, 3) := by decide +kernel
theorem dX4_isFull_15 : decode cX4_isFull 15 = .ok (.iconst 0, 1) := by decide +kernel
theorem dX4_isFull_16 : decode cX4_isFull 16 = .ok (.ireturn, 1) := by decide +kernel
theorem dX4_add_0 : decode cX4_add 0 = .ok (.aload_n 0, 1) := by decide +kernel
theorem dX4_add_1 : decode cX4_add 1 = .ok (.getfield 19, 3) := by decide +kernel
theorem dX4_add_4 : decode cX4_add 4 = .ok (.aload_n 0, 1) := by decide +kernel
theorem dX4_add_5 : decode cX4_add 5 = .ok (.getfield 9, 3) := by decide +kernel
theorem dX4_add_8 : decode cX4_add 8 = .ok (.if_icmp .ge 68, 3) := by decide +kernel
theorem dX4_add_11 : decode cX4_add 11 = .ok (.aload_n 0, 1) := by decide +kernel
theorem dX4_add_12 : decode cX4_add 12 = .ok (.getfield 15, 3) := by decide +kernel
theorem dX4_add_15 : decode cX4_add 15 = .ok (.iconst 4, 1) := by decide +kernel
theorem dX4_add_16 : decode cX4_add 16 = .ok (.aload_n 0, 1) := by decide +kernel
theorem dX4_add_17 : decode cX4_add 17 = .ok (.getfield 19, 3) := by decide +kernel
theorem dX4_add_20 : decode cX4_add 20 = .ok (.imul, 1) := by decide +kernel
theorem dX4_add_21 : decode cX4_add 21 = .ok (.iload_n 1, 1) := by decide +kernel
theorem dX4_add_22 : decode cX4_add 22 = .ok (.iastore, 1) := by decide +kernel
theorem dX4_add_23 : decode cX4_add 23 = .ok (.aload_n 0, 1) := by decide +kernel
theorem dX4_add_24 : decode cX4_add 24 = .ok (.getfield 15, 3) := by decide +kernel
theorem dX4_add_27 : decode cX4_add 27 = .ok (.iconst 4, 1) := by decide +kernel
theorem dX4_add_28 : decode cX4_add 28 = .ok (.aload_n 0, 1) := by decide +kernel
theorem dX4_add_29 : decode cX4_add 29 = .ok (.getfield 19, 3) := by decide +kernel
theorem dX4_add_32 : decode cX4_add 32 = .ok (.imul, 1) := by decide +kernel
theorem dX4_add_33 : decode cX4_add 33 = .ok (.iconst 1, 1) := by decide +kernel
theorem dX4_add_34 : decode cX4_add 34 = .ok (.iadd, 1) := by decide +kernel
theorem dX4_add_35 : decode cX4_add 35 = .ok (.iload_n 2, 1) := by decide +kernel
theorem dX4_add_36 : decode cX4_add 36 = .ok (.iastore, 1) := by decide +kernel
theorem dX4_add_37 : decode cX4_add 37 = .ok (.aload_n 0, 1) := by decide +kernel
theorem dX4_add_38 : decode cX4_add 38 = .ok (.getfield 15, 3) := by decide +kernel
theorem dX4_add_41 : decode cX4_add 41 = .ok (.iconst 4, 1) := by decide +kernel
theorem dX4_add_42 : decode cX4_add 42 = .ok (.aload_n 0, 1) := by decide +kernel
theorem dX4_add_43 : decode cX4_add 43 = .ok (.getfield 19, 3) := by decide +kernel
theorem dX4_add_46 : decode cX4_add 46 = .ok (.imul, 1) := by decide +kernel
theorem dX4_add_47 : decode cX4_add 47 = .ok (.iconst 2, 1) := by decide +kernel
theorem dX4_add_48 : decode cX4_add 48 = .ok (.iadd, 1) := by decide +kernel
theorem dX4_add_49 : decode cX4_add 49 = .ok (.iload_n 3, 1) := by decide +kernel
theorem dX4_add_50 : decode cX4_add 50 = .ok (.iastore, 1) := by decide +kernel
theorem dX4_add_51 : decode cX4_add 51 = .ok (.aload_n 0, 1) := by decide +kernel
theorem dX4_add_52 : decode cX4_add 52 = .ok (.getfield 15, 3) := by decide +kernel
theorem dX4_add_55 : decode cX4_add 55 = .ok (.iconst 4, 1) := by decide +kernel
theorem dX4_add_56 : decode cX4_add 56 = .ok (.aload_n 0, 1) := by decide +kernel
theorem dX4_add_57 : decode cX4_add 57 = .ok (.getfield 19, 3) := by decide +kernel
theorem dX4_add_60 : decode cX4_add 60 = .ok (.imul, 1) := by decide +kernel
theorem dX4_add_61 : decode cX4_add 61 = .ok (.iconst 3, 1) := by decide +kernel
theorem dX4_add_62 : decode cX4_add 62 = .ok (.iadd, 1) := by decide +kernel
theorem dX4_add_63 : decode cX4_add 63 = .ok (.iload 4, 2) := by decide +kernel
theorem dX4_add_65 : decode cX4_add 65 = .ok (.iastore, 1) := by decide +kernel
theorem dX4_add_66 : decode cX4_add 66 = .ok (.aload_n 0, 1) := by decide +kernel
theorem dX4_add_67 : decode cX4_add 67 = .ok (.dup, 1) := by decide +kernel
theorem dX4_add_68 : decode cX4_add 68 = .ok (.getfield 19, 3) := by decide +kernel
theorem dX4_add_71 : decode cX4_add 71 = .ok (.iconst 1, 1) := by decide +kernel
theorem dX4_add_72 : decode cX4_add 72 = .ok (.iadd, 1) := by decide +kernel
theorem dX4_add_73 : decode cX4_add 73 = .ok (.putfield 19, 3) := by decide +kernel
theorem dX4_add_76 : decode cX4_add 76 = .ok (.return_, 1) := by decide +kernel
theorem dX4_cell_0 : decode cX4_cell 0 = .ok (.iload_n 1, 1) := by decide +kernel
theorem dX4_cell_1 : decode cX4_cell 1 = .ok (.ifCond .lt 20, 3) := by decide +kernel
theorem dX4_cell_4 : decode cX4_cell 4 = .ok (.iload_n 1, 1) := by decide +kernel
theorem dX4_cell_5 : decode cX4_cell 5 = .ok (.aload_n 0, 1) := by decide +kernel
theorem dX4_cell_6 : decode cX4_cell 6 = .ok (.getfield 19, 3) := by decide +kernel
theorem dX4_cell_9 : decode cX4_cell 9 = .ok (.if_icmp .ge 12, 3) := by decide +kernel
theorem dX4_cell_12 : decode cX4_cell 12 = .ok (.iload_n 2, 1) := by decide +kernel
theorem dX4_cell_13 : decode cX4_cell 13 = .ok (.ifCond .lt 8, 3) := by decide +kernel
theorem dX4_cell_16 : decode cX4_cell 16 = .ok (.iload_n 2, 1) := by decide +kernel
theorem dX4_cell_17 : decode cX4_cell 17 = .ok (.iconst 4, 1) := by decide +kernel
theorem dX4_cell_18 : decode cX4_cell 18 = .ok (.if_icmp .lt 7, 3) := by decide +kernel
theorem dX4_cell_21 : decode cX4_cell 21 = .ok (.iconst 0, 1) := by decide +kernel
theorem dX4_cell_22 : decode cX4_cell 22 = .ok (.goto 13, 3) := by decide +kernel
theorem dX4_cell_25 : decode cX4_cell 25 = .ok (.aload_n 0, 1) := by decide +kernel
theorem dX4_cell_26 : decode cX4_cell 26 = .ok (.getfield 15, 3) := by decide +kernel
theorem dX4_cell_29 : decode cX4_cell 29 = .ok (.iconst 4, 1) := by decide +kernel
theorem dX4_cell_30 : decode cX4_cell 30 = .ok (.iload_n 1, 1) := by decide +kernel
theorem dX4_cell_31 : decode cX4_cell 31 = .ok (.imul, 1) := by decide +kernel
theorem dX4_cell_32 : decode cX4_cell 32 = .ok (.iload_n 2, 1) := by decide +kernel
theorem dX4_cell_33 : decode cX4_cell 33 = .ok (.iadd, 1) := by decide +kernel
theorem dX4_cell_34 : decode cX4_cell 34 = .ok (.iaload, 1) := by decide +kernel
theorem dX4_cell_35 : decode cX4_cell 35 = .ok (.ireturn, 1) := by decide +kernel
theorem dX5_init_0 : decode cX5_init 0 = .ok (.aload_n 0, 1) := by decide +kernel
theorem dX5_init_1 : decode cX5_init 1 = .ok (.invokespecial 3, 3) := by decide +kernel
theorem dX5_init_4 : decode cX5_init 4 = .ok (.aload_n 0, 1) := by decide +kernel
theorem dX5_init_5 : decode cX5_init 5 = .ok (.bipush 7, 2) := by decide +kernel
theorem dX5_init_7 : decode cX5_init 7 = .ok (.newarray .int, 2) := by decide +kernel
theorem dX5_init_9 : decode cX5_init 9 = .ok (.putfield 9, 3) := by decide +kernel
theorem dX5_init_12 : decode cX5_init 12 = .ok (.aload_n 0, 1) := by decide +kernel
theorem dX5_init_13 : decode cX5_init 13 = .ok (.bipush 7, 2) := by decide +kernel
theorem dX5_init_15 : decode cX5_init 15 = .ok (.newarray .int, 2) := by decide +kernel
theorem dX5_init_17 : decode cX5_init 17 = .ok (.putfield 15, 3) := by decide +kernel
theorem dX5_init_20 : decode cX5_init 20 = .ok (.aload_n 0, 1) := by decide +kernel
theorem dX5_init_21 : decode cX5_init 21 = .ok (.bipush 7, 2) := by decide +kernel
theorem dX5_init_23 : decode cX5_init 23 = .ok (.newarray .int, 2) := by decide +kernel
theorem dX5_init_25 : decode cX5_init 25 = .ok (.putfield 18, 3) := by decide +kernel
theorem dX5_init_28 : decode cX5_init 28 = .ok (.aload_n 0, 1) := by decide +kernel
theorem dX5_init_29 : decode cX5_init 29 = .ok (.bipush 7, 2) := by decide +kernel
theorem dX5_init_31 : decode cX5_init 31 = .ok (.newarray .int, 2) := by decide +kernel
theorem dX5_init_33 : decode cX5_init 33 = .ok (.putfield 21, 3) := by decide +kernel
theorem dX5_init_36 : decode cX5_init 36 = .ok (.aload_n 0, 1) := by decide +kernel
theorem dX5_init_37 : decode cX5_init 37 = .ok (.bipush 6, 2) := by decide +kernel
theorem dX5_init_39 : decode cX5_init 39 = .ok (.newarray .int, 2) := by decide +kernel
theorem dX5_init_41 : decode cX5_init 41 = .ok (.putfield 24, 3) := by decide +kernel
theorem dX5_init_44 : decode cX5_init 44 = .ok (.aload_n 0, 1) := by decide +kernel
theorem dX5_init_45 : decode cX5_init 45 = .ok (.aload_n 1, 1) := by decide +kernel
theorem dX5_init_46 : decode cX5_init 46 = .ok (.putfield 27, 3) := by decide +kernel
theorem dX5_init_49 : decode cX5_init 49 = .ok (.return_, 1) := by decide +kernel
theorem dX5_dress_0 : decode cX5_dress 0 = .ok (.aload_n 0, 1) := by decide +kernel
theorem dX5_dress_1 : decode cX5_dress 1 = .ok (.aload_n 0, 1) := by decide +kernel
theorem dX5_dress_2 : decode cX5_dress 2 = .ok (.getfield 27, 3) := by decide +kernel
theorem dX5_dress_5 : decode cX5_dress 5 = .ok (.iconst 3, 1) := by decide +kernel
theorem dX5_dress_6 : decode cX5_dress 6 = .ok (.invokevirtual 31, 3) := by decide +kernel
theorem dX5_dress_9 : decode cX5_dress 9 = .ok (.putfield 37, 3) := by decide +kernel
theorem dX5_dress_12 : decode cX5_dress 12 = .ok (.aload_n 0, 1) := by decide +kernel
theorem dX5_dress_13 : decode cX5_dress 13 = .ok (.getfield 24, 3) := by decide +kernel
theorem dX5_dress_16 : decode cX5_dress 16 = .ok (.iconst (-1), 1) := by decide +kernel
theorem dX5_dress_17 : decode cX5_dress 17 = .ok (.invokestatic 41, 3) := by decide +kernel
theorem dX5_dress_20 : decode cX5_dress 20 = .ok (.iconst 0, 1) := by decide +kernel
theorem dX5_dress_21 : decode cX5_dress 21 = .ok (.istore_n 3, 1) := by decide +kernel
theorem dX5_dress_22 : decode cX5_dress 22 = .ok (.iload_n 3, 1) := by decide +kernel
theorem dX5_dress_23 : decode cX5_dress 23 = .ok (.aload_n 0, 1) := by decide +kernel
theorem dX5_dress_24 : decode cX5_dress 24 = .ok (.getfield 37, 3) := by decide +kernel
theorem dX5_dress_27 : decode cX5_dress 27 = .ok (.if_icmp .ge 54, 3) := by decide +kernel
theorem dX5_dress_30 : decode cX5_dress 30 = .ok (.aload_n 0, 1) := by decide +kernel
theorem dX5_dress_31 : decode cX5_dress 31 = .ok (.getfield 9, 3) := by decide +kernel
theorem dX5_dress_34 : decode cX5_dress 34 = .ok (.iload_n 3, 1) := by decide +kernel
theorem dX5_dress_35 : decode cX5_dress 35 = .ok (.aload_n 0, 1) := by decide +kernel
theorem dX5_dress_36 : decode cX5_dress 36 = .ok (.getfield 27, 3) := by decide +kernel
theorem dX5_dress_39 : decode cX5_dress 39 = .ok (.iconst 3, 1) := by decide +kernel
theorem dX5_dress_40 : decode cX5_dress 40 = .ok (.iload_n 3, 1) := by decide +kernel
theorem dX5_dress_41 : decode cX5_dress 41 = .ok (.iconst 0, 1) := by decide +kernel
theorem dX5_dress_42 : decode cX5_dress 42 = .ok (.invokevirtual 47, 3) := by decide +kernel
theorem dX5_dress_45 : decode cX5_dress 45 = .ok (.iastore, 1) := by decide +kernel
theorem dX5_dress_46 : decode cX5_dress 46 = .ok (.aload_n 0, 1) := by decide +kernel
theorem dX5_dress_47 : decode cX5_dress 47 = .ok (.getfield 15, 3) := by decide +kernel
theorem dX5_dress_50 : decode cX5_dress 50 = .ok (.iload_n 3, 1) := by decide +kernel
theorem dX5_dress_51 : decode cX5_dress 51 = .ok (.iconst 0, 1) := by decide +kernel
theorem dX5_dress_52 : decode cX5_dress 52 = .ok (.iastore, 1) := by decide +kernel
theorem dX5_dress_53 : decode cX5_dress 53 = .ok (.aload_n 1, 1) := by decide +kernel
theorem dX5_dress_54 : decode cX5_dress 54 = .ok (.getfield 51, 3) := by decide +kernel
theorem dX5_dress_57 : decode cX5_dress 57 = .ok (.iload_n 3, 1) := by decide +kernel
theorem dX5_dress_58 : decode cX5_dress 58 = .ok (.iaload, 1) := by decide +kernel
theorem dX5_dress_59 : decode cX5_dress 59 = .ok (.iconst (-1), 1) := by decide +kernel
theorem dX5_dress_60 : decode cX5_dress 60 = .ok (.if_icmp .eq 15, 3) := by decide +kernel
theorem dX5_dress_63 : decode cX5_dress 63 = .ok (.aload_n 0, 1) := by decide +kernel
theorem dX5_dress_64 : decode cX5_dress 64 = .ok (.getfield 24, 3) := by decide +kernel
theorem dX5_dress_67 : decode cX5_dress 67 = .ok (.aload_n 1, 1) := by decide +kernel
theorem dX5_dress_68 : decode cX5_dress 68 = .ok (.getfield 51, 3) := by decide +kernel
theorem dX5_dress_71 : decode cX5_dress 71 = .ok (.iload_n 3, 1) := by decide +kernel
theorem dX5_dress_72 : decode cX5_dress 72 = .ok (.iaload, 1) := by decide +kernel
theorem dX5_dress_73 : decode cX5_dress 73 = .ok (.iload_n 3, 1) := by decide +kernel
theorem dX5_dress_74 : decode cX5_dress 74 = .ok (.iastore, 1) := by decide +kernel
theorem dX5_dress_75 : decode cX5_dress 75 = .ok (.iinc 3 1, 3) := by decide +kernel
theorem dX5_dress_78 : decode cX5_dress 78 = .ok (.goto (-56), 3) := by decide +kernel
theorem dX5_dress_81 : decode cX5_dress 81 = .ok (.iconst 0, 1) := by decide +kernel
theorem dX5_dress_82 : decode cX5_dress 82 = .ok (.istore_n 3, 1) := by decide +kernel
theorem dX5_dress_83 : decode cX5_dress 83 = .ok (.iload_n 2, 1) := by decide +kernel
theorem dX5_dress_84 : decode cX5_dress 84 = .ok (.ifCond .eq 42, 3) := by decide +kernel
theorem dX5_dress_87 : decode cX5_dress 87 = .ok (.iload_n 3, 1) := by decide +kernel
theorem dX5_dress_88 : decode cX5_dress 88 = .ok (.aload_n 0, 1) := by decide +kernel
theorem dX5_dress_89 : decode cX5_dress 89 = .ok (.getfield 27, 3) := by decide +kernel
theorem dX5_dress_92 : decode cX5_dress 92 = .ok (.iconst 4, 1) := by decide +kernel
theorem dX5_dress_93 : decode cX5_dress 93 = .ok (.invokevirtual 31, 3) := by decide +kernel
theorem dX5_dress_96 : decode cX5_dress 96 = .ok (.if_icmp .ge 30, 3) := by decide +kernel
theorem dX5_dress_99 : decode cX5_dress 99 = .ok (.aload_n 1, 1) := by decide +kernel
theorem dX5_dress_100 : decode cX5_dress 100 = .ok (.getfield 56, 3) := by decide +kernel
theorem dX5_dress_103 : decode cX5_dress 103 = .ok (.iload_n 3, 1) := by decide +kernel
theorem dX5_dress_104 : decode cX5_dress 104 = .ok (.iaload, 1) := by decide +kernel
theorem dX5_dress_105 : decode cX5_dress 105 = .ok (.iconst (-1), 1) := by decide +kernel
theorem dX5_dress_106 : decode cX5_dress 106 = .ok (.if_icmp .eq 14, 3) := by decide +kernel
theorem dX5_dress_109 : decode cX5_dress 109 = .ok (.aload_n 0, 1) := by decide +kernel
theorem dX5_dress_110 : decode cX5_dress 110 = .ok (.iload_n 3, 1) := by decide +kernel
theorem dX5_dress_111 : decode cX5_dress 111 = .ok (.aload_n 1, 1) := by decide +kernel
theorem dX5_dress_112 : decode cX5_dress 112 = .ok (.getfield 56, 3) := by decide +kernel
theorem dX5_dress_115 : decode cX5_dress 115 = .ok (.iload_n 3, 1) := by decide +kernel
theorem dX5_dress_116 : decode cX5_dress 116 = .ok (.iaload, 1) := by decide +kernel
theorem dX5_dress_117 : decode cX5_dress 117 = .ok (.invokevirtual 59, 3) := by decide +kernel
theorem dX5_dress_120 : decode cX5_dress 120 = .ok (.iinc 3 1, 3) := by decide +kernel
theorem dX5_dress_123 : decode cX5_dress 123 = .ok (.goto (-40), 3) := by decide +kernel
theorem dX5_dress_126 : decode cX5_dress 126 = .ok (.return_, 1) := by decide +kernel
theorem dX5_light_0 : decode cX5_light 0 = .ok (.aload_n 0, 1) := by decide +kernel
theorem dX5_light_1 : decode cX5_light 1 = .ok (.iload_n 1, 1) := by decide +kernel
theorem dX5_light_2 : decode cX5_light 2 = .ok (.putfield 63, 3) := by decide +kernel
theorem dX5_light_5 : decode cX5_light 5 = .ok (.aload_n 0, 1) := by decide +kernel
theorem dX5_light_6 : decode cX5_light 6 = .ok (.iload_n 2, 1) := by decide +kernel
theorem dX5_light_7 : decode cX5_light 7 = .ok (.putfield 66, 3) := by decide +kernel
theorem dX5_light_10 : decode cX5_light 10 = .ok (.return_, 1) := by decide +kernel
theorem dX5_putHat_0 : decode cX5_putHat 0 = .ok (.aload_n 0, 1) := by decide +kernel
theorem dX5_putHat_1 : decode cX5_putHat 1 = .ok (.getfield 9, 3) := by decide +kernel
theorem dX5_putHat_4 : decode cX5_putHat 4 = .ok (.iload_n 2, 1) := by decide +kernel
theorem dX5_putHat_5 : decode cX5_putHat 5 = .ok (.dup2, 1) := by decide +kernel
theorem dX5_putHat_6 : decode cX5_putHat 6 = .ok (.iaload, 1) := by decide +kernel
theorem dX5_putHat_7 : decode cX5_putHat 7 = .ok (.aload_n 0, 1) := by decide +kernel
theorem dX5_putHat_8 : decode cX5_putHat 8 = .ok (.getfield 27, 3) := by decide +kernel
theorem dX5_putHat_11 : decode cX5_putHat 11 = .ok (.iconst 4, 1) := by decide +kernel
theorem dX5_putHat_12 : decode cX5_putHat 12 = .ok (.iload_n 1, 1) := by decide +kernel
theorem dX5_putHat_13 : decode cX5_putHat 13 = .ok (.iconst 0, 1) := by decide +kernel
theorem dX5_putHat_14 : decode cX5_putHat 14 = .ok (.invokevirtual 47, 3) := by decide +kernel
theorem dX5_putHat_17 : decode cX5_putHat 17 = .ok (.iadd, 1) := by decide +kernel
theorem dX5_putHat_18 : decode cX5_putHat 18 = .ok (.iastore, 1) := by decide +kernel
theorem dX5_putHat_19 : decode cX5_putHat 19 = .ok (.aload_n 0, 1) := by decide +kernel
theorem dX5_putHat_20 : decode cX5_putHat 20 = .ok (.getfield 15, 3) := by decide +kernel
theorem dX5_putHat_23 : decode cX5_putHat 23 = .ok (.iload_n 2, 1) := by decide +kernel
theorem dX5_putHat_24 : decode cX5_putHat 24 = .ok (.dup2, 1) := by decide +kernel
theorem dX5_putHat_25 : decode cX5_putHat 25 = .ok (.iaload, 1) := by decide +kernel
theorem dX5_putHat_26 : decode cX5_putHat 26 = .ok (.aload_n 0, 1) := by decide +kernel
theorem dX5_putHat_27 : decode cX5_putHat 27 = .ok (.getfield 27, 3) := by decide +kernel
theorem dX5_putHat_30 : decode cX5_putHat 30 = .ok (.iconst 4, 1) := by decide +kernel
theorem dX5_putHat_31 : decode cX5_putHat 31 = .ok (.iload_n 1, 1) := by decide +kernel
theorem dX5_putHat_32 : decode cX5_putHat 32 = .ok (.iconst 1, 1) := by decide +kernel
theorem dX5_putHat_33 : decode cX5_putHat 33 = .ok (.invokevirtual 47, 3) := by decide +kernel
theorem dX5_putHat_36 : decode cX5_putHat 36 = .ok (.iadd, 1) := by decide +kernel
theorem dX5_putHat_37 : decode cX5_putHat 37 = .ok (.iastore, 1) := by decide +kernel
theorem dX5_putHat_38 : decode cX5_putHat 38 = .ok (.return_, 1) := by decide +kernel
theorem dX5_takeHat_0 : decode cX5_takeHat 0 = .ok (.aload_n 0, 1) := by decide +kernel
theorem dX5_takeHat_1 : decode cX5_takeHat 1 = .ok (.getfield 9, 3) := by decide +kernel
theorem dX5_takeHat_4 : decode cX5_takeHat 4 = .ok (.iload_n 2, 1) := by decide +kernel
theorem dX5_takeHat_5 : decode cX5_takeHat 5 = .ok (.dup2, 1) := by decide +kernel
theorem dX5_takeHat_6 : decode cX5_takeHat 6 = .ok (.iaload, 1) := by decide +kernel
theorem dX5_takeHat_7 : decode cX5_takeHat 7 = .ok (.aload_n 0, 1) := by decide +kernel
theorem dX5_takeHat_8 : decode cX5_takeHat 8 = .ok (.getfield 27, 3) := by decide +kernel
theorem dX5_takeHat_11 : decode cX5_takeHat 11 = .ok (.iconst 4, 1) := by decide +kernel
theorem dX5_takeHat_12 : decode cX5_takeHat 12 = .ok (.iload_n 1, 1) := by decide +kernel
theorem dX5_takeHat_13 : decode cX5_takeHat 13 = .ok (.iconst 0, 1) := by decide +kernel
theorem dX5_takeHat_14 : decode cX5_takeHat 14 = .ok (.invokevirtual 47, 3) := by decide +kernel
theorem dX5_takeHat_17 : decode cX5_takeHat 17 = .ok (.isub, 1) := by decide +kernel
theorem dX5_takeHat_18 : decode cX5_takeHat 18 = .ok (.iastore, 1) := by decide +kernel
theorem dX5_takeHat_19 : decode cX5_takeHat 19 = .ok (.aload_n 0, 1) := by decide +kernel
theorem dX5_takeHat_20 : decode cX5_takeHat 20 = .ok (.getfield 15, 3) := by decide +kernel
theorem dX5_takeHat_23 : decode cX5_takeHat 23 = .ok (.iload_n 2, 1) := by decide +kernel
theorem dX5_takeHat_24 : decode cX5_takeHat 24 = .ok (.dup2, 1) := by decide +kernel
theorem dX5_takeHat_25 : decode cX5_takeHat 25 = .ok (.iaload, 1) := by decide +kernel
theorem dX5_takeHat_26 : decode cX5_takeHat 26 = .ok (.aload_n 0, 1) := by decide +kernel
theorem dX5_takeHat_27 : decode cX5_takeHat 27 = .ok (.getfield 27, 3) := by decide +kernel
theorem dX5_takeHat_30 : decode cX5_takeHat 30 = .ok (.iconst 4, 1) := by decide +kernel
theorem dX5_takeHat_31 : decode cX5_takeHat 31 = .ok (.iload_n 1, 1) := by decide +kernel
theorem dX5_takeHat_32 : decode cX5_takeHat 32 = .ok (.iconst 1, 1) := by decide +kernel
theorem dX5_takeHat_33 : decode cX5_takeHat 33 = .ok (.invokevirtual 47, 3) := by decide +kernel
theorem dX5_takeHat_36 : decode cX5_takeHat 36 = .ok (.isub, 1) := by decide +kernel
theorem dX5_takeHat_37 : decode cX5_takeHat 37 = .ok (.iastore, 1) := by decide +kernel
theorem dX5_takeHat_38 : decode cX5_takeHat 38 = .ok (.return_, 1) := by decide +kernel
theorem dX5_addGiant_0 : decode cX5_addGiant 0 = .ok (.aload_n 0, 1) := by decide +kernel
theorem dX5_addGiant_1 : decode cX5_addGiant 1 = .ok (.getfield 27, 3) := by decide +kernel
theorem dX5_addGiant_4 : decode cX5_addGiant 4 = .ok (.iconst 3, 1) := by decide +kernel
theorem dX5_addGiant_5 : decode cX5_addGiant 5 = .ok (.invokevirtual 31, 3) := by decide +kernel
theorem dX5_addGiant_8 : decode cX5_addGiant 8 = .ok (.istore_n 2, 1) := by decide +kernel
theorem dX5_addGiant_9 : decode cX5_addGiant 9 = .ok (.aload_n 0, 1) := by decide +kernel
theorem dX5_addGiant_10 : decode cX5_addGiant 10 = .ok (.getfield 9, 3) := by decide +kernel
theorem dX5_addGiant_13 : decode cX5_addGiant 13 = .ok (.iload_n 2, 1) := by decide +kernel
theorem dX5_addGiant_14 : decode cX5_addGiant 14 = .ok (.iload_n 1, 1) := by decide +kernel
theorem dX5_addGiant_15 : decode cX5_addGiant 15 = .ok (.iastore, 1) := by decide +kernel
theorem dX5_addGiant_16 : decode cX5_addGiant 16 = .ok (.aload_n 0, 1) := by decide +kernel
theorem dX5_addGiant_17 : decode cX5_addGiant 17 = .ok (.getfield 15, 3) := by decide +kernel
theorem dX5_addGiant_20 : decode cX5_addGiant 20 = .ok (.iload_n 2, 1) := by decide +kernel
theorem dX5_addGiant_21 : decode cX5_addGiant 21 = .ok (.iconst 0, 1) := by decide +kernel
theorem dX5_addGiant_22 : decode cX5_addGiant 22 = .ok (.iastore, 1) := by decide +kernel
theorem dX5_addGiant_23 : decode cX5_addGiant 23 = .ok (.aload_n 0, 1) := by decide +kernel
theorem dX5_addGiant_24 : decode cX5_addGiant 24 = .ok (.iload_n 2, 1) := by decide +kernel
theorem dX5_addGiant_25 : decode cX5_addGiant 25 = .ok (.iconst 1, 1) := by decide +kernel
theorem dX5_addGiant_26 : decode cX5_addGiant 26 = .ok (.iadd, 1) := by decide +kernel
theorem dX5_addGiant_27 : decode cX5_addGiant 27 = .ok (.putfield 37, 3) := by decide +kernel
theorem dX5_addGiant_30 : decode cX5_addGiant 30 = .ok (.iload_n 2, 1) := by decide +kernel
theorem dX5_addGiant_31 : decode cX5_addGiant 31 = .ok (.ireturn, 1) := by decide +kernel
theorem dX5_cast_0 : decode cX5_cast 0 = .ok (.aload_n 0, 1) := by decide +kernel
theorem dX5_cast_1 : decode cX5_cast 1 = .ok (.invokevirtual 69, 3) := by decide +kernel
theorem dX5_cast_4 : decode cX5_cast 4 = .ok (.aload_n 0, 1) := by decide +kernel
theorem dX5_cast_5 : decode cX5_cast 5 = .ok (.getfield 66, 3) := by decide +kernel
theorem dX5_cast_8 : decode cX5_cast 8 = .ok (.iconst 1, 1) := by decide +kernel
theorem dX5_cast_9 : decode cX5_cast 9 = .ok (.if_icmp .ne 8, 3) := by decide +kernel
theorem dX5_cast_12 : decode cX5_cast 12 = .ok (.aload_n 0, 1) := by decide +kernel
theorem dX5_cast_13 : decode cX5_cast 13 = .ok (.invokevirtual 72, 3) := by decide +kernel
theorem dX5_cast_16 : decode cX5_cast 16 = .ok (.return_, 1) := by decide +kernel
theorem dX5_cast_17 : decode cX5_cast 17 = .ok (.iconst 0, 1) := by decide +kernel
theorem dX5_cast_18 : decode cX5_cast 18 = .ok (.istore_n 1, 1) := by decide +kernel
theorem dX5_cast_19 : decode cX5_cast 19 = .ok (.iload_n 1, 1) := by decide +kernel
theorem dX5_cast_20 : decode cX5_cast 20 = .ok (.aload_n 0, 1) := by decide +kernel
theorem dX5_cast_21 : decode cX5_cast 21 = .ok (.getfield 37, 3) := by decide +kernel
theorem dX5_cast_24 : decode cX5_cast 24 = .ok (.if_icmp .ge 43, 3) := by decide +kernel
theorem dX5_cast_27 : decode cX5_cast 27 = .ok (.aload_n 0, 1) := by decide +kernel
theorem dX5_cast_28 : decode cX5_cast 28 = .ok (.getfield 21, 3) := by decide +kernel
theorem dX5_cast_31 : decode cX5_cast 31 = .ok (.iload_n 1, 1) := by decide +kernel
theorem dX5_cast_32 : decode cX5_cast 32 = .ok (.aload_n 0, 1) := by decide +kernel
theorem dX5_cast_33 : decode cX5_cast 33 = .ok (.getfield 66, 3) := by decide +kernel
theorem dX5_cast_36 : decode cX5_cast 36 = .ok (.iconst 2, 1) := by decide +kernel
theorem dX5_cast_37 : decode cX5_cast 37 = .ok (.if_icmp .ne 17, 3) := by decide +kernel
theorem dX5_cast_40 : decode cX5_cast 40 = .ok (.aload_n 0, 1) := by decide +kernel
theorem dX5_cast_41 : decode cX5_cast 41 = .ok (.getfield 18, 3) := by decide +kernel
theorem dX5_cast_44 : decode cX5_cast 44 = .ok (.iload_n 1, 1) := by decide +kernel
theorem dX5_cast_45 : decode cX5_cast 45 = .ok (.iaload, 1) := by decide +kernel
theorem dX5_cast_46 : decode cX5_cast 46 = .ok (.bipush 50, 2) := by decide +kernel
theorem dX5_cast_48 : decode cX5_cast 48 = .ok (.invokestatic 75, 3) := by decide +kernel
theorem dX5_cast_51 : decode cX5_cast 51 = .ok (.goto 9, 3) := by decide +kernel
theorem dX5_cast_54 : decode cX5_cast 54 = .ok (.aload_n 0, 1) := by decide +kernel
theorem dX5_cast_55 : decode cX5_cast 55 = .ok (.getfield 18, 3) := by decide +kernel
theorem dX5_cast_58 : decode cX5_cast 58 = .ok (.iload_n 1, 1) := by decide +kernel
theorem dX5_cast_59 : decode cX5_cast 59 = .ok (.iaload, 1) := by decide +kernel
theorem dX5_cast_60 : decode cX5_cast 60 = .ok (.iastore, 1) := by decide +kernel
theorem dX5_cast_61 : decode cX5_cast 61 = .ok (.iinc 1 1, 3) := by decide +kernel
theorem dX5_cast_64 : decode cX5_cast 64 = .ok (.goto (-45), 3) := by decide +kernel
theorem dX5_cast_67 : decode cX5_cast 67 = .ok (.return_, 1) := by decide +kernel
theorem dX5_castShades_0 : decode cX5_castShades 0 = .ok (.aload_n 0, 1) := by decide +kernel
theorem dX5_castShades_1 : decode cX5_castShades 1 = .ok (.getfield 18, 3) := by decide +kernel
theorem dX5_castShades_4 : decode cX5_castShades 4 = .ok (.iconst 0, 1) := by decide +kernel
theorem dX5_castShades_5 : decode cX5_castShades 5 = .ok (.invokestatic 41, 3) := by decide +kernel
theorem dX5_castShades_8 : decode cX5_castShades 8 = .ok (.iconst 0, 1) := by decide +kernel
theorem dX5_castShades_9 : decode cX5_castShades 9 = .ok (.istore_n 1, 1) := by decide +kernel
theorem dX5_castShades_10 : decode cX5_castShades 10 = .ok (.iconst 0, 1) := by decide +kernel
theorem dX5_castShades_11 : decode cX5_castShades 11 = .ok (.istore_n 2, 1) := by decide +kernel
theorem dX5_castShades_12 : decode cX5_castShades 12 = .ok (.iload_n 2, 1) := by decide +kernel
theorem dX5_castShades_13 : decode cX5_castShades 13 = .ok (.aload_n 0, 1) := by decide +kernel
theorem dX5_castShades_14 : decode cX5_castShades 14 = .ok (.getfield 27, 3) := by decide +kernel
theorem dX5_castShades_17 : decode cX5_castShades 17 = .ok (.iconst 2, 1) := by decide +kernel
theorem dX5_castShades_18 : decode cX5_castShades 18 = .ok (.invokevirtual 31, 3) := by decide +kernel
theorem dX5_castShades_21 : decode cX5_castShades 21 = .ok (.if_icmp .ge 76, 3) := by decide +kernel
theorem dX5_castShades_24 : decode cX5_castShades 24 = .ok (.aload_n 0, 1) := by decide +kernel
theorem dX5_castShades_25 : decode cX5_castShades 25 = .ok (.getfield 24, 3) := by decide +kernel
theorem dX5_castShades_28 : decode cX5_castShades 28 = .ok (.iload_n 2, 1) := by decide +kernel
theorem dX5_castShades_29 : decode cX5_castShades 29 = .ok (.iaload, 1) := by decide +kernel
theorem dX5_castShades_30 : decode cX5_castShades 30 = .ok (.istore_n 3, 1) := by decide +kernel
theorem dX5_castShades_31 : decode cX5_castShades 31 = .ok (.iconst 0, 1) := by decide +kernel
theorem dX5_castShades_32 : decode cX5_castShades 32 = .ok (.istore 4, 2) := by decide +kernel
theorem dX5_castShades_34 : decode cX5_castShades 34 = .ok (.iload_n 3, 1) := by decide +kernel
theorem dX5_castShades_35 : decode cX5_castShades 35 = .ok (.iconst (-1), 1) := by decide +kernel
theorem dX5_castShades_36 : decode cX5_castShades 36 = .ok (.if_icmp .eq 52, 3) := by decide +kernel
theorem dX5_castShades_39 : decode cX5_castShades 39 = .ok (.aload_n 0, 1) := by decide +kernel
theorem dX5_castShades_40 : decode cX5_castShades 40 = .ok (.getfield 9, 3) := by decide +kernel
theorem dX5_castShades_43 : decode cX5_castShades 43 = .ok (.iload_n 3, 1) := by decide +kernel
theorem dX5_castShades_44 : decode cX5_castShades 44 = .ok (.iaload, 1) := by decide +kernel
theorem dX5_castShades_45 : decode cX5_castShades 45 = .ok (.aload_n 0, 1) := by decide +kernel
theorem dX5_castShades_46 : decode cX5_castShades 46 = .ok (.getfield 27, 3) := by decide +kernel
theorem dX5_castShades_49 : decode cX5_castShades 49 = .ok (.iconst 2, 1) := by decide +kernel
theorem dX5_castShades_50 : decode cX5_castShades 50 = .ok (.iload_n 2, 1) := by decide +kernel
theorem dX5_castShades_51 : decode cX5_castShades 51 = .ok (.iconst 0, 1) := by decide +kernel
theorem dX5_castShades_52 : decode cX5_castShades 52 = .ok (.invokevirtual 47, 3) := by decide +kernel
theorem dX5_castShades_55 : decode cX5_castShades 55 = .ok (.iadd, 1) := by decide +kernel
theorem dX5_castShades_56 : decode cX5_castShades 56 = .ok (.istore 4, 2) := by decide +kernel
theorem dX5_castShades_58 : decode cX5_castShades 58 = .ok (.aload_n 0, 1) := by decide +kernel
theorem dX5_castShades_59 : decode cX5_castShades 59 = .ok (.getfield 18, 3) := by decide +kernel
theorem dX5_castShades_62 : decode cX5_castShades 62 = .ok (.iload_n 3, 1) := by decide +kernel
theorem dX5_castShades_63 : decode cX5_castShades 63 = .ok (.iload_n 1, 1) := by decide +kernel
theorem dX5_castShades_64 : decode cX5_castShades 64 = .ok (.iload 4, 2) := by decide +kernel
theorem dX5_castShades_66 : decode cX5_castShades 66 = .ok (.if_icmp .le 7, 3) := by decide +kernel
theorem dX5_castShades_69 : decode cX5_castShades 69 = .ok (.iconst 0, 1) := by decide +kernel
theorem dX5_castShades_70 : decode cX5_castShades 70 = .ok (.goto 17, 3) := by decide +kernel
theorem dX5_castShades_73 : decode cX5_castShades 73 = .ok (.aload_n 0, 1) := by decide +kernel
theorem dX5_castShades_74 : decode cX5_castShades 74 = .ok (.getfield 27, 3) := by decide +kernel
theorem dX5_castShades_77 : decode cX5_castShades 77 = .ok (.iload_n 2, 1) := by decide +kernel
theorem dX5_castShades_78 : decode cX5_castShades 78 = .ok (.iload 4, 2) := by decide +kernel
theorem dX5_castShades_80 : decode cX5_castShades 80 = .ok (.aload_n 0, 1) := by decide +kernel
theorem dX5_castShades_81 : decode cX5_castShades 81 = .ok (.getfield 63, 3) := by decide +kernel
theorem dX5_castShades_84 : decode cX5_castShades 84 = .ok (.invokevirtual 81, 3) := by decide +kernel
theorem dX5_castShades_87 : decode cX5_castShades 87 = .ok (.iastore, 1) := by decide +kernel
theorem dX5_castShades_88 : decode cX5_castShades 88 = .ok (.iload 4, 2) := by decide +kernel
theorem dX5_castShades_90 : decode cX5_castShades 90 = .ok (.istore_n 1, 1) := by decide +kernel
theorem dX5_castShades_91 : decode cX5_castShades 91 = .ok (.iinc 2 1, 3) := by decide +kernel
theorem dX5_castShades_94 : decode cX5_castShades 94 = .ok (.goto (-82), 3) := by decide +kernel
theorem dX5_castShades_97 : decode cX5_castShades 97 = .ok (.return_, 1) := by decide +kernel
theorem dX5_giveAllToLongest_0 : decode cX5_giveAllToLongest 0 = .ok (.iconst 0, 1) := by decide +kernel
theorem dX5_giveAllToLongest_1 : decode cX5_giveAllToLongest 1 = .ok (.istore_n 1, 1) := by decide +kernel
theorem dX5_giveAllToLongest_2 : decode cX5_giveAllToLongest 2 = .ok (.iconst 0, 1) := by decide +kernel
theorem dX5_giveAllToLongest_3 : decode cX5_giveAllToLongest 3 = .ok (.istore_n 2, 1) := by decide +kernel
theorem dX5_giveAllToLongest_4 : decode cX5_giveAllToLongest 4 = .ok (.iconst 0, 1) := by decide +kernel
theorem dX5_giveAllToLongest_5 : decode cX5_giveAllToLongest 5 = .ok (.istore_n 3, 1) := by decide +kernel
theorem dX5_giveAllToLongest_6 : decode cX5_giveAllToLongest 6 = .ok (.iload_n 3, 1) := by decide +kernel
theorem dX5_giveAllToLongest_7 : decode cX5_giveAllToLongest 7 = .ok (.aload_n 0, 1) := by decide +kernel
theorem dX5_giveAllToLongest_8 : decode cX5_giveAllToLongest 8 = .ok (.getfield 37, 3) := by decide +kernel
theorem dX5_giveAllToLongest_11 : decode cX5_giveAllToLongest 11 = .ok (.if_icmp .ge 39, 3) := by decide +kernel
theorem dX5_giveAllToLongest_14 : decode cX5_giveAllToLongest 14 = .ok (.aload_n 0, 1) := by decide +kernel
theorem dX5_giveAllToLongest_15 : decode cX5_giveAllToLongest 15 = .ok (.getfield 18, 3) := by decide +kernel
theorem dX5_giveAllToLongest_18 : decode cX5_giveAllToLongest 18 = .ok (.iload_n 3, 1) := by decide +kernel
theorem dX5_giveAllToLongest_19 : decode cX5_giveAllToLongest 19 = .ok (.iaload, 1) := by decide +kernel
theorem dX5_giveAllToLongest_20 : decode cX5_giveAllToLongest 20 = .ok (.aload_n 0, 1) := by decide +kernel
theorem dX5_giveAllToLongest_21 : decode cX5_giveAllToLongest 21 = .ok (.getfield 18, 3) := by decide +kernel
theorem dX5_giveAllToLongest_24 : decode cX5_giveAllToLongest 24 = .ok (.iload_n 1, 1) := by decide +kernel
theorem dX5_giveAllToLongest_25 : decode cX5_giveAllToLongest 25 = .ok (.iaload, 1) := by decide +kernel
theorem dX5_giveAllToLongest_26 : decode cX5_giveAllToLongest 26 = .ok (.if_icmp .le 7, 3) := by decide +kernel
theorem dX5_giveAllToLongest_29 : decode cX5_giveAllToLongest 29 = .ok (.iload_n 3, 1) := by decide +kernel
theorem dX5_giveAllToLongest_30 : decode cX5_giveAllToLongest 30 = .ok (.goto 4, 3) := by decide +kernel
theorem dX5_giveAllToLongest_33 : decode cX5_giveAllToLongest 33 = .ok (.iload_n 1, 1) := by decide +kernel
theorem dX5_giveAllToLongest_34 : decode cX5_giveAllToLongest 34 = .ok (.istore_n 1, 1) := by decide +kernel
theorem dX5_giveAllToLongest_35 : decode cX5_giveAllToLongest 35 = .ok (.iload_n 2, 1) := by decide +kernel
theorem dX5_giveAllToLongest_36 : decode cX5_giveAllToLongest 36 = .ok (.aload_n 0, 1) := by decide +kernel
theorem dX5_giveAllToLongest_37 : decode cX5_giveAllToLongest 37 = .ok (.getfield 18, 3) := by decide +kernel
theorem dX5_giveAllToLongest_40 : decode cX5_giveAllToLongest 40 = .ok (.iload_n 3, 1) := by decide +kernel
theorem dX5_giveAllToLongest_41 : decode cX5_giveAllToLongest 41 = .ok (.iaload, 1) := by decide +kernel
theorem dX5_giveAllToLongest_42 : decode cX5_giveAllToLongest 42 = .ok (.iadd, 1) := by decide +kernel
theorem dX5_giveAllToLongest_43 : decode cX5_giveAllToLongest 43 = .ok (.istore_n 2, 1) := by decide +kernel
theorem dX5_giveAllToLongest_44 : decode cX5_giveAllToLongest 44 = .ok (.iinc 3 1, 3) := by decide +kernel
theorem dX5_giveAllToLongest_47 : decode cX5_giveAllToLongest 47 = .ok (.goto (-41), 3) := by decide +kernel
theorem dX5_giveAllToLongest_50 : decode cX5_giveAllToLongest 50 = .ok (.aload_n 0, 1) := by decide +kernel
theorem dX5_giveAllToLongest_51 : decode cX5_giveAllToLongest 51 = .ok (.getfield 21, 3) := by decide +kernel
theorem dX5_giveAllToLongest_54 : decode cX5_giveAllToLongest 54 = .ok (.iconst 0, 1) := by decide +kernel
theorem dX5_giveAllToLongest_55 : decode cX5_giveAllToLongest 55 = .ok (.invokestatic 41, 3) := by decide +kernel
theorem dX5_giveAllToLongest_58 : decode cX5_giveAllToLongest 58 = .ok (.aload_n 0, 1) := by decide +kernel
theorem dX5_giveAllToLongest_59 : decode cX5_giveAllToLongest 59 = .ok (.getfield 21, 3) := by decide +kernel
theorem dX5_giveAllToLongest_62 : decode cX5_giveAllToLongest 62 = .ok (.iload_n 1, 1) := by decide +kernel
theorem dX5_giveAllToLongest_63 : decode cX5_giveAllToLongest 63 = .ok (.iload_n 2, 1) := by decide +kernel
theorem dX5_giveAllToLongest_64 : decode cX5_giveAllToLongest 64 = .ok (.iastore, 1) := by decide +kernel
theorem dX5_giveAllToLongest_65 : decode cX5_giveAllToLongest 65 = .ok (.return_, 1) := by decide +kernel
theorem dX5_almsOf_0 : decode cX5_almsOf 0 = .ok (.aload_n 0, 1) := by decide +kernel
theorem dX5_almsOf_1 : decode cX5_almsOf 1 = .ok (.getfield 21, 3) := by decide +kernel
theorem dX5_almsOf_4 : decode cX5_almsOf 4 = .ok (.iload_n 1, 1) := by decide +kernel
theorem dX5_almsOf_5 : decode cX5_almsOf 5 = .ok (.iaload, 1) := by decide +kernel
theorem dX5_almsOf_6 : decode cX5_almsOf 6 = .ok (.aload_n 0, 1) := by decide +kernel
theorem dX5_almsOf_7 : decode cX5_almsOf 7 = .ok (.getfield 15, 3) := by decide +kernel
theorem dX5_almsOf_10 : decode cX5_almsOf 10 = .ok (.iload_n 1, 1) := by decide +kernel
theorem dX5_almsOf_11 : decode cX5_almsOf 11 = .ok (.iaload, 1) := by decide +kernel
theorem dX5_almsOf_12 : decode cX5_almsOf 12 = .ok (.isub, 1) := by decide +kernel
theorem dX5_almsOf_13 : decode cX5_almsOf 13 = .ok (.ireturn, 1) := by decide +kernel
theorem dX5_sumOfAlms_0 : decode cX5_sumOfAlms 0 = .ok (.iconst 0, 1) := by decide +kernel
theorem dX5_sumOfAlms_1 : decode cX5_sumOfAlms 1 = .ok (.istore_n 1, 1) := by decide +kernel
theorem dX5_sumOfAlms_2 : decode cX5_sumOfAlms 2 = .ok (.iconst 0, 1) := by decide +kernel
theorem dX5_sumOfAlms_3 : decode cX5_sumOfAlms 3 = .ok (.istore_n 2, 1) := by decide +kernel
theorem dX5_sumOfAlms_4 : decode cX5_sumOfAlms 4 = .ok (.iload_n 2, 1) := by decide +kernel
theorem dX5_sumOfAlms_5 : decode cX5_sumOfAlms 5 = .ok (.aload_n 0, 1) := by decide +kernel
theorem dX5_sumOfAlms_6 : decode cX5_sumOfAlms 6 = .ok (.getfield 37, 3) := by decide +kernel
theorem dX5_sumOfAlms_9 : decode cX5_sumOfAlms 9 = .ok (.if_icmp .ge 25, 3) := by decide +kernel
theorem dX5_sumOfAlms_12 : decode cX5_sumOfAlms 12 = .ok (.iload_n 1, 1) := by decide +kernel
theorem dX5_sumOfAlms_13 : decode cX5_sumOfAlms 13 = .ok (.aload_n 0, 1) := by decide +kernel
theorem dX5_sumOfAlms_14 : decode cX5_sumOfAlms 14 = .ok (.getfield 21, 3) := by decide +kernel
theorem dX5_sumOfAlms_17 : decode cX5_sumOfAlms 17 = .ok (.iload_n 2, 1) := by decide +kernel
theorem dX5_sumOfAlms_18 : decode cX5_sumOfAlms 18 = .ok (.iaload, 1) := by decide +kernel
theorem dX5_sumOfAlms_19 : decode cX5_sumOfAlms 19 = .ok (.aload_n 0, 1) := by decide +kernel
theorem dX5_sumOfAlms_20 : decode cX5_sumOfAlms 20 = .ok (.getfield 15, 3) := by decide +kernel
theorem dX5_sumOfAlms_23 : decode cX5_sumOfAlms 23 = .ok (.iload_n 2, 1) := by decide +kernel
theorem dX5_sumOfAlms_24 : decode cX5_sumOfAlms 24 = .ok (.iaload, 1) := by decide +kernel
theorem dX5_sumOfAlms_25 : decode cX5_sumOfAlms 25 = .ok (.isub, 1) := by decide +kernel
theorem dX5_sumOfAlms_26 : decode cX5_sumOfAlms 26 = .ok (.iadd, 1) := by decide +kernel
theorem dX5_sumOfAlms_27 : decode cX5_sumOfAlms 27 = .ok (.istore_n 1, 1) := by decide +kernel
theorem dX5_sumOfAlms_28 : decode cX5_sumOfAlms 28 = .ok (.iinc 2 1, 3) := by decide +kernel
theorem dX5_sumOfAlms_31 : decode cX5_sumOfAlms 31 = .ok (.goto (-27), 3) := by decide +kernel
theorem dX5_sumOfAlms_34 : decode cX5_sumOfAlms 34 = .ok (.iload_n 1, 1) := by decide +kernel
theorem dX5_sumOfAlms_35 : decode cX5_sumOfAlms 35 = .ok (.ireturn, 1) := by decide +kernel
theorem dX5_lackOf_0 : decode cX5_lackOf 0 = .ok (.iconst 0, 1) := by decide +kernel
theorem dX5_lackOf_1 : decode cX5_lackOf 1 = .ok (.istore_n 2, 1) := by decide +kernel
theorem dX5_lackOf_2 : decode cX5_lackOf 2 = .ok (.iconst 0, 1) := by decide +kernel
theorem dX5_lackOf_3 : decode cX5_lackOf 3 = .ok (.istore_n 3, 1) := by decide +kernel
theorem dX5_lackOf_4 : decode cX5_lackOf 4 = .ok (.iload_n 3, 1) := by decide +kernel
theorem dX5_lackOf_5 : decode cX5_lackOf 5 = .ok (.aload_n 0, 1) := by decide +kernel
theorem dX5_lackOf_6 : decode cX5_lackOf 6 = .ok (.getfield 37, 3) := by decide +kernel
theorem dX5_lackOf_9 : decode cX5_lackOf 9 = .ok (.if_icmp .ge 31, 3) := by decide +kernel
theorem dX5_lackOf_12 : decode cX5_lackOf 12 = .ok (.iload_n 2, 1) := by decide +kernel
theorem dX5_lackOf_13 : decode cX5_lackOf 13 = .ok (.iconst 0, 1) := by decide +kernel
theorem dX5_lackOf_14 : decode cX5_lackOf 14 = .ok (.iload_n 1, 1) := by decide +kernel
theorem dX5_lackOf_15 : decode cX5_lackOf 15 = .ok (.aload_n 0, 1) := by decide +kernel
theorem dX5_lackOf_16 : decode cX5_lackOf 16 = .ok (.getfield 21, 3) := by decide +kernel
theorem dX5_lackOf_19 : decode cX5_lackOf 19 = .ok (.iload_n 3, 1) := by decide +kernel
theorem dX5_lackOf_20 : decode cX5_lackOf 20 = .ok (.iaload, 1) := by decide +kernel
theorem dX5_lackOf_21 : decode cX5_lackOf 21 = .ok (.aload_n 0, 1) := by decide +kernel
theorem dX5_lackOf_22 : decode cX5_lackOf 22 = .ok (.getfield 15, 3) := by decide +kernel
theorem dX5_lackOf_25 : decode cX5_lackOf 25 = .ok (.iload_n 3, 1) := by decide +kernel
theorem dX5_lackOf_26 : decode cX5_lackOf 26 = .ok (.iaload, 1) := by decide +kernel
theorem dX5_lackOf_27 : decode cX5_lackOf 27 = .ok (.isub, 1) := by decide +kernel
theorem dX5_lackOf_28 : decode cX5_lackOf 28 = .ok (.isub, 1) := by decide +kernel
theorem dX5_lackOf_29 : decode cX5_lackOf 29 = .ok (.invokestatic 84, 3) := by decide +kernel
theorem dX5_lackOf_32 : decode cX5_lackOf 32 = .ok (.iadd, 1) := by decide +kernel
theorem dX5_lackOf_33 : decode cX5_lackOf 33 = .ok (.istore_n 2, 1) := by decide +kernel
theorem dX5_lackOf_34 : decode cX5_lackOf 34 = .ok (.iinc 3 1, 3) := by decide +kernel
theorem dX5_lackOf_37 : decode cX5_lackOf 37 = .ok (.goto (-33), 3) := by decide +kernel
theorem dX5_lackOf_40 : decode cX5_lackOf 40 = .ok (.iload_n 2, 1) := by decide +kernel
theorem dX5_lackOf_41 : decode cX5_lackOf 41 = .ok (.ireturn, 1) := by decide +kernel
theorem dX6_init_0 : decode cX6_init 0 = .ok (.aload_n 0, 1) := by decide +kernel
theorem dX6_init_1 : decode cX6_init 1 = .ok (.invokespecial 3, 3) := by decide +kernel
theorem dX6_init_4 : decode cX6_init 4 = .ok (.aload_n 0, 1) := by decide +kernel
theorem dX6_init_5 : decode cX6_init 5 = .ok (.bipush 6, 2) := by decide +kernel
theorem dX6_init_7 : decode cX6_init 7 = .ok (.newarray .int, 2) := by decide +kernel
theorem dX6_init_9 : decode cX6_init 9 = .ok (.putfield 9, 3) := by decide +kernel
theorem dX6_init_12 : decode cX6_init 12 = .ok (.aload_n 0, 1) := by decide +kernel
theorem dX6_init_13 : decode cX6_init 13 = .ok (.iconst 4, 1) := by decide +kernel
theorem dX6_init_14 : decode cX6_init 14 = .ok (.newarray .int, 2) := by decide +kernel
theorem dX6_init_16 : decode cX6_init 16 = .ok (.putfield 15, 3) := by decide +kernel
theorem dX6_init_19 : decode cX6_init 19 = .ok (.aload_n 0, 1) := by decide +kernel
theorem dX6_init_20 : decode cX6_init 20 = .ok (.bipush 6, 2) := by decide +kernel
theorem dX6_init_22 : decode cX6_init 22 = .ok (.newarray .int, 2) := by decide +kernel
theorem dX6_init_24 : decode cX6_init 24 = .ok (.putfield 18, 3) := by decide +kernel
theorem dX6_init_27 : decode cX6_init 27 = .ok (.aload_n 0, 1) := by decide +kernel
theorem dX6_init_28 : decode cX6_init 28 = .ok (.invokevirtual 21, 3) := by decide +kernel
theorem dX6_init_31 : decode cX6_init 31 = .ok (.return_, 1) := by decide +kernel
theorem dX6_startAnew_0 : decode cX6_startAnew 0 = .ok (.aload_n 0, 1) := by decide +kernel
theorem dX6_startAnew_1 : decode cX6_startAnew 1 = .ok (.getfield 9, 3) := by decide +kernel
theorem dX6_startAnew_4 : decode cX6_startAnew 4 = .ok (.iconst (-1), 1) := by decide +kernel
theorem dX6_startAnew_5 : decode cX6_startAnew 5 = .ok (.invokestatic 24, 3) := by decide +kernel
theorem dX6_startAnew_8 : decode cX6_startAnew 8 = .ok (.aload_n 0, 1) := by decide +kernel
theorem dX6_startAnew_9 : decode cX6_startAnew 9 = .ok (.getfield 15, 3) := by decide +kernel
theorem dX6_startAnew_12 : decode cX6_startAnew 12 = .ok (.iconst (-1), 1) := by decide +kernel
theorem dX6_startAnew_13 : decode cX6_startAnew 13 = .ok (.invokestatic 24, 3) := by decide +kernel
theorem dX6_startAnew_16 : decode cX6_startAnew 16 = .ok (.aload_n 0, 1) := by decide +kernel
theorem dX6_startAnew_17 : decode cX6_startAnew 17 = .ok (.getfield 18, 3) := by decide +kernel
theorem dX6_startAnew_20 : decode cX6_startAnew 20 = .ok (.iconst 0, 1) := by decide +kernel
theorem dX6_startAnew_21 : decode cX6_startAnew 21 = .ok (.invokestatic 24, 3) := by decide +kernel
theorem dX6_startAnew_24 : decode cX6_startAnew 24 = .ok (.aload_n 0, 1) := by decide +kernel
theorem dX6_startAnew_25 : decode cX6_startAnew 25 = .ok (.iconst 0, 1) := by decide +kernel
theorem dX6_startAnew_26 : decode cX6_startAnew 26 = .ok (.putfield 30, 3) := by decide +kernel
theorem dX6_startAnew_29 : decode cX6_startAnew 29 = .ok (.aload_n 0, 1) := by decide +kernel
theorem dX6_startAnew_30 : decode cX6_startAnew 30 = .ok (.iconst 0, 1) := by decide +kernel
theorem dX6_startAnew_31 : decode cX6_startAnew 31 = .ok (.putfield 34, 3) := by decide +kernel
theorem dX6_startAnew_34 : decode cX6_startAnew 34 = .ok (.return_, 1) := by decide +kernel
theorem dX6_become_0 : decode cX6_become 0 = .ok (.aload_n 1, 1) := by decide +kernel
theorem dX6_become_1 : decode cX6_become 1 = .ok (.getfield 9, 3) := by decide +kernel
theorem dX6_become_4 : decode cX6_become 4 = .ok (.iconst 0, 1) := by decide +kernel
theorem dX6_become_5 : decode cX6_become 5 = .ok (.aload_n 0, 1) := by decide +kernel
theorem dX6_become_6 : decode cX6_become 6 = .ok (.getfield 9, 3) := by decide +kernel
theorem dX6_become_9 : decode cX6_become 9 = .ok (.iconst 0, 1) := by decide +kernel
theorem dX6_become_10 : decode cX6_become 10 = .ok (.bipush 6, 2) := by decide +kernel
theorem dX6_become_12 : decode cX6_become 12 = .ok (.invokestatic 37, 3) := by decide +kernel
theorem dX6_become_15 : decode cX6_become 15 = .ok (.aload_n 1, 1) := by decide +kernel
theorem dX6_become_16 : decode cX6_become 16 = .ok (.getfield 15, 3) := by decide +kernel
theorem dX6_become_19 : decode cX6_become 19 = .ok (.iconst 0, 1) := by decide +kernel
theorem dX6_become_20 : decode cX6_become 20 = .ok (.aload_n 0, 1) := by decide +kernel
theorem dX6_become_21 : decode cX6_become 21 = .ok (.getfield 15, 3) := by decide +kernel
theorem dX6_become_24 : decode cX6_become 24 = .ok (.iconst 0, 1) := by decide +kernel
theorem dX6_become_25 : decode cX6_become 25 = .ok (.iconst 4, 1) := by decide +kernel
theorem dX6_become_26 : decode cX6_become 26 = .ok (.invokestatic 37, 3) := by decide +kernel
theorem dX6_become_29 : decode cX6_become 29 = .ok (.aload_n 1, 1) := by decide +kernel
theorem dX6_become_30 : decode cX6_become 30 = .ok (.getfield 18, 3) := by decide +kernel
theorem dX6_become_33 : decode cX6_become 33 = .ok (.iconst 0, 1) := by decide +kernel
theorem dX6_become_34 : decode cX6_become 34 = .ok (.aload_n 0, 1) := by decide +kernel
theorem dX6_become_35 : decode cX6_become 35 = .ok (.getfield 18, 3) := by decide +kernel
theorem dX6_become_38 : decode cX6_become 38 = .ok (.iconst 0, 1) := by decide +kernel
theorem dX6_become_39 : decode cX6_become 39 = .ok (.bipush 6, 2) := by decide +kernel
theorem dX6_become_41 : decode cX6_become 41 = .ok (.invokestatic 37, 3) := by decide +kernel
theorem dX6_become_44 : decode cX6_become 44 = .ok (.aload_n 0, 1) := by decide +kernel
theorem dX6_become_45 : decode cX6_become 45 = .ok (.aload_n 1, 1) := by decide +kernel
theorem dX6_become_46 : decode cX6_become 46 = .ok (.getfield 30, 3) := by decide +kernel
theorem dX6_become_49 : decode cX6_become 49 = .ok (.putfield 30, 3) := by decide +kernel
theorem dX6_become_52 : decode cX6_become 52 = .ok (.aload_n 0, 1) := by decide +kernel
theorem dX6_become_53 : decode cX6_become 53 = .ok (.aload_n 1, 1) := by decide +kernel
theorem dX6_become_54 : decode cX6_become 54 = .ok (.getfield 34, 3) := by decide +kernel
theorem dX6_become_57 : decode cX6_become 57 = .ok (.putfield 34, 3) := by decide +kernel
theorem dX6_become_60 : decode cX6_become 60 = .ok (.aload_n 0, 1) := by decide +kernel
theorem dX6_become_61 : decode cX6_become 61 = .ok (.aload_n 1, 1) := by decide +kernel
theorem dX6_become_62 : decode cX6_become 62 = .ok (.getfield 43, 3) := by decide +kernel
theorem dX6_become_65 : decode cX6_become 65 = .ok (.putfield 43, 3) := by decide +kernel
theorem dX6_become_68 : decode cX6_become 68 = .ok (.aload_n 0, 1) := by decide +kernel
theorem dX6_become_69 : decode cX6_become 69 = .ok (.aload_n 1, 1) := by decide +kernel
theorem dX6_become_70 : decode cX6_become 70 = .ok (.getfield 46, 3) := by decide +kernel
theorem dX6_become_73 : decode cX6_become 73 = .ok (.putfield 46, 3) := by decide +kernel
theorem dX6_become_76 : decode cX6_become 76 = .ok (.return_, 1) := by decide +kernel
theorem dX6_whoIsOn_0 : decode cX6_whoIsOn 0 = .ok (.iconst 0, 1) := by decide +kernel
theorem dX6_whoIsOn_1 : decode cX6_whoIsOn 1 = .ok (.istore_n 2, 1) := by decide +kernel
theorem dX6_whoIsOn_2 : decode cX6_whoIsOn 2 = .ok (.iload_n 2, 1) := by decide +kernel
theorem dX6_whoIsOn_3 : decode cX6_whoIsOn 3 = .ok (.bipush 6, 2) := by decide +kernel
theorem dX6_whoIsOn_5 : decode cX6_whoIsOn 5 = .ok (.if_icmp .ge 21, 3) := by decide +kernel
theorem dX6_whoIsOn_8 : decode cX6_whoIsOn 8 = .ok (.aload_n 0, 1) := by decide +kernel
theorem dX6_whoIsOn_9 : decode cX6_whoIsOn 9 = .ok (.getfield 9, 3) := by decide +kernel
theorem dX6_whoIsOn_12 : decode cX6_whoIsOn 12 = .ok (.iload_n 2, 1) := by decide +kernel
theorem dX6_whoIsOn_13 : decode cX6_whoIsOn 13 = .ok (.iaload, 1) := by decide +kernel
theorem dX6_whoIsOn_14 : decode cX6_whoIsOn 14 = .ok (.iload_n 1, 1) := by decide +kernel
theorem dX6_whoIsOn_15 : decode cX6_whoIsOn 15 = .ok (.if_icmp .ne 5, 3) := by decide +kernel
theorem dX6_whoIsOn_18 : decode cX6_whoIsOn 18 = .ok (.iload_n 2, 1) := by decide +kernel
theorem dX6_whoIsOn_19 : decode cX6_whoIsOn 19 = .ok (.ireturn, 1) := by decide +kernel
theorem dX6_whoIsOn_20 : decode cX6_whoIsOn 20 = .ok (.iinc 2 1, 3) := by decide +kernel
theorem dX6_whoIsOn_23 : decode cX6_whoIsOn 23 = .ok (.goto (-21), 3) := by decide +kernel
theorem dX6_whoIsOn_26 : decode cX6_whoIsOn 26 = .ok (.iconst (-1), 1) := by decide +kernel
theorem dX6_whoIsOn_27 : decode cX6_whoIsOn 27 = .ok (.ireturn, 1) := by decide +kernel
theorem dX6_hatOf_0 : decode cX6_hatOf 0 = .ok (.iconst 0, 1) := by decide +kernel
theorem dX6_hatOf_1 : decode cX6_hatOf 1 = .ok (.istore_n 2, 1) := by decide +kernel
theorem dX6_hatOf_2 : decode cX6_hatOf 2 = .ok (.iload_n 2, 1) := by decide +kernel
theorem dX6_hatOf_3 : decode cX6_hatOf 3 = .ok (.iconst 4, 1) := by decide +kernel
theorem dX6_hatOf_4 : decode cX6_hatOf 4 = .ok (.if_icmp .ge 21, 3) := by decide +kernel
theorem dX6_hatOf_7 : decode cX6_hatOf 7 = .ok (.aload_n 0, 1) := by decide +kernel
theorem dX6_hatOf_8 : decode cX6_hatOf 8 = .ok (.getfield 15, 3) := by decide +kernel
theorem dX6_hatOf_11 : decode cX6_hatOf 11 = .ok (.iload_n 2, 1) := by decide +kernel
theorem dX6_hatOf_12 : decode cX6_hatOf 12 = .ok (.iaload, 1) := by decide +kernel
theorem dX6_hatOf_13 : decode cX6_hatOf 13 = .ok (.iload_n 1, 1) := by decide +kernel
theorem dX6_hatOf_14 : decode cX6_hatOf 14 = .ok (.if_icmp .ne 5, 3) := by decide +kernel
theorem dX6_hatOf_17 : decode cX6_hatOf 17 = .ok (.iload_n 2, 1) := by decide +kernel
theorem dX6_hatOf_18 : decode cX6_hatOf 18 = .ok (.ireturn, 1) := by decide +kernel
theorem dX6_hatOf_19 : decode cX6_hatOf 19 = .ok (.iinc 2 1, 3) := by decide +kernel
theorem dX6_hatOf_22 : decode cX6_hatOf 22 = .ok (.goto (-20), 3) := by decide +kernel
theorem dX6_hatOf_25 : decode cX6_hatOf 25 = .ok (.iconst (-1), 1) := by decide +kernel
theorem dX6_hatOf_26 : decode cX6_hatOf 26 = .ok (.ireturn, 1) := by decide +kernel
theorem dX6_draw_0 : decode cX6_draw 0 = .ok (.aload_n 0, 1) := by decide +kernel
theorem dX6_draw_1 : decode cX6_draw 1 = .ok (.aload_n 0, 1) := by decide +kernel
theorem dX6_draw_2 : decode cX6_draw 2 = .ok (.getfield 46, 3) := by decide +kernel
theorem dX6_draw_5 : decode cX6_draw 5 = .ok (.i2l, 1) := by decide +kernel
theorem dX6_draw_6 : decode cX6_draw 6 = .ok (.ldc2_w 49, 3) := by decide +kernel
theorem dX6_draw_9 : decode cX6_draw 9 = .ok (.lmul, 1) := by decide +kernel
theorem dX6_draw_10 : decode cX6_draw 10 = .ok (.ldc2_w 51, 3) := by decide +kernel
theorem dX6_draw_13 : decode cX6_draw 13 = .ok (.ladd, 1) := by decide +kernel
theorem dX6_draw_14 : decode cX6_draw 14 = .ok (.ldc2_w 53, 3) := by decide +kernel
theorem dX6_draw_17 : decode cX6_draw 17 = .ok (.land, 1) := by decide +kernel
theorem dX6_draw_18 : decode cX6_draw 18 = .ok (.l2i, 1) := by decide +kernel
theorem dX6_draw_19 : decode cX6_draw 19 = .ok (.putfield 46, 3) := by decide +kernel
theorem dX6_draw_22 : decode cX6_draw 22 = .ok (.iload_n 1, 1) := by decide +kernel
theorem dX6_draw_23 : decode cX6_draw 23 = .ok (.iconst 1, 1) := by decide +kernel
theorem dX6_draw_24 : decode cX6_draw 24 = .ok (.if_icmp .ge 7, 3) := by decide +kernel
theorem dX6_draw_27 : decode cX6_draw 27 = .ok (.iconst 0, 1) := by decide +kernel
theorem dX6_draw_28 : decode cX6_draw 28 = .ok (.goto 12, 3) := by decide +kernel
theorem dX6_draw_31 : decode cX6_draw 31 = .ok (.aload_n 0, 1) := by decide +kernel
theorem dX6_draw_32 : decode cX6_draw 32 = .ok (.getfield 46, 3) := by decide +kernel
theorem dX6_draw_35 : decode cX6_draw 35 = .ok (.ldc 55, 2) := by decide +kernel
theorem dX6_draw_37 : decode cX6_draw 37 = .ok (.idiv, 1) := by decide +kernel
theorem dX6_draw_38 : decode cX6_draw 38 = .ok (.iload_n 1, 1) := by decide +kernel
theorem dX6_draw_39 : decode cX6_draw 39 = .ok (.irem, 1) := by decide +kernel
theorem dX6_draw_40 : decode cX6_draw 40 = .ok (.ireturn, 1) := by decide +kernel
theorem dJ9_max_7cf53_0 : decode cJ9_max_7cf53 0 = .ok (.iload_n 0, 1) := by decide +kernel
theorem dJ9_max_7cf53_1 : decode cJ9_max_7cf53 1 = .ok (.iload_n 1, 1) := by decide +kernel
theorem dJ9_max_7cf53_2 : decode cJ9_max_7cf53 2 = .ok (.if_icmp .lt 7, 3) := by decide +kernel
theorem dJ9_max_7cf53_5 : decode cJ9_max_7cf53 5 = .ok (.iload_n 0, 1) := by decide +kernel
theorem dJ9_max_7cf53_6 : decode cJ9_max_7cf53 6 = .ok (.goto 4, 3) := by decide +kernel
theorem dJ9_max_7cf53_9 : decode cJ9_max_7cf53 9 = .ok (.iload_n 1, 1) := by decide +kernel
theorem dJ9_max_7cf53_10 : decode cJ9_max_7cf53 10 = .ok (.ireturn, 1) := by decide +kernel
theorem dJ9_min_7cf53_0 : decode cJ9_min_7cf53 0 = .ok (.iload_n 0, 1) := by decide +kernel
theorem dJ9_min_7cf53_1 : decode cJ9_min_7cf53 1 = .ok (.iload_n 1, 1) := by decide +kernel
theorem dJ9_min_7cf53_2 : decode cJ9_min_7cf53 2 = .ok (.if_icmp .gt 7, 3) := by decide +kernel
theorem dJ9_min_7cf53_5 : decode cJ9_min_7cf53 5 = .ok (.iload_n 0, 1) := by decide +kernel
theorem dJ9_min_7cf53_6 : decode cJ9_min_7cf53 6 = .ok (.goto 4, 3) := by decide +kernel
theorem dJ9_min_7cf53_9 : decode cJ9_min_7cf53 9 = .ok (.iload_n 1, 1) := by decide +kernel
theorem dJ9_min_7cf53_10 : decode cJ9_min_7cf53 10 = .ok (.ireturn, 1) := by decide +kernel
theorem dJ0_length_8abf5_0 : decode cJ0_length_8abf5 0 = .ok (.aload_n 0, 1) := by decide +kernel
theorem dJ0_length_8abf5_1 : decode cJ0_length_8abf5 1 = .ok (.getfield 9, 3) := by decide +kernel
theorem dJ0_length_8abf5_4 : decode cJ0_length_8abf5 4 = .ok (.arraylength, 1) := by decide +kernel
theorem dJ0_length_8abf5_5 : decode cJ0_length_8abf5 5 = .ok (.aload_n 0, 1) := by decide +kernel
theorem dJ0_length_8abf5_6 : decode cJ0_length_8abf5 6 = .ok (.invokevirtual 335, 3) := by decide +kernel
theorem dJ0_length_8abf5_9 : decode cJ0_length_8abf5 9 = .ok (.ishr, 1) := by decide +kernel
theorem dJ0_length_8abf5_10 : decode cJ0_length_8abf5 10 = .ok (.ireturn, 1) := by decide +kernel
theorem dJ0_charAt_5068e_0 : decode cJ0_charAt_5068e 0 = .ok (.aload_n 0, 1) := by decide +kernel
theorem dJ0_charAt_5068e_1 : decode cJ0_charAt_5068e 1 = .ok (.invokevirtual 492, 3) := by decide +kernel
theorem dJ0_charAt_5068e_4 : decode cJ0_charAt_5068e 4 = .ok (.ifCond .eq 12, 3) := by decide +kernel
theorem dJ0_charAt_5068e_7 : decode cJ0_charAt_5068e 7 = .ok (.aload_n 0, 1) := by decide +kernel
theorem dJ0_charAt_5068e_8 : decode cJ0_charAt_5068e 8 = .ok (.getfield 9, 3) := by decide +kernel
theorem dJ0_charAt_5068e_11 : decode cJ0_charAt_5068e 11 = .ok (.iload_n 1, 1) := by decide +kernel
theorem dJ0_charAt_5068e_12 : decode cJ0_charAt_5068e 12 = .ok (.invokestatic 495, 3) := by decide +kernel
theorem dJ0_charAt_5068e_15 : decode cJ0_charAt_5068e 15 = .ok (.ireturn, 1) := by decide +kernel
theorem dJ0_charAt_5068e_16 : decode cJ0_charAt_5068e 16 = .ok (.aload_n 0, 1) := by decide +kernel
theorem dJ0_charAt_5068e_17 : decode cJ0_charAt_5068e 17 = .ok (.getfield 9, 3) := by decide +kernel
theorem dJ0_charAt_5068e_20 : decode cJ0_charAt_5068e 20 = .ok (.iload_n 1, 1) := by decide +kernel
theorem dJ0_charAt_5068e_21 : decode cJ0_charAt_5068e 21 = .ok (.invokestatic 498, 3) := by decide +kernel
theorem dJ0_charAt_5068e_24 : decode cJ0_charAt_5068e 24 = .ok (.ireturn, 1) := by decide +kernel
theorem dJ0_coder_7d493_0 : decode cJ0_coder_7d493 0 = .ok (.getstatic 38, 3) := by decide +kernel
theorem dJ0_coder_7d493_3 : decode cJ0_coder_7d493 3 = .ok (.ifCond .eq 10, 3) := by decide +kernel
theorem dJ0_coder_7d493_6 : decode cJ0_coder_7d493 6 = .ok (.aload_n 0, 1) := by decide +kernel
theorem dJ0_coder_7d493_7 : decode cJ0_coder_7d493 7 = .ok (.getfield 15, 3) := by decide +kernel
theorem dJ0_coder_7d493_10 : decode cJ0_coder_7d493 10 = .ok (.goto 4, 3) := by decide +kernel
theorem dJ0_coder_7d493_13 : decode cJ0_coder_7d493 13 = .ok (.iconst 1, 1) := by decide +kernel
theorem dJ0_coder_7d493_14 : decode cJ0_coder_7d493 14 = .ok (.ireturn, 1) := by decide +kernel
theorem dJ0_isLatin1_aae02_0 : decode cJ0_isLatin1_aae02 0 = .ok (.getstatic 38, 3) := by decide +kernel
theorem dJ0_isLatin1_aae02_3 : decode cJ0_isLatin1_aae02 3 = .ok (.ifCond .eq 14, 3) := by decide +kernel
theorem dJ0_isLatin1_aae02_6 : decode cJ0_isLatin1_aae02 6 = .ok (.aload_n 0, 1) := by decide +kernel
theorem dJ0_isLatin1_aae02_7 : decode cJ0_isLatin1_aae02 7 = .ok (.getfield 15, 3) := by decide +kernel
theorem dJ0_isLatin1_aae02_10 : decode cJ0_isLatin1_aae02 10 = .ok (.ifCond .ne 7, 3) := by decide +kernel
theorem dJ0_isLatin1_aae02_13 : decode cJ0_isLatin1_aae02 13 = .ok (.iconst 1, 1) := by decide +kernel
theorem dJ0_isLatin1_aae02_14 : decode cJ0_isLatin1_aae02 14 = .ok (.goto 4, 3) := by decide +kernel
theorem dJ0_isLatin1_aae02_17 : decode cJ0_isLatin1_aae02 17 = .ok (.iconst 0, 1) := by decide +kernel
theorem dJ0_isLatin1_aae02_18 : decode cJ0_isLatin1_aae02 18 = .ok (.ireturn, 1) := by decide +kernel
theorem dJ0_checkIndex_df160_0 : decode cJ0_checkIndex_df160 0 = .ok (.iload_n 0, 1) := by decide +kernel
theorem dJ0_checkIndex_df160_1 : decode cJ0_checkIndex_df160 1 = .ok (.iload_n 1, 1) := by decide +kernel
theorem dJ0_checkIndex_df160_2 : decode cJ0_checkIndex_df160 2 = .ok (.getstatic 1053, 3) := by decide +kernel
theorem dJ0_checkIndex_df160_5 : decode cJ0_checkIndex_df160 5 = .ok (.invokestatic 1059, 3) := by decide +kernel
theorem dJ0_checkIndex_df160_8 : decode cJ0_checkIndex_df160 8 = .ok (.pop, 1) := by decide +kernel
theorem dJ0_checkIndex_df160_9 : decode cJ0_checkIndex_df160 9 = .ok (.return_, 1) := by decide +kernel
theorem dJ1_charAt_3b067_0 : decode cJ1_charAt_3b067 0 = .ok (.iload_n 1, 1) := by decide +kernel
theorem dJ1_charAt_3b067_1 : decode cJ1_charAt_3b067 1 = .ok (.aload_n 0, 1) := by decide +kernel
theorem dJ1_charAt_3b067_2 : decode cJ1_charAt_3b067 2 = .ok (.arraylength, 1) := by decide +kernel
theorem dJ1_charAt_3b067_3 : decode cJ1_charAt_3b067 3 = .ok (.invokestatic 9, 3) := by decide +kernel
theorem dJ1_charAt_3b067_6 : decode cJ1_charAt_3b067 6 = .ok (.aload_n 0, 1) := by decide +kernel
theorem dJ1_charAt_3b067_7 : decode cJ1_charAt_3b067 7 = .ok (.iload_n 1, 1) := by decide +kernel
theorem dJ1_charAt_3b067_8 : decode cJ1_charAt_3b067 8 = .ok (.baload, 1) := by decide +kernel
theorem dJ1_charAt_3b067_9 : decode cJ1_charAt_3b067 9 = .ok (.sipush 255, 3) := by decide +kernel
theorem dJ1_charAt_3b067_12 : decode cJ1_charAt_3b067 12 = .ok (.iand, 1) := by decide +kernel
theorem dJ1_charAt_3b067_13 : decode cJ1_charAt_3b067 13 = .ok (.i2c, 1) := by decide +kernel
theorem dJ1_charAt_3b067_14 : decode cJ1_charAt_3b067 14 = .ok (.ireturn, 1) := by decide +kernel
theorem dJ2_getChar_3b067_0 : decode cJ2_getChar_3b067 0 = .ok (.getstatic 44, 3) := by decide +kernel
theorem dJ2_getChar_3b067_3 : decode cJ2_getChar_3b067 3 = .ok (.ifCond .ne 25, 3) := by decide +kernel
theorem dJ2_getChar_3b067_6 : decode cJ2_getChar_3b067 6 = .ok (.iload_n 1, 1) := by decide +kernel
theorem dJ2_getChar_3b067_7 : decode cJ2_getChar_3b067 7 = .ok (.ifCond .lt 11, 3) := by decide +kernel
theorem dJ2_getChar_3b067_10 : decode cJ2_getChar_3b067 10 = .ok (.iload_n 1, 1) := by decide +kernel
theorem dJ2_getChar_3b067_11 : decode cJ2_getChar_3b067 11 = .ok (.aload_n 0, 1) := by decide +kernel
theorem dJ2_getChar_3b067_12 : decode cJ2_getChar_3b067 12 = .ok (.invokestatic 48, 3) := by decide +kernel
theorem dJ2_getChar_3b067_15 : decode cJ2_getChar_3b067 15 = .ok (.if_icmp .lt 13, 3) := by decide +kernel
theorem dJ2_getChar_3b067_18 : decode cJ2_getChar_3b067 18 = .ok (.new 52, 3) := by decide +kernel
theorem dJ2_getChar_3b067_21 : decode cJ2_getChar_3b067 21 = .ok (.dup, 1) := by decide +kernel
theorem dJ2_getChar_3b067_22 : decode cJ2_getChar_3b067 22 = .ok (.ldc 54, 2) := by decide +kernel
theorem dJ2_getChar_3b067_24 : decode cJ2_getChar_3b067 24 = .ok (.invokespecial 56, 3) := by decide +kernel
theorem dJ2_getChar_3b067_27 : decode cJ2_getChar_3b067 27 = .ok (.athrow, 1) := by decide +kernel
theorem dJ2_getChar_3b067_28 : decode cJ2_getChar_3b067 28 = .ok (.iload_n 1, 1) := by decide +kernel
theorem dJ2_getChar_3b067_29 : decode cJ2_getChar_3b067 29 = .ok (.iconst 1, 1) := by decide +kernel
theorem dJ2_getChar_3b067_30 : decode cJ2_getChar_3b067 30 = .ok (.ishl, 1) := by decide +kernel
theorem dJ2_getChar_3b067_31 : decode cJ2_getChar_3b067 31 = .ok (.istore_n 1, 1) := by decide +kernel
theorem dJ2_getChar_3b067_32 : decode cJ2_getChar_3b067 32 = .ok (.aload_n 0, 1) := by decide +kernel
theorem dJ2_getChar_3b067_33 : decode cJ2_getChar_3b067 33 = .ok (.iload_n 1, 1) := by decide +kernel
theorem dJ2_getChar_3b067_34 : decode cJ2_getChar_3b067 34 = .ok (.iinc 1 1, 3) := by decide +kernel
theorem dJ2_getChar_3b067_37 : decode cJ2_getChar_3b067 37 = .ok (.baload, 1) := by decide +kernel
theorem dJ2_getChar_3b067_38 : decode cJ2_getChar_3b067 38 = .ok (.sipush 255, 3) := by decide +kernel
theorem dJ2_getChar_3b067_41 : decode cJ2_getChar_3b067 41 = .ok (.iand, 1) := by decide +kernel
theorem dJ2_getChar_3b067_42 : decode cJ2_getChar_3b067 42 = .ok (.getstatic 59, 3) := by decide +kernel
theorem dJ2_getChar_3b067_45 : decode cJ2_getChar_3b067 45 = .ok (.ishl, 1) := by decide +kernel
theorem dJ2_getChar_3b067_46 : decode cJ2_getChar_3b067 46 = .ok (.aload_n 0, 1) := by decide +kernel
theorem dJ2_getChar_3b067_47 : decode cJ2_getChar_3b067 47 = .ok (.iload_n 1, 1) := by decide +kernel
theorem dJ2_getChar_3b067_48 : decode cJ2_getChar_3b067 48 = .ok (.baload, 1) := by decide +kernel
theorem dJ2_getChar_3b067_49 : decode cJ2_getChar_3b067 49 = .ok (.sipush 255, 3) := by decide +kernel
theorem dJ2_getChar_3b067_52 : decode cJ2_getChar_3b067 52 = .ok (.iand, 1) := by decide +kernel
theorem dJ2_getChar_3b067_53 : decode cJ2_getChar_3b067 53 = .ok (.getstatic 63, 3) := by decide +kernel
theorem dJ2_getChar_3b067_56 : decode cJ2_getChar_3b067 56 = .ok (.ishl, 1) := by decide +kernel
theorem dJ2_getChar_3b067_57 : decode cJ2_getChar_3b067 57 = .ok (.ior, 1) := by decide +kernel
theorem dJ2_getChar_3b067_58 : decode cJ2_getChar_3b067 58 = .ok (.i2c, 1) := by decide +kernel
theorem dJ2_getChar_3b067_59 : decode cJ2_getChar_3b067 59 = .ok (.ireturn, 1) := by decide +kernel
theorem dJ2_length_9d52b_0 : decode cJ2_length_9d52b 0 = .ok (.aload_n 0, 1) := by decide +kernel
theorem dJ2_length_9d52b_1 : decode cJ2_length_9d52b 1 = .ok (.arraylength, 1) := by decide +kernel
theorem dJ2_length_9d52b_2 : decode cJ2_length_9d52b 2 = .ok (.iconst 1, 1) := by decide +kernel
theorem dJ2_length_9d52b_3 : decode cJ2_length_9d52b 3 = .ok (.ishr, 1) := by decide +kernel
theorem dJ2_length_9d52b_4 : decode cJ2_length_9d52b 4 = .ok (.ireturn, 1) := by decide +kernel
theorem dJ2_charAt_3b067_0 : decode cJ2_charAt_3b067 0 = .ok (.iload_n 1, 1) := by decide +kernel
theorem dJ2_charAt_3b067_1 : decode cJ2_charAt_3b067 1 = .ok (.aload_n 0, 1) := by decide +kernel
theorem dJ2_charAt_3b067_2 : decode cJ2_charAt_3b067 2 = .ok (.invokestatic 67, 3) := by decide +kernel
theorem dJ2_charAt_3b067_5 : decode cJ2_charAt_3b067 5 = .ok (.aload_n 0, 1) := by decide +kernel
theorem dJ2_charAt_3b067_6 : decode cJ2_charAt_3b067 6 = .ok (.iload_n 1, 1) := by decide +kernel
theorem dJ2_charAt_3b067_7 : decode cJ2_charAt_3b067 7 = .ok (.invokestatic 71, 3) := by decide +kernel
theorem dJ2_charAt_3b067_10 : decode cJ2_charAt_3b067 10 = .ok (.ireturn, 1) := by decide +kernel
theorem dJ2_checkIndex_2214a_0 : decode cJ2_checkIndex_2214a 0 = .ok (.iload_n 0, 1) := by decide +kernel
theorem dJ2_checkIndex_2214a_1 : decode cJ2_checkIndex_2214a 1 = .ok (.aload_n 1, 1) := by decide +kernel
theorem dJ2_checkIndex_2214a_2 : decode cJ2_checkIndex_2214a 2 = .ok (.invokestatic 48, 3) := by decide +kernel
theorem dJ2_checkIndex_2214a_5 : decode cJ2_checkIndex_2214a 5 = .ok (.invokestatic 414, 3) := by decide +kernel
theorem dJ2_checkIndex_2214a_8 : decode cJ2_checkIndex_2214a 8 = .ok (.return_, 1) := by decide +kernel
theorem dJ7_fill_53178_0 : decode cJ7_fill_53178 0 = .ok (.iconst 0, 1) := by decide +kernel
theorem dJ7_fill_53178_1 : decode cJ7_fill_53178 1 = .ok (.istore_n 2, 1) := by decide +kernel
theorem dJ7_fill_53178_2 : decode cJ7_fill_53178 2 = .ok (.aload_n 0, 1) := by decide +kernel
theorem dJ7_fill_53178_3 : decode cJ7_fill_53178 3 = .ok (.arraylength, 1) := by decide +kernel
theorem dJ7_fill_53178_4 : decode cJ7_fill_53178 4 = .ok (.istore_n 3, 1) := by decide +kernel
theorem dJ7_fill_53178_5 : decode cJ7_fill_53178 5 = .ok (.iload_n 2, 1) := by decide +kernel
theorem dJ7_fill_53178_6 : decode cJ7_fill_53178 6 = .ok (.iload_n 3, 1) := by decide +kernel
theorem dJ7_fill_53178_7 : decode cJ7_fill_53178 7 = .ok (.if_icmp .ge 13, 3) := by decide +kernel
theorem dJ7_fill_53178_10 : decode cJ7_fill_53178 10 = .ok (.aload_n 0, 1) := by decide +kernel
theorem dJ7_fill_53178_11 : decode cJ7_fill_53178 11 = .ok (.iload_n 2, 1) := by decide +kernel
theorem dJ7_fill_53178_12 : decode cJ7_fill_53178 12 = .ok (.iload_n 1, 1) := by decide +kernel
theorem dJ7_fill_53178_13 : decode cJ7_fill_53178 13 = .ok (.iastore, 1) := by decide +kernel
theorem dJ7_fill_53178_14 : decode cJ7_fill_53178 14 = .ok (.iinc 2 1, 3) := by decide +kernel
theorem dJ7_fill_53178_17 : decode cJ7_fill_53178 17 = .ok (.goto (-12), 3) := by decide +kernel
theorem dJ7_fill_53178_20 : decode cJ7_fill_53178 20 = .ok (.return_, 1) := by decide +kernel
theorem dJ3_checkIndex_8e157_0 : decode cJ3_checkIndex_8e157 0 = .ok (.iload_n 0, 1) := by decide +kernel
theorem dJ3_checkIndex_8e157_1 : decode cJ3_checkIndex_8e157 1 = .ok (.ifCond .lt 8, 3) := by decide +kernel
theorem dJ3_checkIndex_8e157_4 : decode cJ3_checkIndex_8e157 4 = .ok (.iload_n 0, 1) := by decide +kernel
theorem dJ3_checkIndex_8e157_5 : decode cJ3_checkIndex_8e157 5 = .ok (.iload_n 1, 1) := by decide +kernel
theorem dJ3_checkIndex_8e157_6 : decode cJ3_checkIndex_8e157 6 = .ok (.if_icmp .lt 10, 3) := by decide +kernel
theorem dJ3_checkIndex_8e157_9 : decode cJ3_checkIndex_8e157 9 = .ok (.aload_n 2, 1) := by decide +kernel
theorem dJ3_checkIndex_8e157_10 : decode cJ3_checkIndex_8e157 10 = .ok (.iload_n 0, 1) := by decide +kernel
theorem dJ3_checkIndex_8e157_11 : decode cJ3_checkIndex_8e157 11 = .ok (.iload_n 1, 1) := by decide +kernel
theorem dJ3_checkIndex_8e157_12 : decode cJ3_checkIndex_8e157 12 = .ok (.invokestatic 95, 3) := by decide +kernel
theorem dJ3_checkIndex_8e157_15 : decode cJ3_checkIndex_8e157 15 = .ok (.athrow, 1) := by decide +kernel
theorem dJ3_checkIndex_8e157_16 : decode cJ3_checkIndex_8e157 16 = .ok (.iload_n 0, 1) := by decide +kernel
theorem dJ3_checkIndex_8e157_17 : decode cJ3_checkIndex_8e157 17 = .ok (.ireturn, 1) := by decide +kernel
end
section
theorem dX7_init_0 : decode cX7_init 0 = .ok (.aload_n 0, 1) := by decide +kernel
theorem dX7_init_1 : decode cX7_init 1 = .ok (.invokespecial 1, 3) := by decide +kernel
theorem dX7_init_4 : decode cX7_init 4 = .ok (.aload_n 0, 1) := by decide +kernel
theorem dX7_init_5 : decode cX7_init 5 = .ok (.new 7, 3) := by decide +kernel
theorem dX7_init_8 : decode cX7_init 8 = .ok (.dup, 1) := by decide +kernel
theorem dX7_init_9 : decode cX7_init 9 = .ok (.invokespecial 9, 3) := by decide +kernel
theorem dX7_init_12 : decode cX7_init 12 = .ok (.putfield 10, 3) := by decide +kernel
theorem dX7_init_15 : decode cX7_init 15 = .ok (.aload_n 0, 1) := by decide +kernel
theorem dX7_init_16 : decode cX7_init 16 = .ok (.new 16, 3) := by decide +kernel
theorem dX7_init_19 : decode cX7_init 19 = .ok (.dup, 1) := by decide +kernel
theorem dX7_init_20 : decode cX7_init 20 = .ok (.invokespecial 18, 3) := by decide +kernel
theorem dX7_init_23 : decode cX7_init 23 = .ok (.putfield 19, 3) := by decide +kernel
theorem dX7_init_26 : decode cX7_init 26 = .ok (.aload_n 0, 1) := by decide +kernel
theorem dX7_init_27 : decode cX7_init 27 = .ok (.new 23, 3) := by decide +kernel
theorem dX7_init_30 : decode cX7_init 30 = .ok (.dup, 1) := by decide +kernel
theorem dX7_init_31 : decode cX7_init 31 = .ok (.invokespecial 25, 3) := by decide +kernel
theorem dX7_init_34 : decode cX7_init 34 = .ok (.putfield 26, 3) := by decide +kernel
theorem dX7_init_37 : decode cX7_init 37 = .ok (.aload_n 0, 1) := by decide +kernel
theorem dX7_init_38 : decode cX7_init 38 = .ok (.iconst 2, 1) := by decide +kernel
theorem dX7_init_39 : decode cX7_init 39 = .ok (.anewarray 23, 3) := by decide +kernel
theorem dX7_init_42 : decode cX7_init 42 = .ok (.dup, 1) := by decide +kernel
theorem dX7_init_43 : decode cX7_init 43 = .ok (.iconst 0, 1) := by decide +kernel
theorem dX7_init_44 : decode cX7_init 44 = .ok (.new 23, 3) := by decide +kernel
theorem dX7_init_47 : decode cX7_init 47 = .ok (.dup, 1) := by decide +kernel
theorem dX7_init_48 : decode cX7_init 48 = .ok (.invokespecial 25, 3) := by decide +kernel
theorem dX7_init_51 : decode cX7_init 51 = .ok (.aastore, 1) := by decide +kernel
theorem dX7_init_52 : decode cX7_init 52 = .ok (.dup, 1) := by decide +kernel
theorem dX7_init_53 : decode cX7_init 53 = .ok (.iconst 1, 1) := by decide +kernel
theorem dX7_init_54 : decode cX7_init 54 = .ok (.new 23, 3) := by decide +kernel
theorem dX7_init_57 : decode cX7_init 57 = .ok (.dup, 1) := by decide +kernel
theorem dX7_init_58 : decode cX7_init 58 = .ok (.invokespecial 25, 3) := by decide +kernel
theorem dX7_init_61 : decode cX7_init 61 = .ok (.aastore, 1) := by decide +kernel
theorem dX7_init_62 : decode cX7_init 62 = .ok (.putfield 30, 3) := by decide +kernel
theorem dX7_init_65 : decode cX7_init 65 = .ok (.aload_n 0, 1) := by decide +kernel
theorem dX7_init_66 : decode cX7_init 66 = .ok (.iconst 2, 1) := by decide +kernel
theorem dX7_init_67 : decode cX7_init 67 = .ok (.newarray .boolean, 2) := by decide +kernel
theorem dX7_init_69 : decode cX7_init 69 = .ok (.putfield 34, 3) := by decide +kernel
theorem dX7_init_72 : decode cX7_init 72 = .ok (.aload_n 0, 1) := by decide +kernel
theorem dX7_init_73 : decode cX7_init 73 = .ok (.new 38, 3) := by decide +kernel
theorem dX7_init_76 : decode cX7_init 76 = .ok (.dup, 1) := by decide +kernel
theorem dX7_init_77 : decode cX7_init 77 = .ok (.bipush 10, 2) := by decide +kernel
theorem dX7_init_79 : decode cX7_init 79 = .ok (.invokespecial 40, 3) := by decide +kernel
theorem dX7_init_82 : decode cX7_init 82 = .ok (.putfield 43, 3) := by decide +kernel
theorem dX7_init_85 : decode cX7_init 85 = .ok (.aload_n 0, 1) := by decide +kernel
theorem dX7_init_86 : decode cX7_init 86 = .ok (.new 38, 3) := by decide +kernel
theorem dX7_init_89 : decode cX7_init 89 = .ok (.dup, 1) := by decide +kernel
theorem dX7_init_90 : decode cX7_init 90 = .ok (.bipush 30, 2) := by decide +kernel
theorem dX7_init_92 : decode cX7_init 92 = .ok (.invokespecial 40, 3) := by decide +kernel
theorem dX7_init_95 : decode cX7_init 95 = .ok (.putfield 47, 3) := by decide +kernel
theorem dX7_init_98 : decode cX7_init 98 = .ok (.aload_n 0, 1) := by decide +kernel
theorem dX7_init_99 : decode cX7_init 99 = .ok (.new 50, 3) := by decide +kernel
theorem dX7_init_102 : decode cX7_init 102 = .ok (.dup, 1) := by decide +kernel
theorem dX7_init_103 : decode cX7_init 103 = .ok (.aload_n 0, 1) := by decide +kernel
theorem dX7_init_104 : decode cX7_init 104 = .ok (.getfield 10, 3) := by decide +kernel
theorem dX7_init_107 : decode cX7_init 107 = .ok (.invokespecial 52, 3) := by decide +kernel
theorem dX7_init_110 : decode cX7_init 110 = .ok (.putfield 55, 3) := by decide +kernel
theorem dX7_init_113 : decode cX7_init 113 = .ok (.aload_n 0, 1) := by decide +kernel
theorem dX7_init_114 : decode cX7_init 114 = .ok (.new 59, 3) := by decide +kernel
theorem dX7_init_117 : decode cX7_init 117 = .ok (.dup, 1) := by decide +kernel
theorem dX7_init_118 : decode cX7_init 118 = .ok (.aload_n 0, 1) := by decide +kernel
theorem dX7_init_119 : decode cX7_init 119 = .ok (.getfield 10, 3) := by decide +kernel
theorem dX7_init_122 : decode cX7_init 122 = .ok (.aload_n 0, 1) := by decide +kernel
theorem dX7_init_123 : decode cX7_init 123 = .ok (.getfield 55, 3) := by decide +kernel
theorem dX7_init_126 : decode cX7_init 126 = .ok (.invokespecial 61, 3) := by decide +kernel
theorem dX7_init_129 : decode cX7_init 129 = .ok (.putfield 64, 3) := by decide +kernel
theorem dX7_init_132 : decode cX7_init 132 = .ok (.aload_n 0, 1) := by decide +kernel
theorem dX7_init_133 : decode cX7_init 133 = .ok (.new 68, 3) := by decide +kernel
theorem dX7_init_136 : decode cX7_init 136 = .ok (.dup, 1) := by decide +kernel
theorem dX7_init_137 : decode cX7_init 137 = .ok (.aload_n 0, 1) := by decide +kernel
theorem dX7_init_138 : decode cX7_init 138 = .ok (.getfield 10, 3) := by decide +kernel
theorem dX7_init_141 : decode cX7_init 141 = .ok (.aload_n 0, 1) := by decide +kernel
theorem dX7_init_142 : decode cX7_init 142 = .ok (.getfield 55, 3) := by decide +kernel
theorem dX7_init_145 : decode cX7_init 145 = .ok (.invokespecial 70, 3) := by decide +kernel
theorem dX7_init_148 : decode cX7_init 148 = .ok (.putfield 71, 3) := by decide +kernel
theorem dX7_init_151 : decode cX7_init 151 = .ok (.return_, 1) := by decide +kernel
theorem dX7_feed_0 : decode cX7_feed 0 = .ok (.iload_n 1, 1) := by decide +kernel
theorem dX7_feed_1 : decode cX7_feed 1 = .ok (.iconst 1, 1) := by decide +kernel
theorem dX7_feed_2 : decode cX7_feed 2 = .ok (.if_icmp .lt 9, 3) := by decide +kernel
theorem dX7_feed_5 : decode cX7_feed 5 = .ok (.iload_n 1, 1) := by decide +kernel
theorem dX7_feed_6 : decode cX7_feed 6 = .ok (.bipush 8, 2) := by decide +kernel
theorem dX7_feed_8 : decode cX7_feed 8 = .ok (.if_icmp .le 6, 3) := by decide +kernel
theorem dX7_feed_11 : decode cX7_feed 11 = .ok (.ldc 75, 2) := by decide +kernel
theorem dX7_feed_13 : decode cX7_feed 13 = .ok (.ireturn, 1) := by decide +kernel
theorem dX7_feed_14 : decode cX7_feed 14 = .ok (.aload_n 0, 1) := by decide +kernel
theorem dX7_feed_15 : decode cX7_feed 15 = .ok (.getfield 19, 3) := by decide +kernel
theorem dX7_feed_18 : decode cX7_feed 18 = .ok (.getfield 76, 3) := by decide +kernel
theorem dX7_feed_21 : decode cX7_feed 21 = .ok (.iload_n 1, 1) := by decide +kernel
theorem dX7_feed_22 : decode cX7_feed 22 = .ok (.iadd, 1) := by decide +kernel
theorem dX7_feed_23 : decode cX7_feed 23 = .ok (.sipush 500, 3) := by decide +kernel
theorem dX7_feed_26 : decode cX7_feed 26 = .ok (.if_icmp .le 6, 3) := by decide +kernel
theorem dX7_feed_29 : decode cX7_feed 29 = .ok (.ldc 80, 2) := by decide +kernel
theorem dX7_feed_31 : decode cX7_feed 31 = .ok (.ireturn, 1) := by decide +kernel
theorem dX7_feed_32 : decode cX7_feed 32 = .ok (.aload_n 0, 1) := by decide +kernel
theorem dX7_feed_33 : decode cX7_feed 33 = .ok (.getfield 19, 3) := by decide +kernel
theorem dX7_feed_36 : decode cX7_feed 36 = .ok (.iload_n 1, 1) := by decide +kernel
theorem dX7_feed_37 : decode cX7_feed 37 = .ok (.lload_n 2, 1) := by decide +kernel
theorem dX7_feed_38 : decode cX7_feed 38 = .ok (.invokevirtual 81, 3) := by decide +kernel
theorem dX7_feed_41 : decode cX7_feed 41 = .ok (.aload_n 0, 1) := by decide +kernel
theorem dX7_feed_42 : decode cX7_feed 42 = .ok (.getfield 19, 3) := by decide +kernel
theorem dX7_feed_45 : decode cX7_feed 45 = .ok (.getfield 76, 3) := by decide +kernel
theorem dX7_feed_48 : decode cX7_feed 48 = .ok (.ireturn, 1) := by decide +kernel
theorem dX7_square_0 : decode cX7_square 0 = .ok (.aload_n 0, 1) := by decide +kernel
theorem dX7_square_1 : decode cX7_square 1 = .ok (.getfield 19, 3) := by decide +kernel
theorem dX7_square_4 : decode cX7_square 4 = .ok (.invokevirtual 85, 3) := by decide +kernel
theorem dX7_square_7 : decode cX7_square 7 = .ok (.aload_n 0, 1) := by decide +kernel
theorem dX7_square_8 : decode cX7_square 8 = .ok (.getfield 19, 3) := by decide +kernel
theorem dX7_square_11 : decode cX7_square 11 = .ok (.getfield 88, 3) := by decide +kernel
theorem dX7_square_14 : decode cX7_square 14 = .ok (.ifCond .eq 14, 3) := by decide +kernel
theorem dX7_square_17 : decode cX7_square 17 = .ok (.bipush (-10), 2) := by decide +kernel
theorem dX7_square_19 : decode cX7_square 19 = .ok (.aload_n 0, 1) := by decide +kernel
theorem dX7_square_20 : decode cX7_square 20 = .ok (.getfield 19, 3) := by decide +kernel
theorem dX7_square_23 : decode cX7_square 23 = .ok (.getfield 88, 3) := by decide +kernel
theorem dX7_square_26 : decode cX7_square 26 = .ok (.isub, 1) := by decide +kernel
theorem dX7_square_27 : decode cX7_square 27 = .ok (.ireturn, 1) := by decide +kernel
theorem dX7_square_28 : decode cX7_square 28 = .ok (.aload_n 0, 1) := by decide +kernel
theorem dX7_square_29 : decode cX7_square 29 = .ok (.getfield 10, 3) := by decide +kernel
theorem dX7_square_32 : decode cX7_square 32 = .ok (.aload_n 0, 1) := by decide +kernel
theorem dX7_square_33 : decode cX7_square 33 = .ok (.getfield 19, 3) := by decide +kernel
theorem dX7_square_36 : decode cX7_square 36 = .ok (.getfield 91, 3) := by decide +kernel
theorem dX7_square_39 : decode cX7_square 39 = .ok (.invokevirtual 94, 3) := by decide +kernel
theorem dX7_square_42 : decode cX7_square 42 = .ok (.aload_n 0, 1) := by decide +kernel
theorem dX7_square_43 : decode cX7_square 43 = .ok (.getfield 26, 3) := by decide +kernel
theorem dX7_square_46 : decode cX7_square 46 = .ok (.invokevirtual 97, 3) := by decide +kernel
theorem dX7_square_49 : decode cX7_square 49 = .ok (.aload_n 0, 1) := by decide +kernel
theorem dX7_square_50 : decode cX7_square 50 = .ok (.getfield 43, 3) := by decide +kernel
theorem dX7_square_53 : decode cX7_square 53 = .ok (.iconst 0, 1) := by decide +kernel
theorem dX7_square_54 : decode cX7_square 54 = .ok (.putfield 100, 3) := by decide +kernel
theorem dX7_square_57 : decode cX7_square 57 = .ok (.aload_n 0, 1) := by decide +kernel
theorem dX7_square_58 : decode cX7_square 58 = .ok (.getfield 47, 3) := by decide +kernel
theorem dX7_square_61 : decode cX7_square 61 = .ok (.iconst 0, 1) := by decide +kernel
theorem dX7_square_62 : decode cX7_square 62 = .ok (.putfield 100, 3) := by decide +kernel
theorem dX7_square_65 : decode cX7_square 65 = .ok (.aload_n 0, 1) := by decide +kernel
theorem dX7_square_66 : decode cX7_square 66 = .ok (.getfield 34, 3) := by decide +kernel
theorem dX7_square_69 : decode cX7_square 69 = .ok (.iconst 0, 1) := by decide +kernel
theorem dX7_square_70 : decode cX7_square 70 = .ok (.iconst 0, 1) := by decide +kernel
theorem dX7_square_71 : decode cX7_square 71 = .ok (.bastore, 1) := by decide +kernel
theorem dX7_square_72 : decode cX7_square 72 = .ok (.aload_n 0, 1) := by decide +kernel
theorem dX7_square_73 : decode cX7_square 73 = .ok (.getfield 34, 3) := by decide +kernel
theorem dX7_square_76 : decode cX7_square 76 = .ok (.iconst 1, 1) := by decide +kernel
theorem dX7_square_77 : decode cX7_square 77 = .ok (.iconst 0, 1) := by decide +kernel
theorem dX7_square_78 : decode cX7_square 78 = .ok (.bastore, 1) := by decide +kernel
theorem dX7_square_79 : decode cX7_square 79 = .ok (.aload_n 0, 1) := by decide +kernel
theorem dX7_square_80 : decode cX7_square 80 = .ok (.getfield 10, 3) := by decide +kernel
theorem dX7_square_83 : decode cX7_square 83 = .ok (.iconst 3, 1) := by decide +kernel
theorem dX7_square_84 : decode cX7_square 84 = .ok (.invokevirtual 103, 3) := by decide +kernel
theorem dX7_square_87 : decode cX7_square 87 = .ok (.ireturn, 1) := by decide +kernel
theorem dX7_fault_0 : decode cX7_fault 0 = .ok (.aload_n 0, 1) := by decide +kernel
theorem dX7_fault_1 : decode cX7_fault 1 = .ok (.getfield 19, 3) := by decide +kernel
theorem dX7_fault_4 : decode cX7_fault 4 = .ok (.getfield 106, 3) := by decide +kernel
theorem dX7_fault_7 : decode cX7_fault 7 = .ok (.ireturn, 1) := by decide +kernel
theorem dX7_told_0 : decode cX7_told 0 = .ok (.iload_n 1, 1) := by decide +kernel
theorem dX7_told_1 : decode cX7_told 1 = .ok (.tableswitch 151 0 10 #[59, 67, 76, 85, 94, 103, 111, 119, 127, 135, 143], 59) := by decide +kernel
theorem dX7_told_60 : decode cX7_told 60 = .ok (.aload_n 0, 1) := by decide +kernel
theorem dX7_told_61 : decode cX7_told 61 = .ok (.getfield 10, 3) := by decide +kernel
theorem dX7_told_64 : decode cX7_told 64 = .ok (.invokevirtual 109, 3) := by decide +kernel
theorem dX7_told_67 : decode cX7_told 67 = .ok (.ireturn, 1) := by decide +kernel
theorem dX7_told_68 : decode cX7_told 68 = .ok (.aload_n 0, 1) := by decide +kernel
theorem dX7_told_69 : decode cX7_told 69 = .ok (.getfield 10, 3) := by decide +kernel
theorem dX7_told_72 : decode cX7_told 72 = .ok (.iconst 1, 1) := by decide +kernel
theorem dX7_told_73 : decode cX7_told 73 = .ok (.invokevirtual 103, 3) := by decide +kernel
theorem dX7_told_76 : decode cX7_told 76 = .ok (.ireturn, 1) := by decide +kernel
theorem dX7_told_77 : decode cX7_told 77 = .ok (.aload_n 0, 1) := by decide +kernel
theorem dX7_told_78 : decode cX7_told 78 = .ok (.getfield 10, 3) := by decide +kernel
theorem dX7_told_81 : decode cX7_told 81 = .ok (.iconst 2, 1) := by decide +kernel
theorem dX7_told_82 : decode cX7_told 82 = .ok (.invokevirtual 103, 3) := by decide +kernel
theorem dX7_told_85 : decode cX7_told 85 = .ok (.ireturn, 1) := by decide +kernel
theorem dX7_told_86 : decode cX7_told 86 = .ok (.aload_n 0, 1) := by decide +kernel
theorem dX7_told_87 : decode cX7_told 87 = .ok (.getfield 10, 3) := by decide +kernel
theorem dX7_told_90 : decode cX7_told 90 = .ok (.iconst 3, 1) := by decide +kernel
theorem dX7_told_91 : decode cX7_told 91 = .ok (.invokevirtual 103, 3) := by decide +kernel
theorem dX7_told_94 : decode cX7_told 94 = .ok (.ireturn, 1) := by decide +kernel
theorem dX7_told_95 : decode cX7_told 95 = .ok (.aload_n 0, 1) := by decide +kernel
theorem dX7_told_96 : decode cX7_told 96 = .ok (.getfield 10, 3) := by decide +kernel
theorem dX7_told_99 : decode cX7_told 99 = .ok (.iconst 4, 1) := by decide +kernel
theorem dX7_told_100 : decode cX7_told 100 = .ok (.invokevirtual 103, 3) := by decide +kernel
theorem dX7_told_103 : decode cX7_told 103 = .ok (.ireturn, 1) := by decide +kernel
theorem dX7_told_104 : decode cX7_told 104 = .ok (.aload_n 0, 1) := by decide +kernel
theorem dX7_told_105 : decode cX7_told 105 = .ok (.getfield 19, 3) := by decide +kernel
theorem dX7_told_108 : decode cX7_told 108 = .ok (.getfield 76, 3) := by decide +kernel
theorem dX7_told_111 : decode cX7_told 111 = .ok (.ireturn, 1) := by decide +kernel
theorem dX7_told_112 : decode cX7_told 112 = .ok (.aload_n 0, 1) := by decide +kernel
theorem dX7_told_113 : decode cX7_told 113 = .ok (.getfield 26, 3) := by decide +kernel
theorem dX7_told_116 : decode cX7_told 116 = .ok (.getfield 113, 3) := by decide +kernel
theorem dX7_told_119 : decode cX7_told 119 = .ok (.ireturn, 1) := by decide +kernel
theorem dX7_told_120 : decode cX7_told 120 = .ok (.aload_n 0, 1) := by decide +kernel
theorem dX7_told_121 : decode cX7_told 121 = .ok (.getfield 26, 3) := by decide +kernel
theorem dX7_told_124 : decode cX7_told 124 = .ok (.getfield 116, 3) := by decide +kernel
theorem dX7_told_127 : decode cX7_told 127 = .ok (.ireturn, 1) := by decide +kernel
theorem dX7_told_128 : decode cX7_told 128 = .ok (.aload_n 0, 1) := by decide +kernel
theorem dX7_told_129 : decode cX7_told 129 = .ok (.getfield 26, 3) := by decide +kernel
theorem dX7_told_132 : decode cX7_told 132 = .ok (.getfield 119, 3) := by decide +kernel
theorem dX7_told_135 : decode cX7_told 135 = .ok (.ireturn, 1) := by decide +kernel
theorem dX7_told_136 : decode cX7_told 136 = .ok (.aload_n 0, 1) := by decide +kernel
theorem dX7_told_137 : decode cX7_told 137 = .ok (.getfield 43, 3) := by decide +kernel
theorem dX7_told_140 : decode cX7_told 140 = .ok (.getfield 100, 3) := by decide +kernel
theorem dX7_told_143 : decode cX7_told 143 = .ok (.ireturn, 1) := by decide +kernel
theorem dX7_told_144 : decode cX7_told 144 = .ok (.aload_n 0, 1) := by decide +kernel
theorem dX7_told_145 : decode cX7_told 145 = .ok (.getfield 47, 3) := by decide +kernel
theorem dX7_told_148 : decode cX7_told 148 = .ok (.getfield 100, 3) := by decide +kernel
theorem dX7_told_151 : decode cX7_told 151 = .ok (.ireturn, 1) := by decide +kernel
theorem dX7_told_152 : decode cX7_told 152 = .ok (.ldc 75, 2) := by decide +kernel
theorem dX7_told_154 : decode cX7_told 154 = .ok (.ireturn, 1) := by decide +kernel
theorem dX7_bell_0 : decode cX7_bell 0 = .ok (.aload_n 0, 1) := by decide +kernel
theorem dX7_bell_1 : decode cX7_bell 1 = .ok (.getfield 10, 3) := by decide +kernel
theorem dX7_bell_4 : decode cX7_bell 4 = .ok (.iconst 1, 1) := by decide +kernel
theorem dX7_bell_5 : decode cX7_bell 5 = .ok (.iload_n 1, 1) := by decide +kernel
theorem dX7_bell_6 : decode cX7_bell 6 = .ok (.invokevirtual 122, 3) := by decide +kernel
theorem dX7_bell_9 : decode cX7_bell 9 = .ok (.ifCond .ne 6, 3) := by decide +kernel
theorem dX7_bell_12 : decode cX7_bell 12 = .ok (.ldc 126, 2) := by decide +kernel
theorem dX7_bell_14 : decode cX7_bell 14 = .ok (.ireturn, 1) := by decide +kernel
theorem dX7_bell_15 : decode cX7_bell 15 = .ok (.iload_n 2, 1) := by decide +kernel
theorem dX7_bell_16 : decode cX7_bell 16 = .ok (.ifCond .lt 9, 3) := by decide +kernel
theorem dX7_bell_19 : decode cX7_bell 19 = .ok (.iload_n 2, 1) := by decide +kernel
theorem dX7_bell_20 : decode cX7_bell 20 = .ok (.ldc 127, 2) := by decide +kernel
theorem dX7_bell_22 : decode cX7_bell 22 = .ok (.if_icmp .le 6, 3) := by decide +kernel
theorem dX7_bell_25 : decode cX7_bell 25 = .ok (.ldc 75, 2) := by decide +kernel
theorem dX7_bell_27 : decode cX7_bell 27 = .ok (.ireturn, 1) := by decide +kernel
theorem dX7_bell_28 : decode cX7_bell 28 = .ok (.aload_n 0, 1) := by decide +kernel
theorem dX7_bell_29 : decode cX7_bell 29 = .ok (.getfield 10, 3) := by decide +kernel
theorem dX7_bell_32 : decode cX7_bell 32 = .ok (.iload_n 1, 1) := by decide +kernel
theorem dX7_bell_33 : decode cX7_bell 33 = .ok (.iload_n 2, 1) := by decide +kernel
theorem dX7_bell_34 : decode cX7_bell 34 = .ok (.invokevirtual 128, 3) := by decide +kernel
theorem dX7_bell_37 : decode cX7_bell 37 = .ok (.ireturn, 1) := by decide +kernel
theorem dX7_spot_0 : decode cX7_spot 0 = .ok (.aload_n 0, 1) := by decide +kernel
theorem dX7_spot_1 : decode cX7_spot 1 = .ok (.getfield 10, 3) := by decide +kernel
theorem dX7_spot_4 : decode cX7_spot 4 = .ok (.iconst 2, 1) := by decide +kernel
theorem dX7_spot_5 : decode cX7_spot 5 = .ok (.iload_n 1, 1) := by decide +kernel
theorem dX7_spot_6 : decode cX7_spot 6 = .ok (.invokevirtual 122, 3) := by decide +kernel
theorem dX7_spot_9 : decode cX7_spot 9 = .ok (.ifCond .ne 6, 3) := by decide +kernel
theorem dX7_spot_12 : decode cX7_spot 12 = .ok (.ldc 126, 2) := by decide +kernel
theorem dX7_spot_14 : decode cX7_spot 14 = .ok (.ireturn, 1) := by decide +kernel
theorem dX7_spot_15 : decode cX7_spot 15 = .ok (.iload_n 2, 1) := by decide +kernel
theorem dX7_spot_16 : decode cX7_spot 16 = .ok (.ifCond .lt 8, 3) := by decide +kernel
theorem dX7_spot_19 : decode cX7_spot 19 = .ok (.iload_n 2, 1) := by decide +kernel
theorem dX7_spot_20 : decode cX7_spot 20 = .ok (.iconst 3, 1) := by decide +kernel
theorem dX7_spot_21 : decode cX7_spot 21 = .ok (.if_icmp .le 6, 3) := by decide +kernel
theorem dX7_spot_24 : decode cX7_spot 24 = .ok (.ldc 75, 2) := by decide +kernel
theorem dX7_spot_26 : decode cX7_spot 26 = .ok (.ireturn, 1) := by decide +kernel
theorem dX7_spot_27 : decode cX7_spot 27 = .ok (.iload_n 2, 1) := by decide +kernel
theorem dX7_spot_28 : decode cX7_spot 28 = .ok (.iconst 3, 1) := by decide +kernel
theorem dX7_spot_29 : decode cX7_spot 29 = .ok (.if_icmp .ne 14, 3) := by decide +kernel
theorem dX7_spot_32 : decode cX7_spot 32 = .ok (.aload_n 0, 1) := by decide +kernel
theorem dX7_spot_33 : decode cX7_spot 33 = .ok (.getfield 26, 3) := by decide +kernel
theorem dX7_spot_36 : decode cX7_spot 36 = .ok (.iload_n 1, 1) := by decide +kernel
theorem dX7_spot_37 : decode cX7_spot 37 = .ok (.invokevirtual 132, 3) := by decide +kernel
theorem dX7_spot_40 : decode cX7_spot 40 = .ok (.goto 13, 3) := by decide +kernel
theorem dX7_spot_43 : decode cX7_spot 43 = .ok (.aload_n 0, 1) := by decide +kernel
theorem dX7_spot_44 : decode cX7_spot 44 = .ok (.getfield 10, 3) := by decide +kernel
theorem dX7_spot_47 : decode cX7_spot 47 = .ok (.iconst 2, 1) := by decide +kernel
theorem dX7_spot_48 : decode cX7_spot 48 = .ok (.iload_n 1, 1) := by decide +kernel
theorem dX7_spot_49 : decode cX7_spot 49 = .ok (.iload_n 2, 1) := by decide +kernel
theorem dX7_spot_50 : decode cX7_spot 50 = .ok (.invokevirtual 135, 3) := by decide +kernel
theorem dX7_spot_53 : decode cX7_spot 53 = .ok (.ireturn, 1) := by decide +kernel
theorem dX7_beggar_0 : decode cX7_beggar 0 = .ok (.aload_n 0, 1) := by decide +kernel
theorem dX7_beggar_1 : decode cX7_beggar 1 = .ok (.getfield 10, 3) := by decide +kernel
theorem dX7_beggar_4 : decode cX7_beggar 4 = .ok (.iconst 3, 1) := by decide +kernel
theorem dX7_beggar_5 : decode cX7_beggar 5 = .ok (.iload_n 1, 1) := by decide +kernel
theorem dX7_beggar_6 : decode cX7_beggar 6 = .ok (.invokevirtual 122, 3) := by decide +kernel
theorem dX7_beggar_9 : decode cX7_beggar 9 = .ok (.ifCond .ne 6, 3) := by decide +kernel
theorem dX7_beggar_12 : decode cX7_beggar 12 = .ok (.ldc 126, 2) := by decide +kernel
theorem dX7_beggar_14 : decode cX7_beggar 14 = .ok (.ireturn, 1) := by decide +kernel
theorem dX7_beggar_15 : decode cX7_beggar 15 = .ok (.iload_n 2, 1) := by decide +kernel
theorem dX7_beggar_16 : decode cX7_beggar 16 = .ok (.tableswitch 82 0 4 #[36, 47, 57, 66, 72], 36) := by decide +kernel
theorem dX7_beggar_52 : decode cX7_beggar 52 = .ok (.aload_n 0, 1) := by decide +kernel
theorem dX7_beggar_53 : decode cX7_beggar 53 = .ok (.getfield 10, 3) := by decide +kernel
theorem dX7_beggar_56 : decode cX7_beggar 56 = .ok (.iconst 3, 1) := by decide +kernel
theorem dX7_beggar_57 : decode cX7_beggar 57 = .ok (.iload_n 1, 1) := by decide +kernel
theorem dX7_beggar_58 : decode cX7_beggar 58 = .ok (.iconst 0, 1) := by decide +kernel
theorem dX7_beggar_59 : decode cX7_beggar 59 = .ok (.invokevirtual 135, 3) := by decide +kernel
theorem dX7_beggar_62 : decode cX7_beggar 62 = .ok (.ireturn, 1) := by decide +kernel
theorem dX7_beggar_63 : decode cX7_beggar 63 = .ok (.aload_n 0, 1) := by decide +kernel
theorem dX7_beggar_64 : decode cX7_beggar 64 = .ok (.getfield 26, 3) := by decide +kernel
theorem dX7_beggar_67 : decode cX7_beggar 67 = .ok (.getfield 139, 3) := by decide +kernel
theorem dX7_beggar_70 : decode cX7_beggar 70 = .ok (.iload_n 1, 1) := by decide +kernel
theorem dX7_beggar_71 : decode cX7_beggar 71 = .ok (.iaload, 1) := by decide +kernel
theorem dX7_beggar_72 : decode cX7_beggar 72 = .ok (.ireturn, 1) := by decide +kernel
theorem dX7_beggar_73 : decode cX7_beggar 73 = .ok (.aload_n 0, 1) := by decide +kernel
theorem dX7_beggar_74 : decode cX7_beggar 74 = .ok (.getfield 26, 3) := by decide +kernel
theorem dX7_beggar_77 : decode cX7_beggar 77 = .ok (.iload_n 1, 1) := by decide +kernel
theorem dX7_beggar_78 : decode cX7_beggar 78 = .ok (.invokevirtual 143, 3) := by decide +kernel
theorem dX7_beggar_81 : decode cX7_beggar 81 = .ok (.ireturn, 1) := by decide +kernel
theorem dX7_beggar_82 : decode cX7_beggar 82 = .ok (.aload_n 0, 1) := by decide +kernel
theorem dX7_beggar_83 : decode cX7_beggar 83 = .ok (.iload_n 1, 1) := by decide +kernel
theorem dX7_beggar_84 : decode cX7_beggar 84 = .ok (.invokevirtual 146, 3) := by decide +kernel
theorem dX7_beggar_87 : decode cX7_beggar 87 = .ok (.ireturn, 1) := by decide +kernel
theorem dX7_beggar_88 : decode cX7_beggar 88 = .ok (.aload_n 0, 1) := by decide +kernel
theorem dX7_beggar_89 : decode cX7_beggar 89 = .ok (.getfield 26, 3) := by decide +kernel
theorem dX7_beggar_92 : decode cX7_beggar 92 = .ok (.getfield 149, 3) := by decide +kernel
theorem dX7_beggar_95 : decode cX7_beggar 95 = .ok (.iload_n 1, 1) := by decide +kernel
theorem dX7_beggar_96 : decode cX7_beggar 96 = .ok (.iaload, 1) := by decide +kernel
theorem dX7_beggar_97 : decode cX7_beggar 97 = .ok (.ireturn, 1) := by decide +kernel
theorem dX7_beggar_98 : decode cX7_beggar 98 = .ok (.ldc 75, 2) := by decide +kernel
theorem dX7_beggar_100 : decode cX7_beggar 100 = .ok (.ireturn, 1) := by decide +kernel
theorem dX7_hat_0 : decode cX7_hat 0 = .ok (.aload_n 0, 1) := by decide +kernel
theorem dX7_hat_1 : decode cX7_hat 1 = .ok (.getfield 10, 3) := by decide +kernel
theorem dX7_hat_4 : decode cX7_hat 4 = .ok (.iconst 4, 1) := by decide +kernel
theorem dX7_hat_5 : decode cX7_hat 5 = .ok (.iload_n 1, 1) := by decide +kernel
theorem dX7_hat_6 : decode cX7_hat 6 = .ok (.invokevirtual 122, 3) := by decide +kernel
theorem dX7_hat_9 : decode cX7_hat 9 = .ok (.ifCond .ne 6, 3) := by decide +kernel
theorem dX7_hat_12 : decode cX7_hat 12 = .ok (.ldc 126, 2) := by decide +kernel
theorem dX7_hat_14 : decode cX7_hat 14 = .ok (.ireturn, 1) := by decide +kernel
theorem dX7_hat_15 : decode cX7_hat 15 = .ok (.iload_n 2, 1) := by decide +kernel
theorem dX7_hat_16 : decode cX7_hat 16 = .ok (.ifCond .lt 8, 3) := by decide +kernel
theorem dX7_hat_19 : decode cX7_hat 19 = .ok (.iload_n 2, 1) := by decide +kernel
theorem dX7_hat_20 : decode cX7_hat 20 = .ok (.iconst 2, 1) := by decide +kernel
theorem dX7_hat_21 : decode cX7_hat 21 = .ok (.if_icmp .le 6, 3) := by decide +kernel
theorem dX7_hat_24 : decode cX7_hat 24 = .ok (.ldc 75, 2) := by decide +kernel
theorem dX7_hat_26 : decode cX7_hat 26 = .ok (.ireturn, 1) := by decide +kernel
theorem dX7_hat_27 : decode cX7_hat 27 = .ok (.iload_n 2, 1) := by decide +kernel
theorem dX7_hat_28 : decode cX7_hat 28 = .ok (.iconst 2, 1) := by decide +kernel
theorem dX7_hat_29 : decode cX7_hat 29 = .ok (.if_icmp .ne 15, 3) := by decide +kernel
theorem dX7_hat_32 : decode cX7_hat 32 = .ok (.aload_n 0, 1) := by decide +kernel
theorem dX7_hat_33 : decode cX7_hat 33 = .ok (.getfield 26, 3) := by decide +kernel
theorem dX7_hat_36 : decode cX7_hat 36 = .ok (.getfield 152, 3) := by decide +kernel
theorem dX7_hat_39 : decode cX7_hat 39 = .ok (.iload_n 1, 1) := by decide +kernel
theorem dX7_hat_40 : decode cX7_hat 40 = .ok (.iaload, 1) := by decide +kernel
theorem dX7_hat_41 : decode cX7_hat 41 = .ok (.goto 13, 3) := by decide +kernel
theorem dX7_hat_44 : decode cX7_hat 44 = .ok (.aload_n 0, 1) := by decide +kernel
theorem dX7_hat_45 : decode cX7_hat 45 = .ok (.getfield 10, 3) := by decide +kernel
theorem dX7_hat_48 : decode cX7_hat 48 = .ok (.iconst 4, 1) := by decide +kernel
theorem dX7_hat_49 : decode cX7_hat 49 = .ok (.iload_n 1, 1) := by decide +kernel
theorem dX7_hat_50 : decode cX7_hat 50 = .ok (.iload_n 2, 1) := by decide +kernel
theorem dX7_hat_51 : decode cX7_hat 51 = .ok (.invokevirtual 135, 3) := by decide +kernel
theorem dX7_hat_54 : decode cX7_hat 54 = .ok (.ireturn, 1) := by decide +kernel
theorem dX7_shadow_0 : decode cX7_shadow 0 = .ok (.aload_n 0, 1) := by decide +kernel
theorem dX7_shadow_1 : decode cX7_shadow 1 = .ok (.getfield 10, 3) := by decide +kernel
theorem dX7_shadow_4 : decode cX7_shadow 4 = .ok (.iconst 1, 1) := by decide +kernel
theorem dX7_shadow_5 : decode cX7_shadow 5 = .ok (.iload_n 1, 1) := by decide +kernel
theorem dX7_shadow_6 : decode cX7_shadow 6 = .ok (.invokevirtual 122, 3) := by decide +kernel
theorem dX7_shadow_9 : decode cX7_shadow 9 = .ok (.ifCond .eq 15, 3) := by decide +kernel
theorem dX7_shadow_12 : decode cX7_shadow 12 = .ok (.aload_n 0, 1) := by decide +kernel
theorem dX7_shadow_13 : decode cX7_shadow 13 = .ok (.getfield 10, 3) := by decide +kernel
theorem dX7_shadow_16 : decode cX7_shadow 16 = .ok (.iconst 3, 1) := by decide +kernel
theorem dX7_shadow_17 : decode cX7_shadow 17 = .ok (.iload_n 2, 1) := by decide +kernel
theorem dX7_shadow_18 : decode cX7_shadow 18 = .ok (.invokevirtual 122, 3) := by decide +kernel
theorem dX7_shadow_21 : decode cX7_shadow 21 = .ok (.ifCond .ne 6, 3) := by decide +kernel
theorem dX7_shadow_24 : decode cX7_shadow 24 = .ok (.ldc 126, 2) := by decide +kernel
theorem dX7_shadow_26 : decode cX7_shadow 26 = .ok (.ireturn, 1) := by decide +kernel
theorem dX7_shadow_27 : decode cX7_shadow 27 = .ok (.iload_n 3, 1) := by decide +kernel
theorem dX7_shadow_28 : decode cX7_shadow 28 = .ok (.ifCond .lt 8, 3) := by decide +kernel
theorem dX7_shadow_31 : decode cX7_shadow 31 = .ok (.iload_n 3, 1) := by decide +kernel
theorem dX7_shadow_32 : decode cX7_shadow 32 = .ok (.iconst 1, 1) := by decide +kernel
theorem dX7_shadow_33 : decode cX7_shadow 33 = .ok (.if_icmp .le 6, 3) := by decide +kernel
theorem dX7_shadow_36 : decode cX7_shadow 36 = .ok (.ldc 75, 2) := by decide +kernel
theorem dX7_shadow_38 : decode cX7_shadow 38 = .ok (.ireturn, 1) := by decide +kernel
theorem dX7_shadow_39 : decode cX7_shadow 39 = .ok (.aload_n 0, 1) := by decide +kernel
theorem dX7_shadow_40 : decode cX7_shadow 40 = .ok (.iload_n 1, 1) := by decide +kernel
theorem dX7_shadow_41 : decode cX7_shadow 41 = .ok (.aload_n 0, 1) := by decide +kernel
theorem dX7_shadow_42 : decode cX7_shadow 42 = .ok (.getfield 26, 3) := by decide +kernel
theorem dX7_shadow_45 : decode cX7_shadow 45 = .ok (.getfield 113, 3) := by decide +kernel
theorem dX7_shadow_48 : decode cX7_shadow 48 = .ok (.invokevirtual 155, 3) := by decide +kernel
theorem dX7_shadow_51 : decode cX7_shadow 51 = .ok (.iload_n 3, 1) := by decide +kernel
theorem dX7_shadow_52 : decode cX7_shadow 52 = .ok (.ifCond .ne 15, 3) := by decide +kernel
theorem dX7_shadow_55 : decode cX7_shadow 55 = .ok (.aload_n 0, 1) := by decide +kernel
theorem dX7_shadow_56 : decode cX7_shadow 56 = .ok (.getfield 55, 3) := by decide +kernel
theorem dX7_shadow_59 : decode cX7_shadow 59 = .ok (.getfield 159, 3) := by decide +kernel
theorem dX7_shadow_62 : decode cX7_shadow 62 = .ok (.iload_n 2, 1) := by decide +kernel
theorem dX7_shadow_63 : decode cX7_shadow 63 = .ok (.iaload, 1) := by decide +kernel
theorem dX7_shadow_64 : decode cX7_shadow 64 = .ok (.goto 11, 3) := by decide +kernel
theorem dX7_shadow_67 : decode cX7_shadow 67 = .ok (.aload_n 0, 1) := by decide +kernel
theorem dX7_shadow_68 : decode cX7_shadow 68 = .ok (.getfield 55, 3) := by decide +kernel
theorem dX7_shadow_71 : decode cX7_shadow 71 = .ok (.iload_n 2, 1) := by decide +kernel
theorem dX7_shadow_72 : decode cX7_shadow 72 = .ok (.invokevirtual 162, 3) := by decide +kernel
theorem dX7_shadow_75 : decode cX7_shadow 75 = .ok (.ireturn, 1) := by decide +kernel
theorem dX7_go_0 : decode cX7_go 0 = .ok (.aload_n 0, 1) := by decide +kernel
theorem dX7_go_1 : decode cX7_go 1 = .ok (.getfield 10, 3) := by decide +kernel
theorem dX7_go_4 : decode cX7_go 4 = .ok (.iconst 3, 1) := by decide +kernel
theorem dX7_go_5 : decode cX7_go 5 = .ok (.iload_n 1, 1) := by decide +kernel
theorem dX7_go_6 : decode cX7_go 6 = .ok (.invokevirtual 122, 3) := by decide +kernel
theorem dX7_go_9 : decode cX7_go 9 = .ok (.ifCond .eq 20, 3) := by decide +kernel
theorem dX7_go_12 : decode cX7_go 12 = .ok (.iload_n 2, 1) := by decide +kernel
theorem dX7_go_13 : decode cX7_go 13 = .ok (.iconst (-1), 1) := by decide +kernel
theorem dX7_go_14 : decode cX7_go 14 = .ok (.if_icmp .eq 18, 3) := by decide +kernel
theorem dX7_go_17 : decode cX7_go 17 = .ok (.aload_n 0, 1) := by decide +kernel
theorem dX7_go_18 : decode cX7_go 18 = .ok (.getfield 10, 3) := by decide +kernel
theorem dX7_go_21 : decode cX7_go 21 = .ok (.iconst 2, 1) := by decide +kernel
theorem dX7_go_22 : decode cX7_go 22 = .ok (.iload_n 2, 1) := by decide +kernel
theorem dX7_go_23 : decode cX7_go 23 = .ok (.invokevirtual 122, 3) := by decide +kernel
theorem dX7_go_26 : decode cX7_go 26 = .ok (.ifCond .ne 6, 3) := by decide +kernel
theorem dX7_go_29 : decode cX7_go 29 = .ok (.ldc 126, 2) := by decide +kernel
theorem dX7_go_31 : decode cX7_go 31 = .ok (.ireturn, 1) := by decide +kernel
theorem dX7_go_32 : decode cX7_go 32 = .ok (.iload_n 2, 1) := by decide +kernel
theorem dX7_go_33 : decode cX7_go 33 = .ok (.iconst (-1), 1) := by decide +kernel
theorem dX7_go_34 : decode cX7_go 34 = .ok (.if_icmp .ne 7, 3) := by decide +kernel
theorem dX7_go_37 : decode cX7_go 37 = .ok (.iconst (-1), 1) := by decide +kernel
theorem dX7_go_38 : decode cX7_go 38 = .ok (.goto 11, 3) := by decide +kernel
theorem dX7_go_41 : decode cX7_go 41 = .ok (.aload_n 0, 1) := by decide +kernel
theorem dX7_go_42 : decode cX7_go 42 = .ok (.getfield 26, 3) := by decide +kernel
theorem dX7_go_45 : decode cX7_go 45 = .ok (.iload_n 2, 1) := by decide +kernel
theorem dX7_go_46 : decode cX7_go 46 = .ok (.invokevirtual 132, 3) := by decide +kernel
theorem dX7_go_49 : decode cX7_go 49 = .ok (.istore_n 3, 1) := by decide +kernel
theorem dX7_go_50 : decode cX7_go 50 = .ok (.iload_n 3, 1) := by decide +kernel
theorem dX7_go_51 : decode cX7_go 51 = .ok (.iconst (-1), 1) := by decide +kernel
theorem dX7_go_52 : decode cX7_go 52 = .ok (.if_icmp .eq 11, 3) := by decide +kernel
theorem dX7_go_55 : decode cX7_go 55 = .ok (.iload_n 3, 1) := by decide +kernel
theorem dX7_go_56 : decode cX7_go 56 = .ok (.iload_n 1, 1) := by decide +kernel
theorem dX7_go_57 : decode cX7_go 57 = .ok (.if_icmp .eq 6, 3) := by decide +kernel
theorem dX7_go_60 : decode cX7_go 60 = .ok (.ldc 165, 2) := by decide +kernel
theorem dX7_go_62 : decode cX7_go 62 = .ok (.ireturn, 1) := by decide +kernel
theorem dX7_go_63 : decode cX7_go 63 = .ok (.aload_n 0, 1) := by decide +kernel
theorem dX7_go_64 : decode cX7_go 64 = .ok (.getfield 26, 3) := by decide +kernel
theorem dX7_go_67 : decode cX7_go 67 = .ok (.getfield 139, 3) := by decide +kernel
theorem dX7_go_70 : decode cX7_go 70 = .ok (.iload_n 1, 1) := by decide +kernel
theorem dX7_go_71 : decode cX7_go 71 = .ok (.iaload, 1) := by decide +kernel
theorem dX7_go_72 : decode cX7_go 72 = .ok (.istore 4, 2) := by decide +kernel
theorem dX7_go_74 : decode cX7_go 74 = .ok (.aload_n 0, 1) := by decide +kernel
theorem dX7_go_75 : decode cX7_go 75 = .ok (.getfield 26, 3) := by decide +kernel
theorem dX7_go_78 : decode cX7_go 78 = .ok (.getfield 139, 3) := by decide +kernel
theorem dX7_go_81 : decode cX7_go 81 = .ok (.iload_n 1, 1) := by decide +kernel
theorem dX7_go_82 : decode cX7_go 82 = .ok (.iload_n 2, 1) := by decide +kernel
theorem dX7_go_83 : decode cX7_go 83 = .ok (.iastore, 1) := by decide +kernel
theorem dX7_go_84 : decode cX7_go 84 = .ok (.iload 4, 2) := by decide +kernel
theorem dX7_go_86 : decode cX7_go 86 = .ok (.ireturn, 1) := by decide +kernel
theorem dX7_lend_0 : decode cX7_lend 0 = .ok (.aload_n 0, 1) := by decide +kernel
theorem dX7_lend_1 : decode cX7_lend 1 = .ok (.getfield 10, 3) := by decide +kernel
theorem dX7_lend_4 : decode cX7_lend 4 = .ok (.iconst 4, 1) := by decide +kernel
theorem dX7_lend_5 : decode cX7_lend 5 = .ok (.iload_n 1, 1) := by decide +kernel
theorem dX7_lend_6 : decode cX7_lend 6 = .ok (.invokevirtual 122, 3) := by decide +kernel
theorem dX7_lend_9 : decode cX7_lend 9 = .ok (.ifCond .eq 20, 3) := by decide +kernel
theorem dX7_lend_12 : decode cX7_lend 12 = .ok (.iload_n 2, 1) := by decide +kernel
theorem dX7_lend_13 : decode cX7_lend 13 = .ok (.iconst (-1), 1) := by decide +kernel
theorem dX7_lend_14 : decode cX7_lend 14 = .ok (.if_icmp .eq 18, 3) := by decide +kernel
theorem dX7_lend_17 : decode cX7_lend 17 = .ok (.aload_n 0, 1) := by decide +kernel
theorem dX7_lend_18 : decode cX7_lend 18 = .ok (.getfield 10, 3) := by decide +kernel
theorem dX7_lend_21 : decode cX7_lend 21 = .ok (.iconst 3, 1) := by decide +kernel
theorem dX7_lend_22 : decode cX7_lend 22 = .ok (.iload_n 2, 1) := by decide +kernel
theorem dX7_lend_23 : decode cX7_lend 23 = .ok (.invokevirtual 122, 3) := by decide +kernel
theorem dX7_lend_26 : decode cX7_lend 26 = .ok (.ifCond .ne 6, 3) := by decide +kernel
theorem dX7_lend_29 : decode cX7_lend 29 = .ok (.ldc 126, 2) := by decide +kernel
theorem dX7_lend_31 : decode cX7_lend 31 = .ok (.ireturn, 1) := by decide +kernel
theorem dX7_lend_32 : decode cX7_lend 32 = .ok (.iload_n 2, 1) := by decide +kernel
theorem dX7_lend_33 : decode cX7_lend 33 = .ok (.iconst (-1), 1) := by decide +kernel
theorem dX7_lend_34 : decode cX7_lend 34 = .ok (.if_icmp .ne 7, 3) := by decide +kernel
theorem dX7_lend_37 : decode cX7_lend 37 = .ok (.iconst (-1), 1) := by decide +kernel
theorem dX7_lend_38 : decode cX7_lend 38 = .ok (.goto 11, 3) := by decide +kernel
theorem dX7_lend_41 : decode cX7_lend 41 = .ok (.aload_n 0, 1) := by decide +kernel
theorem dX7_lend_42 : decode cX7_lend 42 = .ok (.getfield 26, 3) := by decide +kernel
theorem dX7_lend_45 : decode cX7_lend 45 = .ok (.iload_n 2, 1) := by decide +kernel
theorem dX7_lend_46 : decode cX7_lend 46 = .ok (.invokevirtual 143, 3) := by decide +kernel
theorem dX7_lend_49 : decode cX7_lend 49 = .ok (.istore_n 3, 1) := by decide +kernel
theorem dX7_lend_50 : decode cX7_lend 50 = .ok (.iload_n 3, 1) := by decide +kernel
theorem dX7_lend_51 : decode cX7_lend 51 = .ok (.iconst (-1), 1) := by decide +kernel
theorem dX7_lend_52 : decode cX7_lend 52 = .ok (.if_icmp .eq 11, 3) := by decide +kernel
theorem dX7_lend_55 : decode cX7_lend 55 = .ok (.iload_n 3, 1) := by decide +kernel
theorem dX7_lend_56 : decode cX7_lend 56 = .ok (.iload_n 1, 1) := by decide +kernel
theorem dX7_lend_57 : decode cX7_lend 57 = .ok (.if_icmp .eq 6, 3) := by decide +kernel
theorem dX7_lend_60 : decode cX7_lend 60 = .ok (.ldc 165, 2) := by decide +kernel
theorem dX7_lend_62 : decode cX7_lend 62 = .ok (.ireturn, 1) := by decide +kernel
theorem dX7_lend_63 : decode cX7_lend 63 = .ok (.aload_n 0, 1) := by decide +kernel
theorem dX7_lend_64 : decode cX7_lend 64 = .ok (.getfield 26, 3) := by decide +kernel
theorem dX7_lend_67 : decode cX7_lend 67 = .ok (.getfield 152, 3) := by decide +kernel
theorem dX7_lend_70 : decode cX7_lend 70 = .ok (.iload_n 1, 1) := by decide +kernel
theorem dX7_lend_71 : decode cX7_lend 71 = .ok (.iaload, 1) := by decide +kernel
theorem dX7_lend_72 : decode cX7_lend 72 = .ok (.istore 4, 2) := by decide +kernel
theorem dX7_lend_74 : decode cX7_lend 74 = .ok (.aload_n 0, 1) := by decide +kernel
theorem dX7_lend_75 : decode cX7_lend 75 = .ok (.getfield 26, 3) := by decide +kernel
theorem dX7_lend_78 : decode cX7_lend 78 = .ok (.getfield 152, 3) := by decide +kernel
theorem dX7_lend_81 : decode cX7_lend 81 = .ok (.iload_n 1, 1) := by decide +kernel
theorem dX7_lend_82 : decode cX7_lend 82 = .ok (.iload_n 2, 1) := by decide +kernel
theorem dX7_lend_83 : decode cX7_lend 83 = .ok (.iastore, 1) := by decide +kernel
theorem dX7_lend_84 : decode cX7_lend 84 = .ok (.iload 4, 2) := by decide +kernel
theorem dX7_lend_86 : decode cX7_lend 86 = .ok (.ireturn, 1) := by decide +kernel
theorem dX7_law_0 : decode cX7_law 0 = .ok (.iload_n 1, 1) := by decide +kernel
theorem dX7_law_1 : decode cX7_law 1 = .ok (.ifCond .lt 8, 3) := by decide +kernel
theorem dX7_law_4 : decode cX7_law 4 = .ok (.iload_n 1, 1) := by decide +kernel
theorem dX7_law_5 : decode cX7_law 5 = .ok (.iconst 2, 1) := by decide +kernel
theorem dX7_law_6 : decode cX7_law 6 = .ok (.if_icmp .le 6, 3) := by decide +kernel
theorem dX7_law_9 : decode cX7_law 9 = .ok (.ldc 75, 2) := by decide +kernel
theorem dX7_law_11 : decode cX7_law 11 = .ok (.ireturn, 1) := by decide +kernel
theorem dX7_law_12 : decode cX7_law 12 = .ok (.aload_n 0, 1) := by decide +kernel
theorem dX7_law_13 : decode cX7_law 13 = .ok (.getfield 26, 3) := by decide +kernel
theorem dX7_law_16 : decode cX7_law 16 = .ok (.getfield 116, 3) := by decide +kernel
theorem dX7_law_19 : decode cX7_law 19 = .ok (.istore_n 2, 1) := by decide +kernel
theorem dX7_law_20 : decode cX7_law 20 = .ok (.aload_n 0, 1) := by decide +kernel
theorem dX7_law_21 : decode cX7_law 21 = .ok (.getfield 26, 3) := by decide +kernel
theorem dX7_law_24 : decode cX7_law 24 = .ok (.iload_n 1, 1) := by decide +kernel
theorem dX7_law_25 : decode cX7_law 25 = .ok (.putfield 116, 3) := by decide +kernel
theorem dX7_law_28 : decode cX7_law 28 = .ok (.iload_n 2, 1) := by decide +kernel
theorem dX7_law_29 : decode cX7_law 29 = .ok (.ireturn, 1) := by decide +kernel
theorem dX7_ring_0 : decode cX7_ring 0 = .ok (.aload_n 0, 1) := by decide +kernel
theorem dX7_ring_1 : decode cX7_ring 1 = .ok (.getfield 10, 3) := by decide +kernel
theorem dX7_ring_4 : decode cX7_ring 4 = .ok (.iconst 1, 1) := by decide +kernel
theorem dX7_ring_5 : decode cX7_ring 5 = .ok (.iload_n 1, 1) := by decide +kernel
theorem dX7_ring_6 : decode cX7_ring 6 = .ok (.invokevirtual 122, 3) := by decide +kernel
theorem dX7_ring_9 : decode cX7_ring 9 = .ok (.ifCond .eq 11, 3) := by decide +kernel
theorem dX7_ring_12 : decode cX7_ring 12 = .ok (.aload_n 0, 1) := by decide +kernel
theorem dX7_ring_13 : decode cX7_ring 13 = .ok (.iload_n 1, 1) := by decide +kernel
theorem dX7_ring_14 : decode cX7_ring 14 = .ok (.invokevirtual 166, 3) := by decide +kernel
theorem dX7_ring_17 : decode cX7_ring 17 = .ok (.goto 5, 3) := by decide +kernel
theorem dX7_ring_20 : decode cX7_ring 20 = .ok (.ldc 126, 2) := by decide +kernel
theorem dX7_ring_22 : decode cX7_ring 22 = .ok (.ireturn, 1) := by decide +kernel
theorem dX7_day_0 : decode cX7_day 0 = .ok (.iload_n 1, 1) := by decide +kernel
theorem dX7_day_1 : decode cX7_day 1 = .ok (.iconst 1, 1) := by decide +kernel
theorem dX7_day_2 : decode cX7_day 2 = .ok (.if_icmp .lt 9, 3) := by decide +kernel
theorem dX7_day_5 : decode cX7_day 5 = .ok (.iload_n 1, 1) := by decide +kernel
theorem dX7_day_6 : decode cX7_day 6 = .ok (.bipush 99, 2) := by decide +kernel
theorem dX7_day_8 : decode cX7_day 8 = .ok (.if_icmp .le 6, 3) := by decide +kernel
theorem dX7_day_11 : decode cX7_day 11 = .ok (.ldc 75, 2) := by decide +kernel
theorem dX7_day_13 : decode cX7_day 13 = .ok (.ireturn, 1) := by decide +kernel
theorem dX7_day_14 : decode cX7_day 14 = .ok (.aload_n 0, 1) := by decide +kernel
theorem dX7_day_15 : decode cX7_day 15 = .ok (.getfield 26, 3) := by decide +kernel
theorem dX7_day_18 : decode cX7_day 18 = .ok (.dup, 1) := by decide +kernel
theorem dX7_day_19 : decode cX7_day 19 = .ok (.getfield 113, 3) := by decide +kernel
theorem dX7_day_22 : decode cX7_day 22 = .ok (.iload_n 1, 1) := by decide +kernel
theorem dX7_day_23 : decode cX7_day 23 = .ok (.iadd, 1) := by decide +kernel
theorem dX7_day_24 : decode cX7_day 24 = .ok (.putfield 113, 3) := by decide +kernel
theorem dX7_day_27 : decode cX7_day 27 = .ok (.aload_n 0, 1) := by decide +kernel
theorem dX7_day_28 : decode cX7_day 28 = .ok (.getfield 26, 3) := by decide +kernel
theorem dX7_day_31 : decode cX7_day 31 = .ok (.getfield 113, 3) := by decide +kernel
theorem dX7_day_34 : decode cX7_day 34 = .ok (.ireturn, 1) := by decide +kernel
theorem dX7_drift_0 : decode cX7_drift 0 = .ok (.iload_n 1, 1) := by decide +kernel
theorem dX7_drift_1 : decode cX7_drift 1 = .ok (.iconst 1, 1) := by decide +kernel
theorem dX7_drift_2 : decode cX7_drift 2 = .ok (.if_icmp .lt 9, 3) := by decide +kernel
theorem dX7_drift_5 : decode cX7_drift 5 = .ok (.iload_n 1, 1) := by decide +kernel
theorem dX7_drift_6 : decode cX7_drift 6 = .ok (.bipush 99, 2) := by decide +kernel
theorem dX7_drift_8 : decode cX7_drift 8 = .ok (.if_icmp .le 6, 3) := by decide +kernel
theorem dX7_drift_11 : decode cX7_drift 11 = .ok (.ldc 75, 2) := by decide +kernel
theorem dX7_drift_13 : decode cX7_drift 13 = .ok (.ireturn, 1) := by decide +kernel
theorem dX7_drift_14 : decode cX7_drift 14 = .ok (.aload_n 0, 1) := by decide +kernel
theorem dX7_drift_15 : decode cX7_drift 15 = .ok (.getfield 10, 3) := by decide +kernel
theorem dX7_drift_18 : decode cX7_drift 18 = .ok (.iconst 3, 1) := by decide +kernel
theorem dX7_drift_19 : decode cX7_drift 19 = .ok (.invokevirtual 103, 3) := by decide +kernel
theorem dX7_drift_22 : decode cX7_drift 22 = .ok (.ifCond .eq 14, 3) := by decide +kernel
theorem dX7_drift_25 : decode cX7_drift 25 = .ok (.aload_n 0, 1) := by decide +kernel
theorem dX7_drift_26 : decode cX7_drift 26 = .ok (.getfield 10, 3) := by decide +kernel
theorem dX7_drift_29 : decode cX7_drift 29 = .ok (.iconst 2, 1) := by decide +kernel
theorem dX7_drift_30 : decode cX7_drift 30 = .ok (.invokevirtual 103, 3) := by decide +kernel
theorem dX7_drift_33 : decode cX7_drift 33 = .ok (.ifCond .ne 6, 3) := by decide +kernel
theorem dX7_drift_36 : decode cX7_drift 36 = .ok (.ldc 165, 2) := by decide +kernel
theorem dX7_drift_38 : decode cX7_drift 38 = .ok (.ireturn, 1) := by decide +kernel
theorem dX7_drift_39 : decode cX7_drift 39 = .ok (.iconst 0, 1) := by decide +kernel
theorem dX7_drift_40 : decode cX7_drift 40 = .ok (.istore_n 2, 1) := by decide +kernel
theorem dX7_drift_41 : decode cX7_drift 41 = .ok (.iconst 0, 1) := by decide +kernel
theorem dX7_drift_42 : decode cX7_drift 42 = .ok (.istore_n 3, 1) := by decide +kernel
theorem dX7_drift_43 : decode cX7_drift 43 = .ok (.iload_n 3, 1) := by decide +kernel
theorem dX7_drift_44 : decode cX7_drift 44 = .ok (.iload_n 1, 1) := by decide +kernel
theorem dX7_drift_45 : decode cX7_drift 45 = .ok (.if_icmp .ge 16, 3) := by decide +kernel
theorem dX7_drift_48 : decode cX7_drift 48 = .ok (.iload_n 2, 1) := by decide +kernel
theorem dX7_drift_49 : decode cX7_drift 49 = .ok (.aload_n 0, 1) := by decide +kernel
theorem dX7_drift_50 : decode cX7_drift 50 = .ok (.invokevirtual 169, 3) := by decide +kernel
theorem dX7_drift_53 : decode cX7_drift 53 = .ok (.iadd, 1) := by decide +kernel
theorem dX7_drift_54 : decode cX7_drift 54 = .ok (.istore_n 2, 1) := by decide +kernel
theorem dX7_drift_55 : decode cX7_drift 55 = .ok (.iinc 3 1, 3) := by decide +kernel
theorem dX7_drift_58 : decode cX7_drift 58 = .ok (.goto (-15), 3) := by decide +kernel
theorem dX7_drift_61 : decode cX7_drift 61 = .ok (.iload_n 2, 1) := by decide +kernel
theorem dX7_drift_62 : decode cX7_drift 62 = .ok (.ireturn, 1) := by decide +kernel
theorem dX7_standing_0 : decode cX7_standing 0 = .ok (.aload_n 0, 1) := by decide +kernel
theorem dX7_standing_1 : decode cX7_standing 1 = .ok (.getfield 10, 3) := by decide +kernel
theorem dX7_standing_4 : decode cX7_standing 4 = .ok (.iconst 1, 1) := by decide +kernel
theorem dX7_standing_5 : decode cX7_standing 5 = .ok (.iload_n 1, 1) := by decide +kernel
theorem dX7_standing_6 : decode cX7_standing 6 = .ok (.invokevirtual 122, 3) := by decide +kernel
theorem dX7_standing_9 : decode cX7_standing 9 = .ok (.ifCond .eq 37, 3) := by decide +kernel
theorem dX7_standing_12 : decode cX7_standing 12 = .ok (.iload_n 2, 1) := by decide +kernel
theorem dX7_standing_13 : decode cX7_standing 13 = .ok (.iconst (-1), 1) := by decide +kernel
theorem dX7_standing_14 : decode cX7_standing 14 = .ok (.if_icmp .eq 15, 3) := by decide +kernel
theorem dX7_standing_17 : decode cX7_standing 17 = .ok (.aload_n 0, 1) := by decide +kernel
theorem dX7_standing_18 : decode cX7_standing 18 = .ok (.getfield 10, 3) := by decide +kernel
theorem dX7_standing_21 : decode cX7_standing 21 = .ok (.iconst 3, 1) := by decide +kernel
theorem dX7_standing_22 : decode cX7_standing 22 = .ok (.iload_n 2, 1) := by decide +kernel
theorem dX7_standing_23 : decode cX7_standing 23 = .ok (.invokevirtual 122, 3) := by decide +kernel
theorem dX7_standing_26 : decode cX7_standing 26 = .ok (.ifCond .eq 20, 3) := by decide +kernel
theorem dX7_standing_29 : decode cX7_standing 29 = .ok (.iload_n 3, 1) := by decide +kernel
theorem dX7_standing_30 : decode cX7_standing 30 = .ok (.iconst (-1), 1) := by decide +kernel
theorem dX7_standing_31 : decode cX7_standing 31 = .ok (.if_icmp .eq 18, 3) := by decide +kernel
theorem dX7_standing_34 : decode cX7_standing 34 = .ok (.aload_n 0, 1) := by decide +kernel
theorem dX7_standing_35 : decode cX7_standing 35 = .ok (.getfield 10, 3) := by decide +kernel
theorem dX7_standing_38 : decode cX7_standing 38 = .ok (.iconst 2, 1) := by decide +kernel
theorem dX7_standing_39 : decode cX7_standing 39 = .ok (.iload_n 3, 1) := by decide +kernel
theorem dX7_standing_40 : decode cX7_standing 40 = .ok (.invokevirtual 122, 3) := by decide +kernel
theorem dX7_standing_43 : decode cX7_standing 43 = .ok (.ifCond .ne 6, 3) := by decide +kernel
theorem dX7_standing_46 : decode cX7_standing 46 = .ok (.ldc 126, 2) := by decide +kernel
theorem dX7_standing_48 : decode cX7_standing 48 = .ok (.ireturn, 1) := by decide +kernel
theorem dX7_standing_49 : decode cX7_standing 49 = .ok (.aload_n 0, 1) := by decide +kernel
theorem dX7_standing_50 : decode cX7_standing 50 = .ok (.getfield 55, 3) := by decide +kernel
theorem dX7_standing_53 : decode cX7_standing 53 = .ok (.aload_n 0, 1) := by decide +kernel
theorem dX7_standing_54 : decode cX7_standing 54 = .ok (.getfield 26, 3) := by decide +kernel
theorem dX7_standing_57 : decode cX7_standing 57 = .ok (.iconst 1, 1) := by decide +kernel
theorem dX7_standing_58 : decode cX7_standing 58 = .ok (.invokevirtual 172, 3) := by decide +kernel
theorem dX7_standing_61 : decode cX7_standing 61 = .ok (.aload_n 0, 1) := by decide +kernel
theorem dX7_standing_62 : decode cX7_standing 62 = .ok (.getfield 55, 3) := by decide +kernel
theorem dX7_standing_65 : decode cX7_standing 65 = .ok (.aload_n 0, 1) := by decide +kernel
theorem dX7_standing_66 : decode cX7_standing 66 = .ok (.getfield 10, 3) := by decide +kernel
theorem dX7_standing_69 : decode cX7_standing 69 = .ok (.iload_n 1, 1) := by decide +kernel
theorem dX7_standing_70 : decode cX7_standing 70 = .ok (.aload_n 0, 1) := by decide +kernel
theorem dX7_standing_71 : decode cX7_standing 71 = .ok (.getfield 26, 3) := by decide +kernel
theorem dX7_standing_74 : decode cX7_standing 74 = .ok (.getfield 113, 3) := by decide +kernel
theorem dX7_standing_77 : decode cX7_standing 77 = .ok (.invokevirtual 128, 3) := by decide +kernel
theorem dX7_standing_80 : decode cX7_standing 80 = .ok (.aload_n 0, 1) := by decide +kernel
theorem dX7_standing_81 : decode cX7_standing 81 = .ok (.getfield 26, 3) := by decide +kernel
theorem dX7_standing_84 : decode cX7_standing 84 = .ok (.getfield 116, 3) := by decide +kernel
theorem dX7_standing_87 : decode cX7_standing 87 = .ok (.invokevirtual 176, 3) := by decide +kernel
theorem dX7_standing_90 : decode cX7_standing 90 = .ok (.aload_n 0, 1) := by decide +kernel
theorem dX7_standing_91 : decode cX7_standing 91 = .ok (.getfield 64, 3) := by decide +kernel
theorem dX7_standing_94 : decode cX7_standing 94 = .ok (.iload_n 2, 1) := by decide +kernel
theorem dX7_standing_95 : decode cX7_standing 95 = .ok (.invokevirtual 179, 3) := by decide +kernel
theorem dX7_standing_98 : decode cX7_standing 98 = .ok (.iload_n 3, 1) := by decide +kernel
theorem dX7_standing_99 : decode cX7_standing 99 = .ok (.iconst (-1), 1) := by decide +kernel
theorem dX7_standing_100 : decode cX7_standing 100 = .ok (.if_icmp .ne 13, 3) := by decide +kernel
theorem dX7_standing_103 : decode cX7_standing 103 = .ok (.aload_n 0, 1) := by decide +kernel
theorem dX7_standing_104 : decode cX7_standing 104 = .ok (.getfield 64, 3) := by decide +kernel
theorem dX7_standing_107 : decode cX7_standing 107 = .ok (.getfield 182, 3) := by decide +kernel
theorem dX7_standing_110 : decode cX7_standing 110 = .ok (.goto 12, 3) := by decide +kernel
theorem dX7_standing_113 : decode cX7_standing 113 = .ok (.aload_n 0, 1) := by decide +kernel
theorem dX7_standing_114 : decode cX7_standing 114 = .ok (.getfield 64, 3) := by decide +kernel
theorem dX7_standing_117 : decode cX7_standing 117 = .ok (.getfield 185, 3) := by decide +kernel
theorem dX7_standing_120 : decode cX7_standing 120 = .ok (.iload_n 3, 1) := by decide +kernel
theorem dX7_standing_121 : decode cX7_standing 121 = .ok (.iaload, 1) := by decide +kernel
theorem dX7_standing_122 : decode cX7_standing 122 = .ok (.ireturn, 1) := by decide +kernel
theorem dX7_hats_0 : decode cX7_hats 0 = .ok (.aload_n 0, 1) := by decide +kernel
theorem dX7_hats_1 : decode cX7_hats 1 = .ok (.getfield 10, 3) := by decide +kernel
theorem dX7_hats_4 : decode cX7_hats 4 = .ok (.iconst 1, 1) := by decide +kernel
theorem dX7_hats_5 : decode cX7_hats 5 = .ok (.iload_n 1, 1) := by decide +kernel
theorem dX7_hats_6 : decode cX7_hats 6 = .ok (.invokevirtual 122, 3) := by decide +kernel
theorem dX7_hats_9 : decode cX7_hats 9 = .ok (.ifCond .eq 20, 3) := by decide +kernel
theorem dX7_hats_12 : decode cX7_hats 12 = .ok (.iload_n 2, 1) := by decide +kernel
theorem dX7_hats_13 : decode cX7_hats 13 = .ok (.iconst (-1), 1) := by decide +kernel
theorem dX7_hats_14 : decode cX7_hats 14 = .ok (.if_icmp .eq 18, 3) := by decide +kernel
theorem dX7_hats_17 : decode cX7_hats 17 = .ok (.aload_n 0, 1) := by decide +kernel
theorem dX7_hats_18 : decode cX7_hats 18 = .ok (.getfield 10, 3) := by decide +kernel
theorem dX7_hats_21 : decode cX7_hats 21 = .ok (.iconst 4, 1) := by decide +kernel
theorem dX7_hats_22 : decode cX7_hats 22 = .ok (.iload_n 2, 1) := by decide +kernel
theorem dX7_hats_23 : decode cX7_hats 23 = .ok (.invokevirtual 122, 3) := by decide +kernel
theorem dX7_hats_26 : decode cX7_hats 26 = .ok (.ifCond .ne 6, 3) := by decide +kernel
theorem dX7_hats_29 : decode cX7_hats 29 = .ok (.ldc 126, 2) := by decide +kernel
theorem dX7_hats_31 : decode cX7_hats 31 = .ok (.ireturn, 1) := by decide +kernel
theorem dX7_hats_32 : decode cX7_hats 32 = .ok (.aload_n 0, 1) := by decide +kernel
theorem dX7_hats_33 : decode cX7_hats 33 = .ok (.getfield 55, 3) := by decide +kernel
theorem dX7_hats_36 : decode cX7_hats 36 = .ok (.aload_n 0, 1) := by decide +kernel
theorem dX7_hats_37 : decode cX7_hats 37 = .ok (.getfield 26, 3) := by decide +kernel
theorem dX7_hats_40 : decode cX7_hats 40 = .ok (.iconst 0, 1) := by decide +kernel
theorem dX7_hats_41 : decode cX7_hats 41 = .ok (.invokevirtual 172, 3) := by decide +kernel
theorem dX7_hats_44 : decode cX7_hats 44 = .ok (.aload_n 0, 1) := by decide +kernel
theorem dX7_hats_45 : decode cX7_hats 45 = .ok (.getfield 55, 3) := by decide +kernel
theorem dX7_hats_48 : decode cX7_hats 48 = .ok (.aload_n 0, 1) := by decide +kernel
theorem dX7_hats_49 : decode cX7_hats 49 = .ok (.getfield 10, 3) := by decide +kernel
theorem dX7_hats_52 : decode cX7_hats 52 = .ok (.iload_n 1, 1) := by decide +kernel
theorem dX7_hats_53 : decode cX7_hats 53 = .ok (.aload_n 0, 1) := by decide +kernel
theorem dX7_hats_54 : decode cX7_hats 54 = .ok (.getfield 26, 3) := by decide +kernel
theorem dX7_hats_57 : decode cX7_hats 57 = .ok (.getfield 113, 3) := by decide +kernel
theorem dX7_hats_60 : decode cX7_hats 60 = .ok (.invokevirtual 128, 3) := by decide +kernel
theorem dX7_hats_63 : decode cX7_hats 63 = .ok (.aload_n 0, 1) := by decide +kernel
theorem dX7_hats_64 : decode cX7_hats 64 = .ok (.getfield 26, 3) := by decide +kernel
theorem dX7_hats_67 : decode cX7_hats 67 = .ok (.getfield 116, 3) := by decide +kernel
theorem dX7_hats_70 : decode cX7_hats 70 = .ok (.invokevirtual 176, 3) := by decide +kernel
theorem dX7_hats_73 : decode cX7_hats 73 = .ok (.aload_n 0, 1) := by decide +kernel
theorem dX7_hats_74 : decode cX7_hats 74 = .ok (.getfield 71, 3) := by decide +kernel
theorem dX7_hats_77 : decode cX7_hats 77 = .ok (.invokevirtual 188, 3) := by decide +kernel
theorem dX7_hats_80 : decode cX7_hats 80 = .ok (.iload_n 2, 1) := by decide +kernel
theorem dX7_hats_81 : decode cX7_hats 81 = .ok (.iconst (-1), 1) := by decide +kernel
theorem dX7_hats_82 : decode cX7_hats 82 = .ok (.if_icmp .ne 13, 3) := by decide +kernel
theorem dX7_hats_85 : decode cX7_hats 85 = .ok (.aload_n 0, 1) := by decide +kernel
theorem dX7_hats_86 : decode cX7_hats 86 = .ok (.getfield 71, 3) := by decide +kernel
theorem dX7_hats_89 : decode cX7_hats 89 = .ok (.getfield 190, 3) := by decide +kernel
theorem dX7_hats_92 : decode cX7_hats 92 = .ok (.goto 12, 3) := by decide +kernel
theorem dX7_hats_95 : decode cX7_hats 95 = .ok (.aload_n 0, 1) := by decide +kernel
theorem dX7_hats_96 : decode cX7_hats 96 = .ok (.getfield 71, 3) := by decide +kernel
theorem dX7_hats_99 : decode cX7_hats 99 = .ok (.getfield 191, 3) := by decide +kernel
theorem dX7_hats_102 : decode cX7_hats 102 = .ok (.iload_n 2, 1) := by decide +kernel
theorem dX7_hats_103 : decode cX7_hats 103 = .ok (.iaload, 1) := by decide +kernel
theorem dX7_hats_104 : decode cX7_hats 104 = .ok (.ireturn, 1) := by decide +kernel
theorem dX7_giant_0 : decode cX7_giant 0 = .ok (.aload_n 0, 1) := by decide +kernel
theorem dX7_giant_1 : decode cX7_giant 1 = .ok (.getfield 10, 3) := by decide +kernel
theorem dX7_giant_4 : decode cX7_giant 4 = .ok (.iconst 1, 1) := by decide +kernel
theorem dX7_giant_5 : decode cX7_giant 5 = .ok (.iload_n 1, 1) := by decide +kernel
theorem dX7_giant_6 : decode cX7_giant 6 = .ok (.invokevirtual 122, 3) := by decide +kernel
theorem dX7_giant_9 : decode cX7_giant 9 = .ok (.ifCond .ne 6, 3) := by decide +kernel
theorem dX7_giant_12 : decode cX7_giant 12 = .ok (.ldc 126, 2) := by decide +kernel
theorem dX7_giant_14 : decode cX7_giant 14 = .ok (.ireturn, 1) := by decide +kernel
theorem dX7_giant_15 : decode cX7_giant 15 = .ok (.iload_n 2, 1) := by decide +kernel
theorem dX7_giant_16 : decode cX7_giant 16 = .ok (.iconst 1, 1) := by decide +kernel
theorem dX7_giant_17 : decode cX7_giant 17 = .ok (.if_icmp .lt 32, 3) := by decide +kernel
theorem dX7_giant_20 : decode cX7_giant 20 = .ok (.iload_n 2, 1) := by decide +kernel
theorem dX7_giant_21 : decode cX7_giant 21 = .ok (.sipush 200, 3) := by decide +kernel
theorem dX7_giant_24 : decode cX7_giant 24 = .ok (.if_icmp .gt 25, 3) := by decide +kernel
theorem dX7_giant_27 : decode cX7_giant 27 = .ok (.iload_n 3, 1) := by decide +kernel
theorem dX7_giant_28 : decode cX7_giant 28 = .ok (.ifCond .lt 21, 3) := by decide +kernel
theorem dX7_giant_31 : decode cX7_giant 31 = .ok (.iload_n 3, 1) := by decide +kernel
theorem dX7_giant_32 : decode cX7_giant 32 = .ok (.sipush 999, 3) := by decide +kernel
theorem dX7_giant_35 : decode cX7_giant 35 = .ok (.if_icmp .gt 14, 3) := by decide +kernel
theorem dX7_giant_38 : decode cX7_giant 38 = .ok (.iload 4, 2) := by decide +kernel
theorem dX7_giant_40 : decode cX7_giant 40 = .ok (.ifCond .lt 9, 3) := by decide +kernel
theorem dX7_giant_43 : decode cX7_giant 43 = .ok (.iload 4, 2) := by decide +kernel
theorem dX7_giant_45 : decode cX7_giant 45 = .ok (.iconst 1, 1) := by decide +kernel
theorem dX7_giant_46 : decode cX7_giant 46 = .ok (.if_icmp .le 6, 3) := by decide +kernel
theorem dX7_giant_49 : decode cX7_giant 49 = .ok (.ldc 75, 2) := by decide +kernel
theorem dX7_giant_51 : decode cX7_giant 51 = .ok (.ireturn, 1) := by decide +kernel
theorem dX7_giant_52 : decode cX7_giant 52 = .ok (.aload_n 0, 1) := by decide +kernel
theorem dX7_giant_53 : decode cX7_giant 53 = .ok (.iload_n 1, 1) := by decide +kernel
theorem dX7_giant_54 : decode cX7_giant 54 = .ok (.aload_n 0, 1) := by decide +kernel
theorem dX7_giant_55 : decode cX7_giant 55 = .ok (.getfield 26, 3) := by decide +kernel
theorem dX7_giant_58 : decode cX7_giant 58 = .ok (.getfield 113, 3) := by decide +kernel
theorem dX7_giant_61 : decode cX7_giant 61 = .ok (.invokevirtual 155, 3) := by decide +kernel
theorem dX7_giant_64 : decode cX7_giant 64 = .ok (.aload_n 0, 1) := by decide +kernel
theorem dX7_giant_65 : decode cX7_giant 65 = .ok (.getfield 55, 3) := by decide +kernel
theorem dX7_giant_68 : decode cX7_giant 68 = .ok (.invokevirtual 192, 3) := by decide +kernel
theorem dX7_giant_71 : decode cX7_giant 71 = .ok (.istore 5, 2) := by decide +kernel
theorem dX7_giant_73 : decode cX7_giant 73 = .ok (.aload_n 0, 1) := by decide +kernel
theorem dX7_giant_74 : decode cX7_giant 74 = .ok (.getfield 55, 3) := by decide +kernel
theorem dX7_giant_77 : decode cX7_giant 77 = .ok (.iload_n 2, 1) := by decide +kernel
theorem dX7_giant_78 : decode cX7_giant 78 = .ok (.invokevirtual 195, 3) := by decide +kernel
theorem dX7_giant_81 : decode cX7_giant 81 = .ok (.istore 6, 2) := by decide +kernel
theorem dX7_giant_83 : decode cX7_giant 83 = .ok (.iconst (-1), 1) := by decide +kernel
theorem dX7_giant_84 : decode cX7_giant 84 = .ok (.istore 7, 2) := by decide +kernel
theorem dX7_giant_86 : decode cX7_giant 86 = .ok (.iconst 0, 1) := by decide +kernel
theorem dX7_giant_87 : decode cX7_giant 87 = .ok (.istore 8, 2) := by decide +kernel
theorem dX7_giant_89 : decode cX7_giant 89 = .ok (.iconst 0, 1) := by decide +kernel
theorem dX7_giant_90 : decode cX7_giant 90 = .ok (.istore 9, 2) := by decide +kernel
theorem dX7_giant_92 : decode cX7_giant 92 = .ok (.iload 9, 2) := by decide +kernel
theorem dX7_giant_94 : decode cX7_giant 94 = .ok (.aload_n 0, 1) := by decide +kernel
theorem dX7_giant_95 : decode cX7_giant 95 = .ok (.getfield 10, 3) := by decide +kernel
theorem dX7_giant_98 : decode cX7_giant 98 = .ok (.iconst 2, 1) := by decide +kernel
theorem dX7_giant_99 : decode cX7_giant 99 = .ok (.invokevirtual 103, 3) := by decide +kernel
theorem dX7_giant_102 : decode cX7_giant 102 = .ok (.if_icmp .ge 88, 3) := by decide +kernel
theorem dX7_giant_105 : decode cX7_giant 105 = .ok (.aload_n 0, 1) := by decide +kernel
theorem dX7_giant_106 : decode cX7_giant 106 = .ok (.getfield 55, 3) := by decide +kernel
theorem dX7_giant_109 : decode cX7_giant 109 = .ok (.getfield 198, 3) := by decide +kernel
theorem dX7_giant_112 : decode cX7_giant 112 = .ok (.iload 9, 2) := by decide +kernel
theorem dX7_giant_114 : decode cX7_giant 114 = .ok (.iaload, 1) := by decide +kernel
theorem dX7_giant_115 : decode cX7_giant 115 = .ok (.iconst (-1), 1) := by decide +kernel
theorem dX7_giant_116 : decode cX7_giant 116 = .ok (.if_icmp .ne 68, 3) := by decide +kernel
theorem dX7_giant_119 : decode cX7_giant 119 = .ok (.aload_n 0, 1) := by decide +kernel
theorem dX7_giant_120 : decode cX7_giant 120 = .ok (.getfield 55, 3) := by decide +kernel
theorem dX7_giant_123 : decode cX7_giant 123 = .ok (.getfield 198, 3) := by decide +kernel
theorem dX7_giant_126 : decode cX7_giant 126 = .ok (.iload 9, 2) := by decide +kernel
theorem dX7_giant_128 : decode cX7_giant 128 = .ok (.iload 6, 2) := by decide +kernel
theorem dX7_giant_130 : decode cX7_giant 130 = .ok (.iastore, 1) := by decide +kernel
theorem dX7_giant_131 : decode cX7_giant 131 = .ok (.aload_n 0, 1) := by decide +kernel
theorem dX7_giant_132 : decode cX7_giant 132 = .ok (.getfield 55, 3) := by decide +kernel
theorem dX7_giant_135 : decode cX7_giant 135 = .ok (.invokevirtual 201, 3) := by decide +kernel
theorem dX7_giant_138 : decode cX7_giant 138 = .ok (.aload_n 0, 1) := by decide +kernel
theorem dX7_giant_139 : decode cX7_giant 139 = .ok (.getfield 55, 3) := by decide +kernel
theorem dX7_giant_142 : decode cX7_giant 142 = .ok (.getfield 198, 3) := by decide +kernel
theorem dX7_giant_145 : decode cX7_giant 145 = .ok (.iload 9, 2) := by decide +kernel
theorem dX7_giant_147 : decode cX7_giant 147 = .ok (.iconst (-1), 1) := by decide +kernel
theorem dX7_giant_148 : decode cX7_giant 148 = .ok (.iastore, 1) := by decide +kernel
theorem dX7_giant_149 : decode cX7_giant 149 = .ok (.aload_n 0, 1) := by decide +kernel
theorem dX7_giant_150 : decode cX7_giant 150 = .ok (.getfield 55, 3) := by decide +kernel
theorem dX7_giant_153 : decode cX7_giant 153 = .ok (.invokevirtual 192, 3) := by decide +kernel
theorem dX7_giant_156 : decode cX7_giant 156 = .ok (.iload 5, 2) := by decide +kernel
theorem dX7_giant_158 : decode cX7_giant 158 = .ok (.isub, 1) := by decide +kernel
theorem dX7_giant_159 : decode cX7_giant 159 = .ok (.iload_n 3, 1) := by decide +kernel
theorem dX7_giant_160 : decode cX7_giant 160 = .ok (.isub, 1) := by decide +kernel
theorem dX7_giant_161 : decode cX7_giant 161 = .ok (.istore 10, 2) := by decide +kernel
theorem dX7_giant_163 : decode cX7_giant 163 = .ok (.iload 7, 2) := by decide +kernel
theorem dX7_giant_165 : decode cX7_giant 165 = .ok (.iconst (-1), 1) := by decide +kernel
theorem dX7_giant_166 : decode cX7_giant 166 = .ok (.if_icmp .eq 10, 3) := by decide +kernel
theorem dX7_giant_169 : decode cX7_giant 169 = .ok (.iload 10, 2) := by decide +kernel
theorem dX7_giant_171 : decode cX7_giant 171 = .ok (.iload 8, 2) := by decide +kernel
theorem dX7_giant_173 : decode cX7_giant 173 = .ok (.if_icmp .le 11, 3) := by decide +kernel
theorem dX7_giant_176 : decode cX7_giant 176 = .ok (.iload 9, 2) := by decide +kernel
theorem dX7_giant_178 : decode cX7_giant 178 = .ok (.istore 7, 2) := by decide +kernel
theorem dX7_giant_180 : decode cX7_giant 180 = .ok (.iload 10, 2) := by decide +kernel
theorem dX7_giant_182 : decode cX7_giant 182 = .ok (.istore 8, 2) := by decide +kernel
theorem dX7_giant_184 : decode cX7_giant 184 = .ok (.iinc 9 1, 3) := by decide +kernel
theorem dX7_giant_187 : decode cX7_giant 187 = .ok (.goto (-95), 3) := by decide +kernel
theorem dX7_giant_190 : decode cX7_giant 190 = .ok (.iload 4, 2) := by decide +kernel
theorem dX7_giant_192 : decode cX7_giant 192 = .ok (.ifCond .ne 8, 3) := by decide +kernel
theorem dX7_giant_195 : decode cX7_giant 195 = .ok (.iload 7, 2) := by decide +kernel
theorem dX7_giant_197 : decode cX7_giant 197 = .ok (.goto 5, 3) := by decide +kernel
theorem dX7_giant_200 : decode cX7_giant 200 = .ok (.iload 8, 2) := by decide +kernel
theorem dX7_giant_202 : decode cX7_giant 202 = .ok (.ireturn, 1) := by decide +kernel
theorem dX7_peace_0 : decode cX7_peace 0 = .ok (.aload_n 0, 1) := by decide +kernel
theorem dX7_peace_1 : decode cX7_peace 1 = .ok (.getfield 10, 3) := by decide +kernel
theorem dX7_peace_4 : decode cX7_peace 4 = .ok (.iconst 1, 1) := by decide +kernel
theorem dX7_peace_5 : decode cX7_peace 5 = .ok (.iload_n 1, 1) := by decide +kernel
theorem dX7_peace_6 : decode cX7_peace 6 = .ok (.invokevirtual 122, 3) := by decide +kernel
theorem dX7_peace_9 : decode cX7_peace 9 = .ok (.ifCond .ne 6, 3) := by decide +kernel
theorem dX7_peace_12 : decode cX7_peace 12 = .ok (.ldc 126, 2) := by decide +kernel
theorem dX7_peace_14 : decode cX7_peace 14 = .ok (.ireturn, 1) := by decide +kernel
theorem dX7_peace_15 : decode cX7_peace 15 = .ok (.iload_n 2, 1) := by decide +kernel
theorem dX7_peace_16 : decode cX7_peace 16 = .ok (.ifCond .lt 10, 3) := by decide +kernel
theorem dX7_peace_19 : decode cX7_peace 19 = .ok (.iload_n 2, 1) := by decide +kernel
theorem dX7_peace_20 : decode cX7_peace 20 = .ok (.sipush 999, 3) := by decide +kernel
theorem dX7_peace_23 : decode cX7_peace 23 = .ok (.if_icmp .le 6, 3) := by decide +kernel
theorem dX7_peace_26 : decode cX7_peace 26 = .ok (.ldc 75, 2) := by decide +kernel
theorem dX7_peace_28 : decode cX7_peace 28 = .ok (.ireturn, 1) := by decide +kernel
theorem dX7_peace_29 : decode cX7_peace 29 = .ok (.aload_n 0, 1) := by decide +kernel
theorem dX7_peace_30 : decode cX7_peace 30 = .ok (.iload_n 1, 1) := by decide +kernel
theorem dX7_peace_31 : decode cX7_peace 31 = .ok (.aload_n 0, 1) := by decide +kernel
theorem dX7_peace_32 : decode cX7_peace 32 = .ok (.getfield 26, 3) := by decide +kernel
theorem dX7_peace_35 : decode cX7_peace 35 = .ok (.getfield 113, 3) := by decide +kernel
theorem dX7_peace_38 : decode cX7_peace 38 = .ok (.invokevirtual 155, 3) := by decide +kernel
theorem dX7_peace_41 : decode cX7_peace 41 = .ok (.aload_n 0, 1) := by decide +kernel
theorem dX7_peace_42 : decode cX7_peace 42 = .ok (.getfield 55, 3) := by decide +kernel
theorem dX7_peace_45 : decode cX7_peace 45 = .ok (.iload_n 2, 1) := by decide +kernel
theorem dX7_peace_46 : decode cX7_peace 46 = .ok (.invokevirtual 204, 3) := by decide +kernel
theorem dX7_peace_49 : decode cX7_peace 49 = .ok (.ireturn, 1) := by decide +kernel
theorem dX7_bread_0 : decode cX7_bread 0 = .ok (.aload_n 0, 1) := by decide +kernel
theorem dX7_bread_1 : decode cX7_bread 1 = .ok (.getfield 10, 3) := by decide +kernel
theorem dX7_bread_4 : decode cX7_bread 4 = .ok (.iconst 1, 1) := by decide +kernel
theorem dX7_bread_5 : decode cX7_bread 5 = .ok (.iload_n 1, 1) := by decide +kernel
theorem dX7_bread_6 : decode cX7_bread 6 = .ok (.invokevirtual 122, 3) := by decide +kernel
theorem dX7_bread_9 : decode cX7_bread 9 = .ok (.ifCond .ne 6, 3) := by decide +kernel
theorem dX7_bread_12 : decode cX7_bread 12 = .ok (.ldc 126, 2) := by decide +kernel
theorem dX7_bread_14 : decode cX7_bread 14 = .ok (.ireturn, 1) := by decide +kernel
theorem dX7_bread_15 : decode cX7_bread 15 = .ok (.iload_n 2, 1) := by decide +kernel
theorem dX7_bread_16 : decode cX7_bread 16 = .ok (.ifCond .lt 10, 3) := by decide +kernel
theorem dX7_bread_19 : decode cX7_bread 19 = .ok (.iload_n 2, 1) := by decide +kernel
theorem dX7_bread_20 : decode cX7_bread 20 = .ok (.sipush 9999, 3) := by decide +kernel
theorem dX7_bread_23 : decode cX7_bread 23 = .ok (.if_icmp .le 6, 3) := by decide +kernel
theorem dX7_bread_26 : decode cX7_bread 26 = .ok (.ldc 75, 2) := by decide +kernel
theorem dX7_bread_28 : decode cX7_bread 28 = .ok (.ireturn, 1) := by decide +kernel
theorem dX7_bread_29 : decode cX7_bread 29 = .ok (.aload_n 0, 1) := by decide +kernel
theorem dX7_bread_30 : decode cX7_bread 30 = .ok (.iload_n 1, 1) := by decide +kernel
theorem dX7_bread_31 : decode cX7_bread 31 = .ok (.aload_n 0, 1) := by decide +kernel
theorem dX7_bread_32 : decode cX7_bread 32 = .ok (.getfield 26, 3) := by decide +kernel
theorem dX7_bread_35 : decode cX7_bread 35 = .ok (.getfield 113, 3) := by decide +kernel
theorem dX7_bread_38 : decode cX7_bread 38 = .ok (.invokevirtual 155, 3) := by decide +kernel
theorem dX7_bread_41 : decode cX7_bread 41 = .ok (.iconst (-1), 1) := by decide +kernel
theorem dX7_bread_42 : decode cX7_bread 42 = .ok (.istore_n 3, 1) := by decide +kernel
theorem dX7_bread_43 : decode cX7_bread 43 = .ok (.iconst 0, 1) := by decide +kernel
theorem dX7_bread_44 : decode cX7_bread 44 = .ok (.istore 4, 2) := by decide +kernel
theorem dX7_bread_46 : decode cX7_bread 46 = .ok (.iload 4, 2) := by decide +kernel
theorem dX7_bread_48 : decode cX7_bread 48 = .ok (.sipush 999, 3) := by decide +kernel
theorem dX7_bread_51 : decode cX7_bread 51 = .ok (.if_icmp .gt 25, 3) := by decide +kernel
theorem dX7_bread_54 : decode cX7_bread 54 = .ok (.aload_n 0, 1) := by decide +kernel
theorem dX7_bread_55 : decode cX7_bread 55 = .ok (.getfield 55, 3) := by decide +kernel
theorem dX7_bread_58 : decode cX7_bread 58 = .ok (.iload 4, 2) := by decide +kernel
theorem dX7_bread_60 : decode cX7_bread 60 = .ok (.invokevirtual 204, 3) := by decide +kernel
theorem dX7_bread_63 : decode cX7_bread 63 = .ok (.iload_n 2, 1) := by decide +kernel
theorem dX7_bread_64 : decode cX7_bread 64 = .ok (.if_icmp .gt 12, 3) := by decide +kernel
theorem dX7_bread_67 : decode cX7_bread 67 = .ok (.iload 4, 2) := by decide +kernel
theorem dX7_bread_69 : decode cX7_bread 69 = .ok (.istore_n 3, 1) := by decide +kernel
theorem dX7_bread_70 : decode cX7_bread 70 = .ok (.iinc 4 1, 3) := by decide +kernel
theorem dX7_bread_73 : decode cX7_bread 73 = .ok (.goto (-27), 3) := by decide +kernel
theorem dX7_bread_76 : decode cX7_bread 76 = .ok (.iload_n 3, 1) := by decide +kernel
theorem dX7_bread_77 : decode cX7_bread 77 = .ok (.ireturn, 1) := by decide +kernel
theorem dX7_best_0 : decode cX7_best 0 = .ok (.aload_n 0, 1) := by decide +kernel
theorem dX7_best_1 : decode cX7_best 1 = .ok (.getfield 10, 3) := by decide +kernel
theorem dX7_best_4 : decode cX7_best 4 = .ok (.iconst 3, 1) := by decide +kernel
theorem dX7_best_5 : decode cX7_best 5 = .ok (.iload_n 1, 1) := by decide +kernel
theorem dX7_best_6 : decode cX7_best 6 = .ok (.invokevirtual 122, 3) := by decide +kernel
theorem dX7_best_9 : decode cX7_best 9 = .ok (.ifCond .ne 6, 3) := by decide +kernel
theorem dX7_best_12 : decode cX7_best 12 = .ok (.ldc 126, 2) := by decide +kernel
theorem dX7_best_14 : decode cX7_best 14 = .ok (.ireturn, 1) := by decide +kernel
theorem dX7_best_15 : decode cX7_best 15 = .ok (.iload_n 2, 1) := by decide +kernel
theorem dX7_best_16 : decode cX7_best 16 = .ok (.ifCond .lt 8, 3) := by decide +kernel
theorem dX7_best_19 : decode cX7_best 19 = .ok (.iload_n 2, 1) := by decide +kernel
theorem dX7_best_20 : decode cX7_best 20 = .ok (.iconst 1, 1) := by decide +kernel
theorem dX7_best_21 : decode cX7_best 21 = .ok (.if_icmp .le 6, 3) := by decide +kernel
theorem dX7_best_24 : decode cX7_best 24 = .ok (.ldc 75, 2) := by decide +kernel
theorem dX7_best_26 : decode cX7_best 26 = .ok (.ireturn, 1) := by decide +kernel
theorem dX7_best_27 : decode cX7_best 27 = .ok (.iconst 0, 1) := by decide +kernel
theorem dX7_best_28 : decode cX7_best 28 = .ok (.istore_n 3, 1) := by decide +kernel
theorem dX7_best_29 : decode cX7_best 29 = .ok (.aload_n 0, 1) := by decide +kernel
theorem dX7_best_30 : decode cX7_best 30 = .ok (.iload_n 1, 1) := by decide +kernel
theorem dX7_best_31 : decode cX7_best 31 = .ok (.iconst 0, 1) := by decide +kernel
theorem dX7_best_32 : decode cX7_best 32 = .ok (.invokevirtual 207, 3) := by decide +kernel
theorem dX7_best_35 : decode cX7_best 35 = .ok (.istore 4, 2) := by decide +kernel
theorem dX7_best_37 : decode cX7_best 37 = .ok (.iconst 1, 1) := by decide +kernel
theorem dX7_best_38 : decode cX7_best 38 = .ok (.istore 5, 2) := by decide +kernel
theorem dX7_best_40 : decode cX7_best 40 = .ok (.iload 5, 2) := by decide +kernel
theorem dX7_best_42 : decode cX7_best 42 = .ok (.aload_n 0, 1) := by decide +kernel
theorem dX7_best_43 : decode cX7_best 43 = .ok (.getfield 10, 3) := by decide +kernel
theorem dX7_best_46 : decode cX7_best 46 = .ok (.invokevirtual 109, 3) := by decide +kernel
theorem dX7_best_49 : decode cX7_best 49 = .ok (.if_icmp .ge 32, 3) := by decide +kernel
theorem dX7_best_52 : decode cX7_best 52 = .ok (.aload_n 0, 1) := by decide +kernel
theorem dX7_best_53 : decode cX7_best 53 = .ok (.iload_n 1, 1) := by decide +kernel
theorem dX7_best_54 : decode cX7_best 54 = .ok (.iload 5, 2) := by decide +kernel
theorem dX7_best_56 : decode cX7_best 56 = .ok (.invokevirtual 207, 3) := by decide +kernel
theorem dX7_best_59 : decode cX7_best 59 = .ok (.istore 6, 2) := by decide +kernel
theorem dX7_best_61 : decode cX7_best 61 = .ok (.iload 6, 2) := by decide +kernel
theorem dX7_best_63 : decode cX7_best 63 = .ok (.iload 4, 2) := by decide +kernel
theorem dX7_best_65 : decode cX7_best 65 = .ok (.if_icmp .le 10, 3) := by decide +kernel
theorem dX7_best_68 : decode cX7_best 68 = .ok (.iload 5, 2) := by decide +kernel
theorem dX7_best_70 : decode cX7_best 70 = .ok (.istore_n 3, 1) := by decide +kernel
theorem dX7_best_71 : decode cX7_best 71 = .ok (.iload 6, 2) := by decide +kernel
theorem dX7_best_73 : decode cX7_best 73 = .ok (.istore 4, 2) := by decide +kernel
theorem dX7_best_75 : decode cX7_best 75 = .ok (.iinc 5 1, 3) := by decide +kernel
theorem dX7_best_78 : decode cX7_best 78 = .ok (.goto (-38), 3) := by decide +kernel
theorem dX7_best_81 : decode cX7_best 81 = .ok (.iload_n 2, 1) := by decide +kernel
theorem dX7_best_82 : decode cX7_best 82 = .ok (.ifCond .ne 7, 3) := by decide +kernel
theorem dX7_best_85 : decode cX7_best 85 = .ok (.iload_n 3, 1) := by decide +kernel
theorem dX7_best_86 : decode cX7_best 86 = .ok (.goto 5, 3) := by decide +kernel
theorem dX7_best_89 : decode cX7_best 89 = .ok (.iload 4, 2) := by decide +kernel
theorem dX7_best_91 : decode cX7_best 91 = .ok (.ireturn, 1) := by decide +kernel
theorem dX7_tell_0 : decode cX7_tell 0 = .ok (.aload_n 0, 1) := by decide +kernel
theorem dX7_tell_1 : decode cX7_tell 1 = .ok (.getfield 10, 3) := by decide +kernel
theorem dX7_tell_4 : decode cX7_tell 4 = .ok (.iconst 1, 1) := by decide +kernel
theorem dX7_tell_5 : decode cX7_tell 5 = .ok (.iload_n 1, 1) := by decide +kernel
theorem dX7_tell_6 : decode cX7_tell 6 = .ok (.invokevirtual 122, 3) := by decide +kernel
theorem dX7_tell_9 : decode cX7_tell 9 = .ok (.ifCond .eq 15, 3) := by decide +kernel
theorem dX7_tell_12 : decode cX7_tell 12 = .ok (.aload_n 0, 1) := by decide +kernel
theorem dX7_tell_13 : decode cX7_tell 13 = .ok (.getfield 10, 3) := by decide +kernel
theorem dX7_tell_16 : decode cX7_tell 16 = .ok (.iconst 2, 1) := by decide +kernel
theorem dX7_tell_17 : decode cX7_tell 17 = .ok (.iload_n 3, 1) := by decide +kernel
theorem dX7_tell_18 : decode cX7_tell 18 = .ok (.invokevirtual 122, 3) := by decide +kernel
theorem dX7_tell_21 : decode cX7_tell 21 = .ok (.ifCond .ne 6, 3) := by decide +kernel
theorem dX7_tell_24 : decode cX7_tell 24 = .ok (.ldc 126, 2) := by decide +kernel
theorem dX7_tell_26 : decode cX7_tell 26 = .ok (.ireturn, 1) := by decide +kernel
theorem dX7_tell_27 : decode cX7_tell 27 = .ok (.iload_n 2, 1) := by decide +kernel
theorem dX7_tell_28 : decode cX7_tell 28 = .ok (.ifCond .lt 23, 3) := by decide +kernel
theorem dX7_tell_31 : decode cX7_tell 31 = .ok (.iload_n 2, 1) := by decide +kernel
theorem dX7_tell_32 : decode cX7_tell 32 = .ok (.sipush 999, 3) := by decide +kernel
theorem dX7_tell_35 : decode cX7_tell 35 = .ok (.if_icmp .gt 16, 3) := by decide +kernel
theorem dX7_tell_38 : decode cX7_tell 38 = .ok (.iload 4, 2) := by decide +kernel
theorem dX7_tell_40 : decode cX7_tell 40 = .ok (.ifCond .lt 11, 3) := by decide +kernel
theorem dX7_tell_43 : decode cX7_tell 43 = .ok (.iload 4, 2) := by decide +kernel
theorem dX7_tell_45 : decode cX7_tell 45 = .ok (.sipush 999, 3) := by decide +kernel
theorem dX7_tell_48 : decode cX7_tell 48 = .ok (.if_icmp .le 6, 3) := by decide +kernel
theorem dX7_tell_51 : decode cX7_tell 51 = .ok (.ldc 75, 2) := by decide +kernel
theorem dX7_tell_53 : decode cX7_tell 53 = .ok (.ireturn, 1) := by decide +kernel
theorem dX7_tell_54 : decode cX7_tell 54 = .ok (.aload_n 0, 1) := by decide +kernel
theorem dX7_tell_55 : decode cX7_tell 55 = .ok (.getfield 43, 3) := by decide +kernel
theorem dX7_tell_58 : decode cX7_tell 58 = .ok (.invokevirtual 210, 3) := by decide +kernel
theorem dX7_tell_61 : decode cX7_tell 61 = .ok (.ifCond .eq 6, 3) := by decide +kernel
theorem dX7_tell_64 : decode cX7_tell 64 = .ok (.ldc 80, 2) := by decide +kernel
theorem dX7_tell_66 : decode cX7_tell 66 = .ok (.ireturn, 1) := by decide +kernel
theorem dX7_tell_67 : decode cX7_tell 67 = .ok (.aload_n 0, 1) := by decide +kernel
theorem dX7_tell_68 : decode cX7_tell 68 = .ok (.getfield 43, 3) := by decide +kernel
theorem dX7_tell_71 : decode cX7_tell 71 = .ok (.iload_n 1, 1) := by decide +kernel
theorem dX7_tell_72 : decode cX7_tell 72 = .ok (.iload_n 2, 1) := by decide +kernel
theorem dX7_tell_73 : decode cX7_tell 73 = .ok (.iload_n 3, 1) := by decide +kernel
theorem dX7_tell_74 : decode cX7_tell 74 = .ok (.iload 4, 2) := by decide +kernel
theorem dX7_tell_76 : decode cX7_tell 76 = .ok (.invokevirtual 214, 3) := by decide +kernel
theorem dX7_tell_79 : decode cX7_tell 79 = .ok (.aload_n 0, 1) := by decide +kernel
theorem dX7_tell_80 : decode cX7_tell 80 = .ok (.getfield 43, 3) := by decide +kernel
theorem dX7_tell_83 : decode cX7_tell 83 = .ok (.getfield 100, 3) := by decide +kernel
theorem dX7_tell_86 : decode cX7_tell 86 = .ok (.ireturn, 1) := by decide +kernel
theorem dX7_fits_0 : decode cX7_fits 0 = .ok (.iload_n 1, 1) := by decide +kernel
theorem dX7_fits_1 : decode cX7_fits 1 = .ok (.ifCond .lt 8, 3) := by decide +kernel
theorem dX7_fits_4 : decode cX7_fits 4 = .ok (.iload_n 1, 1) := by decide +kernel
theorem dX7_fits_5 : decode cX7_fits 5 = .ok (.iconst 2, 1) := by decide +kernel
theorem dX7_fits_6 : decode cX7_fits 6 = .ok (.if_icmp .le 6, 3) := by decide +kernel
theorem dX7_fits_9 : decode cX7_fits 9 = .ok (.ldc 75, 2) := by decide +kernel
theorem dX7_fits_11 : decode cX7_fits 11 = .ok (.ireturn, 1) := by decide +kernel
theorem dX7_fits_12 : decode cX7_fits 12 = .ok (.iconst 0, 1) := by decide +kernel
theorem dX7_fits_13 : decode cX7_fits 13 = .ok (.istore_n 2, 1) := by decide +kernel
theorem dX7_fits_14 : decode cX7_fits 14 = .ok (.iconst (-1), 1) := by decide +kernel
theorem dX7_fits_15 : decode cX7_fits 15 = .ok (.istore_n 3, 1) := by decide +kernel
theorem dX7_fits_16 : decode cX7_fits 16 = .ok (.iconst (-1), 1) := by decide +kernel
theorem dX7_fits_17 : decode cX7_fits 17 = .ok (.istore 4, 2) := by decide +kernel
theorem dX7_fits_19 : decode cX7_fits 19 = .ok (.iconst 1, 1) := by decide +kernel
theorem dX7_fits_20 : decode cX7_fits 20 = .ok (.istore 5, 2) := by decide +kernel
theorem dX7_fits_22 : decode cX7_fits 22 = .ok (.iload 5, 2) := by decide +kernel
theorem dX7_fits_24 : decode cX7_fits 24 = .ok (.bipush 110, 2) := by decide +kernel
theorem dX7_fits_26 : decode cX7_fits 26 = .ok (.if_icmp .gt 37, 3) := by decide +kernel
theorem dX7_fits_29 : decode cX7_fits 29 = .ok (.aload_n 0, 1) := by decide +kernel
theorem dX7_fits_30 : decode cX7_fits 30 = .ok (.iload 5, 2) := by decide +kernel
theorem dX7_fits_32 : decode cX7_fits 32 = .ok (.invokevirtual 218, 3) := by decide +kernel
theorem dX7_fits_35 : decode cX7_fits 35 = .ok (.ifCond .eq 22, 3) := by decide +kernel
theorem dX7_fits_38 : decode cX7_fits 38 = .ok (.iinc 2 1, 3) := by decide +kernel
theorem dX7_fits_41 : decode cX7_fits 41 = .ok (.iload_n 3, 1) := by decide +kernel
theorem dX7_fits_42 : decode cX7_fits 42 = .ok (.iconst (-1), 1) := by decide +kernel
theorem dX7_fits_43 : decode cX7_fits 43 = .ok (.if_icmp .ne 8, 3) := by decide +kernel
theorem dX7_fits_46 : decode cX7_fits 46 = .ok (.iload 5, 2) := by decide +kernel
theorem dX7_fits_48 : decode cX7_fits 48 = .ok (.goto 4, 3) := by decide +kernel
theorem dX7_fits_51 : decode cX7_fits 51 = .ok (.iload_n 3, 1) := by decide +kernel
theorem dX7_fits_52 : decode cX7_fits 52 = .ok (.istore_n 3, 1) := by decide +kernel
theorem dX7_fits_53 : decode cX7_fits 53 = .ok (.iload 5, 2) := by decide +kernel
theorem dX7_fits_55 : decode cX7_fits 55 = .ok (.istore 4, 2) := by decide +kernel
theorem dX7_fits_57 : decode cX7_fits 57 = .ok (.iinc 5 1, 3) := by decide +kernel
theorem dX7_fits_60 : decode cX7_fits 60 = .ok (.goto (-38), 3) := by decide +kernel
theorem dX7_fits_63 : decode cX7_fits 63 = .ok (.iload_n 1, 1) := by decide +kernel
theorem dX7_fits_64 : decode cX7_fits 64 = .ok (.ifCond .ne 5, 3) := by decide +kernel
theorem dX7_fits_67 : decode cX7_fits 67 = .ok (.iload_n 2, 1) := by decide +kernel
theorem dX7_fits_68 : decode cX7_fits 68 = .ok (.ireturn, 1) := by decide +kernel
theorem dX7_fits_69 : decode cX7_fits 69 = .ok (.iload_n 1, 1) := by decide +kernel
theorem dX7_fits_70 : decode cX7_fits 70 = .ok (.iconst 1, 1) := by decide +kernel
theorem dX7_fits_71 : decode cX7_fits 71 = .ok (.if_icmp .ne 7, 3) := by decide +kernel
theorem dX7_fits_74 : decode cX7_fits 74 = .ok (.iload_n 3, 1) := by decide +kernel
theorem dX7_fits_75 : decode cX7_fits 75 = .ok (.goto 5, 3) := by decide +kernel
theorem dX7_fits_78 : decode cX7_fits 78 = .ok (.iload 4, 2) := by decide +kernel
theorem dX7_fits_80 : decode cX7_fits 80 = .ok (.ireturn, 1) := by decide +kernel
theorem dX7_write_0 : decode cX7_write 0 = .ok (.aload_n 0, 1) := by decide +kernel
theorem dX7_write_1 : decode cX7_write 1 = .ok (.getfield 10, 3) := by decide +kernel
theorem dX7_write_4 : decode cX7_write 4 = .ok (.iconst 1, 1) := by decide +kernel
theorem dX7_write_5 : decode cX7_write 5 = .ok (.iload_n 1, 1) := by decide +kernel
theorem dX7_write_6 : decode cX7_write 6 = .ok (.invokevirtual 122, 3) := by decide +kernel
theorem dX7_write_9 : decode cX7_write 9 = .ok (.ifCond .eq 15, 3) := by decide +kernel
theorem dX7_write_12 : decode cX7_write 12 = .ok (.aload_n 0, 1) := by decide +kernel
theorem dX7_write_13 : decode cX7_write 13 = .ok (.getfield 10, 3) := by decide +kernel
theorem dX7_write_16 : decode cX7_write 16 = .ok (.iconst 3, 1) := by decide +kernel
theorem dX7_write_17 : decode cX7_write 17 = .ok (.iload_n 2, 1) := by decide +kernel
theorem dX7_write_18 : decode cX7_write 18 = .ok (.invokevirtual 122, 3) := by decide +kernel
theorem dX7_write_21 : decode cX7_write 21 = .ok (.ifCond .ne 6, 3) := by decide +kernel
theorem dX7_write_24 : decode cX7_write 24 = .ok (.ldc 126, 2) := by decide +kernel
theorem dX7_write_26 : decode cX7_write 26 = .ok (.ireturn, 1) := by decide +kernel
theorem dX7_write_27 : decode cX7_write 27 = .ok (.iload_n 3, 1) := by decide +kernel
theorem dX7_write_28 : decode cX7_write 28 = .ok (.sipush (-999), 3) := by decide +kernel
theorem dX7_write_31 : decode cX7_write 31 = .ok (.if_icmp .lt 9, 3) := by decide +kernel
theorem dX7_write_34 : decode cX7_write 34 = .ok (.iload_n 3, 1) := by decide +kernel
theorem dX7_write_35 : decode cX7_write 35 = .ok (.ldc 127, 2) := by decide +kernel
theorem dX7_write_37 : decode cX7_write 37 = .ok (.if_icmp .le 6, 3) := by decide +kernel
theorem dX7_write_40 : decode cX7_write 40 = .ok (.ldc 75, 2) := by decide +kernel
theorem dX7_write_42 : decode cX7_write 42 = .ok (.ireturn, 1) := by decide +kernel
theorem dX7_write_43 : decode cX7_write 43 = .ok (.aload_n 0, 1) := by decide +kernel
theorem dX7_write_44 : decode cX7_write 44 = .ok (.getfield 47, 3) := by decide +kernel
theorem dX7_write_47 : decode cX7_write 47 = .ok (.invokevirtual 210, 3) := by decide +kernel
theorem dX7_write_50 : decode cX7_write 50 = .ok (.ifCond .eq 6, 3) := by decide +kernel
theorem dX7_write_53 : decode cX7_write 53 = .ok (.ldc 80, 2) := by decide +kernel
theorem dX7_write_55 : decode cX7_write 55 = .ok (.ireturn, 1) := by decide +kernel
theorem dX7_write_56 : decode cX7_write 56 = .ok (.aload_n 0, 1) := by decide +kernel
theorem dX7_write_57 : decode cX7_write 57 = .ok (.getfield 47, 3) := by decide +kernel
theorem dX7_write_60 : decode cX7_write 60 = .ok (.iload_n 1, 1) := by decide +kernel
theorem dX7_write_61 : decode cX7_write 61 = .ok (.iload_n 2, 1) := by decide +kernel
theorem dX7_write_62 : decode cX7_write 62 = .ok (.iload_n 3, 1) := by decide +kernel
theorem dX7_write_63 : decode cX7_write 63 = .ok (.iconst 0, 1) := by decide +kernel
theorem dX7_write_64 : decode cX7_write 64 = .ok (.invokevirtual 214, 3) := by decide +kernel
theorem dX7_write_67 : decode cX7_write 67 = .ok (.aload_n 0, 1) := by decide +kernel
theorem dX7_write_68 : decode cX7_write 68 = .ok (.getfield 47, 3) := by decide +kernel
theorem dX7_write_71 : decode cX7_write 71 = .ok (.getfield 100, 3) := by decide +kernel
theorem dX7_write_74 : decode cX7_write 74 = .ok (.ireturn, 1) := by decide +kernel
theorem dX7_tear_0 : decode cX7_tear 0 = .ok (.aload_n 0, 1) := by decide +kernel
theorem dX7_tear_1 : decode cX7_tear 1 = .ok (.getfield 43, 3) := by decide +kernel
theorem dX7_tear_4 : decode cX7_tear 4 = .ok (.getfield 100, 3) := by decide +kernel
theorem dX7_tear_7 : decode cX7_tear 7 = .ok (.aload_n 0, 1) := by decide +kernel
theorem dX7_tear_8 : decode cX7_tear 8 = .ok (.getfield 47, 3) := by decide +kernel
theorem dX7_tear_11 : decode cX7_tear 11 = .ok (.getfield 100, 3) := by decide +kernel
theorem dX7_tear_14 : decode cX7_tear 14 = .ok (.iadd, 1) := by decide +kernel
theorem dX7_tear_15 : decode cX7_tear 15 = .ok (.istore_n 1, 1) := by decide +kernel
theorem dX7_tear_16 : decode cX7_tear 16 = .ok (.aload_n 0, 1) := by decide +kernel
theorem dX7_tear_17 : decode cX7_tear 17 = .ok (.getfield 43, 3) := by decide +kernel
theorem dX7_tear_20 : decode cX7_tear 20 = .ok (.iconst 0, 1) := by decide +kernel
theorem dX7_tear_21 : decode cX7_tear 21 = .ok (.putfield 100, 3) := by decide +kernel
theorem dX7_tear_24 : decode cX7_tear 24 = .ok (.aload_n 0, 1) := by decide +kernel
theorem dX7_tear_25 : decode cX7_tear 25 = .ok (.getfield 47, 3) := by decide +kernel
theorem dX7_tear_28 : decode cX7_tear 28 = .ok (.iconst 0, 1) := by decide +kernel
theorem dX7_tear_29 : decode cX7_tear 29 = .ok (.putfield 100, 3) := by decide +kernel
theorem dX7_tear_32 : decode cX7_tear 32 = .ok (.iload_n 1, 1) := by decide +kernel
theorem dX7_tear_33 : decode cX7_tear 33 = .ok (.ireturn, 1) := by decide +kernel
theorem dX7_judge_0 : decode cX7_judge 0 = .ok (.iconst 0, 1) := by decide +kernel
theorem dX7_judge_1 : decode cX7_judge 1 = .ok (.istore_n 1, 1) := by decide +kernel
theorem dX7_judge_2 : decode cX7_judge 2 = .ok (.iload_n 1, 1) := by decide +kernel
theorem dX7_judge_3 : decode cX7_judge 3 = .ok (.aload_n 0, 1) := by decide +kernel
theorem dX7_judge_4 : decode cX7_judge 4 = .ok (.getfield 47, 3) := by decide +kernel
theorem dX7_judge_7 : decode cX7_judge 7 = .ok (.getfield 100, 3) := by decide +kernel
theorem dX7_judge_10 : decode cX7_judge 10 = .ok (.if_icmp .ge 59, 3) := by decide +kernel
theorem dX7_judge_13 : decode cX7_judge 13 = .ok (.aload_n 0, 1) := by decide +kernel
theorem dX7_judge_14 : decode cX7_judge 14 = .ok (.aload_n 0, 1) := by decide +kernel
theorem dX7_judge_15 : decode cX7_judge 15 = .ok (.getfield 47, 3) := by decide +kernel
theorem dX7_judge_18 : decode cX7_judge 18 = .ok (.iload_n 1, 1) := by decide +kernel
theorem dX7_judge_19 : decode cX7_judge 19 = .ok (.iconst 0, 1) := by decide +kernel
theorem dX7_judge_20 : decode cX7_judge 20 = .ok (.invokevirtual 222, 3) := by decide +kernel
theorem dX7_judge_23 : decode cX7_judge 23 = .ok (.aload_n 0, 1) := by decide +kernel
theorem dX7_judge_24 : decode cX7_judge 24 = .ok (.getfield 26, 3) := by decide +kernel
theorem dX7_judge_27 : decode cX7_judge 27 = .ok (.getfield 113, 3) := by decide +kernel
theorem dX7_judge_30 : decode cX7_judge 30 = .ok (.invokevirtual 155, 3) := by decide +kernel
theorem dX7_judge_33 : decode cX7_judge 33 = .ok (.aload_n 0, 1) := by decide +kernel
theorem dX7_judge_34 : decode cX7_judge 34 = .ok (.getfield 55, 3) := by decide +kernel
theorem dX7_judge_37 : decode cX7_judge 37 = .ok (.aload_n 0, 1) := by decide +kernel
theorem dX7_judge_38 : decode cX7_judge 38 = .ok (.getfield 47, 3) := by decide +kernel
theorem dX7_judge_41 : decode cX7_judge 41 = .ok (.iload_n 1, 1) := by decide +kernel
theorem dX7_judge_42 : decode cX7_judge 42 = .ok (.iconst 1, 1) := by decide +kernel
theorem dX7_judge_43 : decode cX7_judge 43 = .ok (.invokevirtual 222, 3) := by decide +kernel
theorem dX7_judge_46 : decode cX7_judge 46 = .ok (.invokevirtual 162, 3) := by decide +kernel
theorem dX7_judge_49 : decode cX7_judge 49 = .ok (.aload_n 0, 1) := by decide +kernel
theorem dX7_judge_50 : decode cX7_judge 50 = .ok (.getfield 47, 3) := by decide +kernel
theorem dX7_judge_53 : decode cX7_judge 53 = .ok (.iload_n 1, 1) := by decide +kernel
theorem dX7_judge_54 : decode cX7_judge 54 = .ok (.iconst 2, 1) := by decide +kernel
theorem dX7_judge_55 : decode cX7_judge 55 = .ok (.invokevirtual 222, 3) := by decide +kernel
theorem dX7_judge_58 : decode cX7_judge 58 = .ok (.if_icmp .eq 5, 3) := by decide +kernel
theorem dX7_judge_61 : decode cX7_judge 61 = .ok (.iload_n 1, 1) := by decide +kernel
theorem dX7_judge_62 : decode cX7_judge 62 = .ok (.ireturn, 1) := by decide +kernel
theorem dX7_judge_63 : decode cX7_judge 63 = .ok (.iinc 1 1, 3) := by decide +kernel
theorem dX7_judge_66 : decode cX7_judge 66 = .ok (.goto (-64), 3) := by decide +kernel
theorem dX7_judge_69 : decode cX7_judge 69 = .ok (.iconst (-1), 1) := by decide +kernel
theorem dX7_judge_70 : decode cX7_judge 70 = .ok (.ireturn, 1) := by decide +kernel
theorem dX7_seed_0 : decode cX7_seed 0 = .ok (.iload_n 1, 1) := by decide +kernel
theorem dX7_seed_1 : decode cX7_seed 1 = .ok (.ifCond .ge 6, 3) := by decide +kernel
theorem dX7_seed_4 : decode cX7_seed 4 = .ok (.ldc 75, 2) := by decide +kernel
theorem dX7_seed_6 : decode cX7_seed 6 = .ok (.ireturn, 1) := by decide +kernel
theorem dX7_seed_7 : decode cX7_seed 7 = .ok (.aload_n 0, 1) := by decide +kernel
theorem dX7_seed_8 : decode cX7_seed 8 = .ok (.getfield 26, 3) := by decide +kernel
theorem dX7_seed_11 : decode cX7_seed 11 = .ok (.getfield 225, 3) := by decide +kernel
theorem dX7_seed_14 : decode cX7_seed 14 = .ok (.istore_n 2, 1) := by decide +kernel
theorem dX7_seed_15 : decode cX7_seed 15 = .ok (.aload_n 0, 1) := by decide +kernel
theorem dX7_seed_16 : decode cX7_seed 16 = .ok (.getfield 26, 3) := by decide +kernel
theorem dX7_seed_19 : decode cX7_seed 19 = .ok (.iload_n 1, 1) := by decide +kernel
theorem dX7_seed_20 : decode cX7_seed 20 = .ok (.putfield 225, 3) := by decide +kernel
theorem dX7_seed_23 : decode cX7_seed 23 = .ok (.iload_n 2, 1) := by decide +kernel
theorem dX7_seed_24 : decode cX7_seed 24 = .ok (.ireturn, 1) := by decide +kernel
theorem dX7_keep_0 : decode cX7_keep 0 = .ok (.iload_n 1, 1) := by decide +kernel
theorem dX7_keep_1 : decode cX7_keep 1 = .ok (.ifCond .lt 8, 3) := by decide +kernel
theorem dX7_keep_4 : decode cX7_keep 4 = .ok (.iload_n 1, 1) := by decide +kernel
theorem dX7_keep_5 : decode cX7_keep 5 = .ok (.iconst 2, 1) := by decide +kernel
theorem dX7_keep_6 : decode cX7_keep 6 = .ok (.if_icmp .lt 6, 3) := by decide +kernel
theorem dX7_keep_9 : decode cX7_keep 9 = .ok (.ldc 126, 2) := by decide +kernel
theorem dX7_keep_11 : decode cX7_keep 11 = .ok (.ireturn, 1) := by decide +kernel
theorem dX7_keep_12 : decode cX7_keep 12 = .ok (.aload_n 0, 1) := by decide +kernel
theorem dX7_keep_13 : decode cX7_keep 13 = .ok (.getfield 30, 3) := by decide +kernel
theorem dX7_keep_16 : decode cX7_keep 16 = .ok (.iload_n 1, 1) := by decide +kernel
theorem dX7_keep_17 : decode cX7_keep 17 = .ok (.aaload, 1) := by decide +kernel
theorem dX7_keep_18 : decode cX7_keep 18 = .ok (.aload_n 0, 1) := by decide +kernel
theorem dX7_keep_19 : decode cX7_keep 19 = .ok (.getfield 26, 3) := by decide +kernel
theorem dX7_keep_22 : decode cX7_keep 22 = .ok (.invokevirtual 228, 3) := by decide +kernel
theorem dX7_keep_25 : decode cX7_keep 25 = .ok (.aload_n 0, 1) := by decide +kernel
theorem dX7_keep_26 : decode cX7_keep 26 = .ok (.getfield 34, 3) := by decide +kernel
theorem dX7_keep_29 : decode cX7_keep 29 = .ok (.iload_n 1, 1) := by decide +kernel
theorem dX7_keep_30 : decode cX7_keep 30 = .ok (.iconst 1, 1) := by decide +kernel
theorem dX7_keep_31 : decode cX7_keep 31 = .ok (.bastore, 1) := by decide +kernel
theorem dX7_keep_32 : decode cX7_keep 32 = .ok (.iconst 1, 1) := by decide +kernel
theorem dX7_keep_33 : decode cX7_keep 33 = .ok (.ireturn, 1) := by decide +kernel
theorem dX7_goBack_0 : decode cX7_goBack 0 = .ok (.iload_n 1, 1) := by decide +kernel
theorem dX7_goBack_1 : decode cX7_goBack 1 = .ok (.ifCond .lt 8, 3) := by decide +kernel
theorem dX7_goBack_4 : decode cX7_goBack 4 = .ok (.iload_n 1, 1) := by decide +kernel
theorem dX7_goBack_5 : decode cX7_goBack 5 = .ok (.iconst 2, 1) := by decide +kernel
theorem dX7_goBack_6 : decode cX7_goBack 6 = .ok (.if_icmp .lt 6, 3) := by decide +kernel
theorem dX7_goBack_9 : decode cX7_goBack 9 = .ok (.ldc 126, 2) := by decide +kernel
theorem dX7_goBack_11 : decode cX7_goBack 11 = .ok (.ireturn, 1) := by decide +kernel
theorem dX7_goBack_12 : decode cX7_goBack 12 = .ok (.aload_n 0, 1) := by decide +kernel
theorem dX7_goBack_13 : decode cX7_goBack 13 = .ok (.getfield 34, 3) := by decide +kernel
theorem dX7_goBack_16 : decode cX7_goBack 16 = .ok (.iload_n 1, 1) := by decide +kernel
theorem dX7_goBack_17 : decode cX7_goBack 17 = .ok (.baload, 1) := by decide +kernel
theorem dX7_goBack_18 : decode cX7_goBack 18 = .ok (.ifCond .ne 6, 3) := by decide +kernel
theorem dX7_goBack_21 : decode cX7_goBack 21 = .ok (.ldc 165, 2) := by decide +kernel
theorem dX7_goBack_23 : decode cX7_goBack 23 = .ok (.ireturn, 1) := by decide +kernel
theorem dX7_goBack_24 : decode cX7_goBack 24 = .ok (.aload_n 0, 1) := by decide +kernel
theorem dX7_goBack_25 : decode cX7_goBack 25 = .ok (.getfield 26, 3) := by decide +kernel
theorem dX7_goBack_28 : decode cX7_goBack 28 = .ok (.aload_n 0, 1) := by decide +kernel
theorem dX7_goBack_29 : decode cX7_goBack 29 = .ok (.getfield 30, 3) := by decide +kernel
theorem dX7_goBack_32 : decode cX7_goBack 32 = .ok (.iload_n 1, 1) := by decide +kernel
theorem dX7_goBack_33 : decode cX7_goBack 33 = .ok (.aaload, 1) := by decide +kernel
theorem dX7_goBack_34 : decode cX7_goBack 34 = .ok (.invokevirtual 228, 3) := by decide +kernel
theorem dX7_goBack_37 : decode cX7_goBack 37 = .ok (.iconst 1, 1) := by decide +kernel
theorem dX7_goBack_38 : decode cX7_goBack 38 = .ok (.ireturn, 1) := by decide +kernel
theorem dX7_tallOf_0 : decode cX7_tallOf 0 = .ok (.aload_n 0, 1) := by decide +kernel
theorem dX7_tallOf_1 : decode cX7_tallOf 1 = .ok (.getfield 10, 3) := by decide +kernel
theorem dX7_tallOf_4 : decode cX7_tallOf 4 = .ok (.iconst 3, 1) := by decide +kernel
theorem dX7_tallOf_5 : decode cX7_tallOf 5 = .ok (.iload_n 1, 1) := by decide +kernel
theorem dX7_tallOf_6 : decode cX7_tallOf 6 = .ok (.iconst 0, 1) := by decide +kernel
theorem dX7_tallOf_7 : decode cX7_tallOf 7 = .ok (.invokevirtual 135, 3) := by decide +kernel
theorem dX7_tallOf_10 : decode cX7_tallOf 10 = .ok (.istore_n 2, 1) := by decide +kernel
theorem dX7_tallOf_11 : decode cX7_tallOf 11 = .ok (.aload_n 0, 1) := by decide +kernel
theorem dX7_tallOf_12 : decode cX7_tallOf 12 = .ok (.getfield 26, 3) := by decide +kernel
theorem dX7_tallOf_15 : decode cX7_tallOf 15 = .ok (.iload_n 1, 1) := by decide +kernel
theorem dX7_tallOf_16 : decode cX7_tallOf 16 = .ok (.invokevirtual 143, 3) := by decide +kernel
theorem dX7_tallOf_19 : decode cX7_tallOf 19 = .ok (.istore_n 3, 1) := by decide +kernel
theorem dX7_tallOf_20 : decode cX7_tallOf 20 = .ok (.aload_n 0, 1) := by decide +kernel
theorem dX7_tallOf_21 : decode cX7_tallOf 21 = .ok (.getfield 26, 3) := by decide +kernel
theorem dX7_tallOf_24 : decode cX7_tallOf 24 = .ok (.getfield 139, 3) := by decide +kernel
theorem dX7_tallOf_27 : decode cX7_tallOf 27 = .ok (.iload_n 1, 1) := by decide +kernel
theorem dX7_tallOf_28 : decode cX7_tallOf 28 = .ok (.iaload, 1) := by decide +kernel
theorem dX7_tallOf_29 : decode cX7_tallOf 29 = .ok (.istore 4, 2) := by decide +kernel
theorem dX7_tallOf_31 : decode cX7_tallOf 31 = .ok (.iload_n 3, 1) := by decide +kernel
theorem dX7_tallOf_32 : decode cX7_tallOf 32 = .ok (.iconst (-1), 1) := by decide +kernel
theorem dX7_tallOf_33 : decode cX7_tallOf 33 = .ok (.if_icmp .eq 16, 3) := by decide +kernel
theorem dX7_tallOf_36 : decode cX7_tallOf 36 = .ok (.iload_n 2, 1) := by decide +kernel
theorem dX7_tallOf_37 : decode cX7_tallOf 37 = .ok (.aload_n 0, 1) := by decide +kernel
theorem dX7_tallOf_38 : decode cX7_tallOf 38 = .ok (.getfield 10, 3) := by decide +kernel
theorem dX7_tallOf_41 : decode cX7_tallOf 41 = .ok (.iconst 4, 1) := by decide +kernel
theorem dX7_tallOf_42 : decode cX7_tallOf 42 = .ok (.iload_n 3, 1) := by decide +kernel
theorem dX7_tallOf_43 : decode cX7_tallOf 43 = .ok (.iconst 0, 1) := by decide +kernel
theorem dX7_tallOf_44 : decode cX7_tallOf 44 = .ok (.invokevirtual 135, 3) := by decide +kernel
theorem dX7_tallOf_47 : decode cX7_tallOf 47 = .ok (.iadd, 1) := by decide +kernel
theorem dX7_tallOf_48 : decode cX7_tallOf 48 = .ok (.istore_n 2, 1) := by decide +kernel
theorem dX7_tallOf_49 : decode cX7_tallOf 49 = .ok (.iload 4, 2) := by decide +kernel
theorem dX7_tallOf_51 : decode cX7_tallOf 51 = .ok (.iconst (-1), 1) := by decide +kernel
theorem dX7_tallOf_52 : decode cX7_tallOf 52 = .ok (.if_icmp .eq 17, 3) := by decide +kernel
theorem dX7_tallOf_55 : decode cX7_tallOf 55 = .ok (.iload_n 2, 1) := by decide +kernel
theorem dX7_tallOf_56 : decode cX7_tallOf 56 = .ok (.aload_n 0, 1) := by decide +kernel
theorem dX7_tallOf_57 : decode cX7_tallOf 57 = .ok (.getfield 10, 3) := by decide +kernel
theorem dX7_tallOf_60 : decode cX7_tallOf 60 = .ok (.iconst 2, 1) := by decide +kernel
theorem dX7_tallOf_61 : decode cX7_tallOf 61 = .ok (.iload 4, 2) := by decide +kernel
theorem dX7_tallOf_63 : decode cX7_tallOf 63 = .ok (.iconst 0, 1) := by decide +kernel
theorem dX7_tallOf_64 : decode cX7_tallOf 64 = .ok (.invokevirtual 135, 3) := by decide +kernel
theorem dX7_tallOf_67 : decode cX7_tallOf 67 = .ok (.iadd, 1) := by decide +kernel
theorem dX7_tallOf_68 : decode cX7_tallOf 68 = .ok (.istore_n 2, 1) := by decide +kernel
theorem dX7_tallOf_69 : decode cX7_tallOf 69 = .ok (.iload_n 2, 1) := by decide +kernel
theorem dX7_tallOf_70 : decode cX7_tallOf 70 = .ok (.ireturn, 1) := by decide +kernel
theorem dX7_showAt_0 : decode cX7_showAt 0 = .ok (.aload_n 0, 1) := by decide +kernel
theorem dX7_showAt_1 : decode cX7_showAt 1 = .ok (.getfield 55, 3) := by decide +kernel
theorem dX7_showAt_4 : decode cX7_showAt 4 = .ok (.aload_n 0, 1) := by decide +kernel
theorem dX7_showAt_5 : decode cX7_showAt 5 = .ok (.getfield 26, 3) := by decide +kernel
theorem dX7_showAt_8 : decode cX7_showAt 8 = .ok (.iconst 1, 1) := by decide +kernel
theorem dX7_showAt_9 : decode cX7_showAt 9 = .ok (.invokevirtual 172, 3) := by decide +kernel
theorem dX7_showAt_12 : decode cX7_showAt 12 = .ok (.aload_n 0, 1) := by decide +kernel
theorem dX7_showAt_13 : decode cX7_showAt 13 = .ok (.getfield 55, 3) := by decide +kernel
theorem dX7_showAt_16 : decode cX7_showAt 16 = .ok (.aload_n 0, 1) := by decide +kernel
theorem dX7_showAt_17 : decode cX7_showAt 17 = .ok (.getfield 10, 3) := by decide +kernel
theorem dX7_showAt_20 : decode cX7_showAt 20 = .ok (.iload_n 1, 1) := by decide +kernel
theorem dX7_showAt_21 : decode cX7_showAt 21 = .ok (.iload_n 2, 1) := by decide +kernel
theorem dX7_showAt_22 : decode cX7_showAt 22 = .ok (.invokevirtual 128, 3) := by decide +kernel
theorem dX7_showAt_25 : decode cX7_showAt 25 = .ok (.aload_n 0, 1) := by decide +kernel
theorem dX7_showAt_26 : decode cX7_showAt 26 = .ok (.getfield 26, 3) := by decide +kernel
theorem dX7_showAt_29 : decode cX7_showAt 29 = .ok (.getfield 116, 3) := by decide +kernel
theorem dX7_showAt_32 : decode cX7_showAt 32 = .ok (.invokevirtual 176, 3) := by decide +kernel
theorem dX7_showAt_35 : decode cX7_showAt 35 = .ok (.aload_n 0, 1) := by decide +kernel
theorem dX7_showAt_36 : decode cX7_showAt 36 = .ok (.getfield 55, 3) := by decide +kernel
theorem dX7_showAt_39 : decode cX7_showAt 39 = .ok (.invokevirtual 201, 3) := by decide +kernel
theorem dX7_showAt_42 : decode cX7_showAt 42 = .ok (.return_, 1) := by decide +kernel
theorem dX7_giveAt_0 : decode cX7_giveAt 0 = .ok (.aload_n 0, 1) := by decide +kernel
theorem dX7_giveAt_1 : decode cX7_giveAt 1 = .ok (.iload_n 1, 1) := by decide +kernel
theorem dX7_giveAt_2 : decode cX7_giveAt 2 = .ok (.aload_n 0, 1) := by decide +kernel
theorem dX7_giveAt_3 : decode cX7_giveAt 3 = .ok (.getfield 26, 3) := by decide +kernel
theorem dX7_giveAt_6 : decode cX7_giveAt 6 = .ok (.getfield 113, 3) := by decide +kernel
theorem dX7_giveAt_9 : decode cX7_giveAt 9 = .ok (.invokevirtual 155, 3) := by decide +kernel
theorem dX7_giveAt_12 : decode cX7_giveAt 12 = .ok (.iconst 0, 1) := by decide +kernel
theorem dX7_giveAt_13 : decode cX7_giveAt 13 = .ok (.istore_n 2, 1) := by decide +kernel
theorem dX7_giveAt_14 : decode cX7_giveAt 14 = .ok (.iconst 0, 1) := by decide +kernel
theorem dX7_giveAt_15 : decode cX7_giveAt 15 = .ok (.istore_n 3, 1) := by decide +kernel
theorem dX7_giveAt_16 : decode cX7_giveAt 16 = .ok (.iload_n 3, 1) := by decide +kernel
theorem dX7_giveAt_17 : decode cX7_giveAt 17 = .ok (.aload_n 0, 1) := by decide +kernel
theorem dX7_giveAt_18 : decode cX7_giveAt 18 = .ok (.getfield 10, 3) := by decide +kernel
theorem dX7_giveAt_21 : decode cX7_giveAt 21 = .ok (.iconst 3, 1) := by decide +kernel
theorem dX7_giveAt_22 : decode cX7_giveAt 22 = .ok (.invokevirtual 103, 3) := by decide +kernel
theorem dX7_giveAt_25 : decode cX7_giveAt 25 = .ok (.if_icmp .ge 53, 3) := by decide +kernel
theorem dX7_giveAt_28 : decode cX7_giveAt 28 = .ok (.aload_n 0, 1) := by decide +kernel
theorem dX7_giveAt_29 : decode cX7_giveAt 29 = .ok (.getfield 26, 3) := by decide +kernel
theorem dX7_giveAt_32 : decode cX7_giveAt 32 = .ok (.getfield 149, 3) := by decide +kernel
theorem dX7_giveAt_35 : decode cX7_giveAt 35 = .ok (.iload_n 3, 1) := by decide +kernel
theorem dX7_giveAt_36 : decode cX7_giveAt 36 = .ok (.ldc 231, 2) := by decide +kernel
theorem dX7_giveAt_38 : decode cX7_giveAt 38 = .ok (.aload_n 0, 1) := by decide +kernel
theorem dX7_giveAt_39 : decode cX7_giveAt 39 = .ok (.getfield 26, 3) := by decide +kernel
theorem dX7_giveAt_42 : decode cX7_giveAt 42 = .ok (.getfield 149, 3) := by decide +kernel
theorem dX7_giveAt_45 : decode cX7_giveAt 45 = .ok (.iload_n 3, 1) := by decide +kernel
theorem dX7_giveAt_46 : decode cX7_giveAt 46 = .ok (.iaload, 1) := by decide +kernel
theorem dX7_giveAt_47 : decode cX7_giveAt 47 = .ok (.aload_n 0, 1) := by decide +kernel
theorem dX7_giveAt_48 : decode cX7_giveAt 48 = .ok (.getfield 55, 3) := by decide +kernel
theorem dX7_giveAt_51 : decode cX7_giveAt 51 = .ok (.iload_n 3, 1) := by decide +kernel
theorem dX7_giveAt_52 : decode cX7_giveAt 52 = .ok (.invokevirtual 162, 3) := by decide +kernel
theorem dX7_giveAt_55 : decode cX7_giveAt 55 = .ok (.iadd, 1) := by decide +kernel
theorem dX7_giveAt_56 : decode cX7_giveAt 56 = .ok (.invokestatic 232, 3) := by decide +kernel
theorem dX7_giveAt_59 : decode cX7_giveAt 59 = .ok (.iastore, 1) := by decide +kernel
theorem dX7_giveAt_60 : decode cX7_giveAt 60 = .ok (.iload_n 2, 1) := by decide +kernel
theorem dX7_giveAt_61 : decode cX7_giveAt 61 = .ok (.aload_n 0, 1) := by decide +kernel
theorem dX7_giveAt_62 : decode cX7_giveAt 62 = .ok (.getfield 55, 3) := by decide +kernel
theorem dX7_giveAt_65 : decode cX7_giveAt 65 = .ok (.getfield 237, 3) := by decide +kernel
theorem dX7_giveAt_68 : decode cX7_giveAt 68 = .ok (.iload_n 3, 1) := by decide +kernel
theorem dX7_giveAt_69 : decode cX7_giveAt 69 = .ok (.iaload, 1) := by decide +kernel
theorem dX7_giveAt_70 : decode cX7_giveAt 70 = .ok (.iadd, 1) := by decide +kernel
theorem dX7_giveAt_71 : decode cX7_giveAt 71 = .ok (.istore_n 2, 1) := by decide +kernel
theorem dX7_giveAt_72 : decode cX7_giveAt 72 = .ok (.iinc 3 1, 3) := by decide +kernel
theorem dX7_giveAt_75 : decode cX7_giveAt 75 = .ok (.goto (-59), 3) := by decide +kernel
theorem dX7_giveAt_78 : decode cX7_giveAt 78 = .ok (.aload_n 0, 1) := by decide +kernel
theorem dX7_giveAt_79 : decode cX7_giveAt 79 = .ok (.getfield 26, 3) := by decide +kernel
theorem dX7_giveAt_82 : decode cX7_giveAt 82 = .ok (.ldc 231, 2) := by decide +kernel
theorem dX7_giveAt_84 : decode cX7_giveAt 84 = .ok (.aload_n 0, 1) := by decide +kernel
theorem dX7_giveAt_85 : decode cX7_giveAt 85 = .ok (.getfield 26, 3) := by decide +kernel
theorem dX7_giveAt_88 : decode cX7_giveAt 88 = .ok (.getfield 119, 3) := by decide +kernel
theorem dX7_giveAt_91 : decode cX7_giveAt 91 = .ok (.iload_n 2, 1) := by decide +kernel
theorem dX7_giveAt_92 : decode cX7_giveAt 92 = .ok (.iadd, 1) := by decide +kernel
theorem dX7_giveAt_93 : decode cX7_giveAt 93 = .ok (.invokestatic 232, 3) := by decide +kernel
theorem dX7_giveAt_96 : decode cX7_giveAt 96 = .ok (.putfield 119, 3) := by decide +kernel
theorem dX7_giveAt_99 : decode cX7_giveAt 99 = .ok (.iload_n 2, 1) := by decide +kernel
theorem dX7_giveAt_100 : decode cX7_giveAt 100 = .ok (.ireturn, 1) := by decide +kernel
theorem dX7_passDayByDraws_0 : decode cX7_passDayByDraws 0 = .ok (.iconst 0, 1) := by decide +kernel
theorem dX7_passDayByDraws_1 : decode cX7_passDayByDraws 1 = .ok (.istore_n 1, 1) := by decide +kernel
theorem dX7_passDayByDraws_2 : decode cX7_passDayByDraws 2 = .ok (.iconst 0, 1) := by decide +kernel
theorem dX7_passDayByDraws_3 : decode cX7_passDayByDraws 3 = .ok (.istore_n 2, 1) := by decide +kernel
theorem dX7_passDayByDraws_4 : decode cX7_passDayByDraws 4 = .ok (.iload_n 2, 1) := by decide +kernel
theorem dX7_passDayByDraws_5 : decode cX7_passDayByDraws 5 = .ok (.aload_n 0, 1) := by decide +kernel
theorem dX7_passDayByDraws_6 : decode cX7_passDayByDraws 6 = .ok (.getfield 10, 3) := by decide +kernel
theorem dX7_passDayByDraws_9 : decode cX7_passDayByDraws 9 = .ok (.iconst 1, 1) := by decide +kernel
theorem dX7_passDayByDraws_10 : decode cX7_passDayByDraws 10 = .ok (.invokevirtual 103, 3) := by decide +kernel
theorem dX7_passDayByDraws_13 : decode cX7_passDayByDraws 13 = .ok (.if_icmp .ge 28, 3) := by decide +kernel
theorem dX7_passDayByDraws_16 : decode cX7_passDayByDraws 16 = .ok (.aload_n 0, 1) := by decide +kernel
theorem dX7_passDayByDraws_17 : decode cX7_passDayByDraws 17 = .ok (.getfield 26, 3) := by decide +kernel
theorem dX7_passDayByDraws_20 : decode cX7_passDayByDraws 20 = .ok (.iconst 4, 1) := by decide +kernel
theorem dX7_passDayByDraws_21 : decode cX7_passDayByDraws 21 = .ok (.invokevirtual 240, 3) := by decide +kernel
theorem dX7_passDayByDraws_24 : decode cX7_passDayByDraws 24 = .ok (.ifCond .eq 11, 3) := by decide +kernel
theorem dX7_passDayByDraws_27 : decode cX7_passDayByDraws 27 = .ok (.iload_n 1, 1) := by decide +kernel
theorem dX7_passDayByDraws_28 : decode cX7_passDayByDraws 28 = .ok (.aload_n 0, 1) := by decide +kernel
theorem dX7_passDayByDraws_29 : decode cX7_passDayByDraws 29 = .ok (.iload_n 2, 1) := by decide +kernel
theorem dX7_passDayByDraws_30 : decode cX7_passDayByDraws 30 = .ok (.invokevirtual 166, 3) := by decide +kernel
theorem dX7_passDayByDraws_33 : decode cX7_passDayByDraws 33 = .ok (.iadd, 1) := by decide +kernel
theorem dX7_passDayByDraws_34 : decode cX7_passDayByDraws 34 = .ok (.istore_n 1, 1) := by decide +kernel
theorem dX7_passDayByDraws_35 : decode cX7_passDayByDraws 35 = .ok (.iinc 2 1, 3) := by decide +kernel
theorem dX7_passDayByDraws_38 : decode cX7_passDayByDraws 38 = .ok (.goto (-34), 3) := by decide +kernel
theorem dX7_passDayByDraws_41 : decode cX7_passDayByDraws 41 = .ok (.aload_n 0, 1) := by decide +kernel
theorem dX7_passDayByDraws_42 : decode cX7_passDayByDraws 42 = .ok (.getfield 26, 3) := by decide +kernel
theorem dX7_passDayByDraws_45 : decode cX7_passDayByDraws 45 = .ok (.dup, 1) := by decide +kernel
theorem dX7_passDayByDraws_46 : decode cX7_passDayByDraws 46 = .ok (.getfield 113, 3) := by decide +kernel
theorem dX7_passDayByDraws_49 : decode cX7_passDayByDraws 49 = .ok (.iconst 1, 1) := by decide +kernel
theorem dX7_passDayByDraws_50 : decode cX7_passDayByDraws 50 = .ok (.iadd, 1) := by decide +kernel
theorem dX7_passDayByDraws_51 : decode cX7_passDayByDraws 51 = .ok (.putfield 113, 3) := by decide +kernel
theorem dX7_passDayByDraws_54 : decode cX7_passDayByDraws 54 = .ok (.aload_n 0, 1) := by decide +kernel
theorem dX7_passDayByDraws_55 : decode cX7_passDayByDraws 55 = .ok (.getfield 26, 3) := by decide +kernel
theorem dX7_passDayByDraws_58 : decode cX7_passDayByDraws 58 = .ok (.aload_n 0, 1) := by decide +kernel
theorem dX7_passDayByDraws_59 : decode cX7_passDayByDraws 59 = .ok (.getfield 10, 3) := by decide +kernel
theorem dX7_passDayByDraws_62 : decode cX7_passDayByDraws 62 = .ok (.iconst 3, 1) := by decide +kernel
theorem dX7_passDayByDraws_63 : decode cX7_passDayByDraws 63 = .ok (.invokevirtual 103, 3) := by decide +kernel
theorem dX7_passDayByDraws_66 : decode cX7_passDayByDraws 66 = .ok (.invokevirtual 240, 3) := by decide +kernel
theorem dX7_passDayByDraws_69 : decode cX7_passDayByDraws 69 = .ok (.istore_n 2, 1) := by decide +kernel
theorem dX7_passDayByDraws_70 : decode cX7_passDayByDraws 70 = .ok (.aload_n 0, 1) := by decide +kernel
theorem dX7_passDayByDraws_71 : decode cX7_passDayByDraws 71 = .ok (.getfield 26, 3) := by decide +kernel
theorem dX7_passDayByDraws_74 : decode cX7_passDayByDraws 74 = .ok (.aload_n 0, 1) := by decide +kernel
theorem dX7_passDayByDraws_75 : decode cX7_passDayByDraws 75 = .ok (.getfield 10, 3) := by decide +kernel
theorem dX7_passDayByDraws_78 : decode cX7_passDayByDraws 78 = .ok (.iconst 2, 1) := by decide +kernel
theorem dX7_passDayByDraws_79 : decode cX7_passDayByDraws 79 = .ok (.invokevirtual 103, 3) := by decide +kernel
theorem dX7_passDayByDraws_82 : decode cX7_passDayByDraws 82 = .ok (.invokevirtual 240, 3) := by decide +kernel
theorem dX7_passDayByDraws_85 : decode cX7_passDayByDraws 85 = .ok (.istore_n 3, 1) := by decide +kernel
theorem dX7_passDayByDraws_86 : decode cX7_passDayByDraws 86 = .ok (.aload_n 0, 1) := by decide +kernel
theorem dX7_passDayByDraws_87 : decode cX7_passDayByDraws 87 = .ok (.getfield 26, 3) := by decide +kernel
theorem dX7_passDayByDraws_90 : decode cX7_passDayByDraws 90 = .ok (.iload_n 3, 1) := by decide +kernel
theorem dX7_passDayByDraws_91 : decode cX7_passDayByDraws 91 = .ok (.invokevirtual 132, 3) := by decide +kernel
theorem dX7_passDayByDraws_94 : decode cX7_passDayByDraws 94 = .ok (.iconst (-1), 1) := by decide +kernel
theorem dX7_passDayByDraws_95 : decode cX7_passDayByDraws 95 = .ok (.if_icmp .ne 13, 3) := by decide +kernel
theorem dX7_passDayByDraws_98 : decode cX7_passDayByDraws 98 = .ok (.aload_n 0, 1) := by decide +kernel
theorem dX7_passDayByDraws_99 : decode cX7_passDayByDraws 99 = .ok (.getfield 26, 3) := by decide +kernel
theorem dX7_passDayByDraws_102 : decode cX7_passDayByDraws 102 = .ok (.getfield 139, 3) := by decide +kernel
theorem dX7_passDayByDraws_105 : decode cX7_passDayByDraws 105 = .ok (.iload_n 2, 1) := by decide +kernel
theorem dX7_passDayByDraws_106 : decode cX7_passDayByDraws 106 = .ok (.iload_n 3, 1) := by decide +kernel
theorem dX7_passDayByDraws_107 : decode cX7_passDayByDraws 107 = .ok (.iastore, 1) := by decide +kernel
theorem dX7_passDayByDraws_108 : decode cX7_passDayByDraws 108 = .ok (.iload_n 1, 1) := by decide +kernel
theorem dX7_passDayByDraws_109 : decode cX7_passDayByDraws 109 = .ok (.ireturn, 1) := by decide +kernel
theorem dX7_almsOnDay_0 : decode cX7_almsOnDay 0 = .ok (.iconst 0, 1) := by decide +kernel
theorem dX7_almsOnDay_1 : decode cX7_almsOnDay 1 = .ok (.istore_n 3, 1) := by decide +kernel
theorem dX7_almsOnDay_2 : decode cX7_almsOnDay 2 = .ok (.iconst 0, 1) := by decide +kernel
theorem dX7_almsOnDay_3 : decode cX7_almsOnDay 3 = .ok (.istore 4, 2) := by decide +kernel
theorem dX7_almsOnDay_5 : decode cX7_almsOnDay 5 = .ok (.iload 4, 2) := by decide +kernel
theorem dX7_almsOnDay_7 : decode cX7_almsOnDay 7 = .ok (.aload_n 0, 1) := by decide +kernel
theorem dX7_almsOnDay_8 : decode cX7_almsOnDay 8 = .ok (.getfield 10, 3) := by decide +kernel
theorem dX7_almsOnDay_11 : decode cX7_almsOnDay 11 = .ok (.iconst 1, 1) := by decide +kernel
theorem dX7_almsOnDay_12 : decode cX7_almsOnDay 12 = .ok (.invokevirtual 103, 3) := by decide +kernel
theorem dX7_almsOnDay_15 : decode cX7_almsOnDay 15 = .ok (.if_icmp .ge 27, 3) := by decide +kernel
theorem dX7_almsOnDay_18 : decode cX7_almsOnDay 18 = .ok (.aload_n 0, 1) := by decide +kernel
theorem dX7_almsOnDay_19 : decode cX7_almsOnDay 19 = .ok (.iload 4, 2) := by decide +kernel
theorem dX7_almsOnDay_21 : decode cX7_almsOnDay 21 = .ok (.iload_n 2, 1) := by decide +kernel
theorem dX7_almsOnDay_22 : decode cX7_almsOnDay 22 = .ok (.invokevirtual 155, 3) := by decide +kernel
theorem dX7_almsOnDay_25 : decode cX7_almsOnDay 25 = .ok (.iload_n 3, 1) := by decide +kernel
theorem dX7_almsOnDay_26 : decode cX7_almsOnDay 26 = .ok (.aload_n 0, 1) := by decide +kernel
theorem dX7_almsOnDay_27 : decode cX7_almsOnDay 27 = .ok (.getfield 55, 3) := by decide +kernel
theorem dX7_almsOnDay_30 : decode cX7_almsOnDay 30 = .ok (.iload_n 1, 1) := by decide +kernel
theorem dX7_almsOnDay_31 : decode cX7_almsOnDay 31 = .ok (.invokevirtual 162, 3) := by decide +kernel
theorem dX7_almsOnDay_34 : decode cX7_almsOnDay 34 = .ok (.iadd, 1) := by decide +kernel
theorem dX7_almsOnDay_35 : decode cX7_almsOnDay 35 = .ok (.istore_n 3, 1) := by decide +kernel
theorem dX7_almsOnDay_36 : decode cX7_almsOnDay 36 = .ok (.iinc 4 1, 3) := by decide +kernel
theorem dX7_almsOnDay_39 : decode cX7_almsOnDay 39 = .ok (.goto (-34), 3) := by decide +kernel
theorem dX7_almsOnDay_42 : decode cX7_almsOnDay 42 = .ok (.iload_n 3, 1) := by decide +kernel
theorem dX7_almsOnDay_43 : decode cX7_almsOnDay 43 = .ok (.ireturn, 1) := by decide +kernel
theorem dX7_fitsAllTales_0 : decode cX7_fitsAllTales 0 = .ok (.iconst 0, 1) := by decide +kernel
theorem dX7_fitsAllTales_1 : decode cX7_fitsAllTales 1 = .ok (.istore_n 2, 1) := by decide +kernel
theorem dX7_fitsAllTales_2 : decode cX7_fitsAllTales 2 = .ok (.iload_n 2, 1) := by decide +kernel
theorem dX7_fitsAllTales_3 : decode cX7_fitsAllTales 3 = .ok (.aload_n 0, 1) := by decide +kernel
theorem dX7_fitsAllTales_4 : decode cX7_fitsAllTales 4 = .ok (.getfield 43, 3) := by decide +kernel
theorem dX7_fitsAllTales_7 : decode cX7_fitsAllTales 7 = .ok (.getfield 100, 3) := by decide +kernel
theorem dX7_fitsAllTales_10 : decode cX7_fitsAllTales 10 = .ok (.if_icmp .ge 86, 3) := by decide +kernel
theorem dX7_fitsAllTales_13 : decode cX7_fitsAllTales 13 = .ok (.aload_n 0, 1) := by decide +kernel
theorem dX7_fitsAllTales_14 : decode cX7_fitsAllTales 14 = .ok (.getfield 43, 3) := by decide +kernel
theorem dX7_fitsAllTales_17 : decode cX7_fitsAllTales 17 = .ok (.iload_n 2, 1) := by decide +kernel
theorem dX7_fitsAllTales_18 : decode cX7_fitsAllTales 18 = .ok (.iconst 2, 1) := by decide +kernel
theorem dX7_fitsAllTales_19 : decode cX7_fitsAllTales 19 = .ok (.invokevirtual 222, 3) := by decide +kernel
theorem dX7_fitsAllTales_22 : decode cX7_fitsAllTales 22 = .ok (.istore_n 3, 1) := by decide +kernel
theorem dX7_fitsAllTales_23 : decode cX7_fitsAllTales 23 = .ok (.iload_n 1, 1) := by decide +kernel
theorem dX7_fitsAllTales_24 : decode cX7_fitsAllTales 24 = .ok (.aload_n 0, 1) := by decide +kernel
theorem dX7_fitsAllTales_25 : decode cX7_fitsAllTales 25 = .ok (.getfield 10, 3) := by decide +kernel
theorem dX7_fitsAllTales_28 : decode cX7_fitsAllTales 28 = .ok (.iconst 2, 1) := by decide +kernel
theorem dX7_fitsAllTales_29 : decode cX7_fitsAllTales 29 = .ok (.iload_n 3, 1) := by decide +kernel
theorem dX7_fitsAllTales_30 : decode cX7_fitsAllTales 30 = .ok (.iconst 0, 1) := by decide +kernel
theorem dX7_fitsAllTales_31 : decode cX7_fitsAllTales 31 = .ok (.invokevirtual 135, 3) := by decide +kernel
theorem dX7_fitsAllTales_34 : decode cX7_fitsAllTales 34 = .ok (.iadd, 1) := by decide +kernel
theorem dX7_fitsAllTales_35 : decode cX7_fitsAllTales 35 = .ok (.istore 4, 2) := by decide +kernel
theorem dX7_fitsAllTales_37 : decode cX7_fitsAllTales 37 = .ok (.aload_n 0, 1) := by decide +kernel
theorem dX7_fitsAllTales_38 : decode cX7_fitsAllTales 38 = .ok (.getfield 10, 3) := by decide +kernel
theorem dX7_fitsAllTales_41 : decode cX7_fitsAllTales 41 = .ok (.aload_n 0, 1) := by decide +kernel
theorem dX7_fitsAllTales_42 : decode cX7_fitsAllTales 42 = .ok (.getfield 43, 3) := by decide +kernel
theorem dX7_fitsAllTales_45 : decode cX7_fitsAllTales 45 = .ok (.iload_n 2, 1) := by decide +kernel
theorem dX7_fitsAllTales_46 : decode cX7_fitsAllTales 46 = .ok (.iconst 0, 1) := by decide +kernel
theorem dX7_fitsAllTales_47 : decode cX7_fitsAllTales 47 = .ok (.invokevirtual 222, 3) := by decide +kernel
theorem dX7_fitsAllTales_50 : decode cX7_fitsAllTales 50 = .ok (.aload_n 0, 1) := by decide +kernel
theorem dX7_fitsAllTales_51 : decode cX7_fitsAllTales 51 = .ok (.getfield 43, 3) := by decide +kernel
theorem dX7_fitsAllTales_54 : decode cX7_fitsAllTales 54 = .ok (.iload_n 2, 1) := by decide +kernel
theorem dX7_fitsAllTales_55 : decode cX7_fitsAllTales 55 = .ok (.iconst 1, 1) := by decide +kernel
theorem dX7_fitsAllTales_56 : decode cX7_fitsAllTales 56 = .ok (.invokevirtual 222, 3) := by decide +kernel
theorem dX7_fitsAllTales_59 : decode cX7_fitsAllTales 59 = .ok (.invokevirtual 128, 3) := by decide +kernel
theorem dX7_fitsAllTales_62 : decode cX7_fitsAllTales 62 = .ok (.istore 5, 2) := by decide +kernel
theorem dX7_fitsAllTales_64 : decode cX7_fitsAllTales 64 = .ok (.aload_n 0, 1) := by decide +kernel
theorem dX7_fitsAllTales_65 : decode cX7_fitsAllTales 65 = .ok (.getfield 10, 3) := by decide +kernel
theorem dX7_fitsAllTales_68 : decode cX7_fitsAllTales 68 = .ok (.iload_n 3, 1) := by decide +kernel
theorem dX7_fitsAllTales_69 : decode cX7_fitsAllTales 69 = .ok (.iload 4, 2) := by decide +kernel
theorem dX7_fitsAllTales_71 : decode cX7_fitsAllTales 71 = .ok (.iload 5, 2) := by decide +kernel
theorem dX7_fitsAllTales_73 : decode cX7_fitsAllTales 73 = .ok (.invokevirtual 243, 3) := by decide +kernel
theorem dX7_fitsAllTales_76 : decode cX7_fitsAllTales 76 = .ok (.aload_n 0, 1) := by decide +kernel
theorem dX7_fitsAllTales_77 : decode cX7_fitsAllTales 77 = .ok (.getfield 43, 3) := by decide +kernel
theorem dX7_fitsAllTales_80 : decode cX7_fitsAllTales 80 = .ok (.iload_n 2, 1) := by decide +kernel
theorem dX7_fitsAllTales_81 : decode cX7_fitsAllTales 81 = .ok (.iconst 3, 1) := by decide +kernel
theorem dX7_fitsAllTales_82 : decode cX7_fitsAllTales 82 = .ok (.invokevirtual 222, 3) := by decide +kernel
theorem dX7_fitsAllTales_85 : decode cX7_fitsAllTales 85 = .ok (.if_icmp .eq 5, 3) := by decide +kernel
theorem dX7_fitsAllTales_88 : decode cX7_fitsAllTales 88 = .ok (.iconst 0, 1) := by decide +kernel
theorem dX7_fitsAllTales_89 : decode cX7_fitsAllTales 89 = .ok (.ireturn, 1) := by decide +kernel
theorem dX7_fitsAllTales_90 : decode cX7_fitsAllTales 90 = .ok (.iinc 2 1, 3) := by decide +kernel
theorem dX7_fitsAllTales_93 : decode cX7_fitsAllTales 93 = .ok (.goto (-91), 3) := by decide +kernel
theorem dX7_fitsAllTales_96 : decode cX7_fitsAllTales 96 = .ok (.iconst 1, 1) := by decide +kernel
theorem dX7_fitsAllTales_97 : decode cX7_fitsAllTales 97 = .ok (.ireturn, 1) := by decide +kernel
end
section
theorem dX8_init_0 : decode cX8_init 0 = .ok (.aload_n 0, 1) := by decide +kernel
theorem dX8_init_1 : decode cX8_init 1 = .ok (.invokespecial 1, 3) := by decide +kernel
theorem dX8_init_4 : decode cX8_init 4 = .ok (.aload_n 0, 1) := by decide +kernel
theorem dX8_init_5 : decode cX8_init 5 = .ok (.bipush 12, 2) := by decide +kernel
theorem dX8_init_7 : decode cX8_init 7 = .ok (.putfield 7, 3) := by decide +kernel
theorem dX8_init_10 : decode cX8_init 10 = .ok (.aload_n 0, 1) := by decide +kernel
theorem dX8_init_11 : decode cX8_init 11 = .ok (.iconst 4, 1) := by decide +kernel
theorem dX8_init_12 : decode cX8_init 12 = .ok (.newarray .int, 2) := by decide +kernel
theorem dX8_init_14 : decode cX8_init 14 = .ok (.putfield 13, 3) := by decide +kernel
theorem dX8_init_17 : decode cX8_init 17 = .ok (.aload_n 0, 1) := by decide +kernel
theorem dX8_init_18 : decode cX8_init 18 = .ok (.iconst 4, 1) := by decide +kernel
theorem dX8_init_19 : decode cX8_init 19 = .ok (.newarray .int, 2) := by decide +kernel
theorem dX8_init_21 : decode cX8_init 21 = .ok (.putfield 17, 3) := by decide +kernel
theorem dX8_init_24 : decode cX8_init 24 = .ok (.aload_n 0, 1) := by decide +kernel
theorem dX8_init_25 : decode cX8_init 25 = .ok (.bipush 6, 2) := by decide +kernel
theorem dX8_init_27 : decode cX8_init 27 = .ok (.newarray .int, 2) := by decide +kernel
theorem dX8_init_29 : decode cX8_init 29 = .ok (.putfield 20, 3) := by decide +kernel
theorem dX8_init_32 : decode cX8_init 32 = .ok (.aload_n 0, 1) := by decide +kernel
theorem dX8_init_33 : decode cX8_init 33 = .ok (.bipush 6, 2) := by decide +kernel
theorem dX8_init_35 : decode cX8_init 35 = .ok (.newarray .int, 2) := by decide +kernel
theorem dX8_init_37 : decode cX8_init 37 = .ok (.putfield 23, 3) := by decide +kernel
theorem dX8_init_40 : decode cX8_init 40 = .ok (.aload_n 0, 1) := by decide +kernel
theorem dX8_init_41 : decode cX8_init 41 = .ok (.bipush 6, 2) := by decide +kernel
theorem dX8_init_43 : decode cX8_init 43 = .ok (.newarray .int, 2) := by decide +kernel
theorem dX8_init_45 : decode cX8_init 45 = .ok (.putfield 26, 3) := by decide +kernel
theorem dX8_init_48 : decode cX8_init 48 = .ok (.aload_n 0, 1) := by decide +kernel
theorem dX8_init_49 : decode cX8_init 49 = .ok (.bipush 7, 2) := by decide +kernel
theorem dX8_init_51 : decode cX8_init 51 = .ok (.newarray .int, 2) := by decide +kernel
theorem dX8_init_53 : decode cX8_init 53 = .ok (.putfield 29, 3) := by decide +kernel
theorem dX8_init_56 : decode cX8_init 56 = .ok (.aload_n 0, 1) := by decide +kernel
theorem dX8_init_57 : decode cX8_init 57 = .ok (.iconst 4, 1) := by decide +kernel
theorem dX8_init_58 : decode cX8_init 58 = .ok (.newarray .int, 2) := by decide +kernel
theorem dX8_init_60 : decode cX8_init 60 = .ok (.putfield 32, 3) := by decide +kernel
theorem dX8_init_63 : decode cX8_init 63 = .ok (.aload_n 0, 1) := by decide +kernel
theorem dX8_init_64 : decode cX8_init 64 = .ok (.iconst 4, 1) := by decide +kernel
theorem dX8_init_65 : decode cX8_init 65 = .ok (.newarray .int, 2) := by decide +kernel
theorem dX8_init_67 : decode cX8_init 67 = .ok (.putfield 35, 3) := by decide +kernel
theorem dX8_init_70 : decode cX8_init 70 = .ok (.aload_n 0, 1) := by decide +kernel
theorem dX8_init_71 : decode cX8_init 71 = .ok (.bipush 7, 2) := by decide +kernel
theorem dX8_init_73 : decode cX8_init 73 = .ok (.newarray .int, 2) := by decide +kernel
theorem dX8_init_75 : decode cX8_init 75 = .ok (.putfield 38, 3) := by decide +kernel
theorem dX8_init_78 : decode cX8_init 78 = .ok (.aload_n 0, 1) := by decide +kernel
theorem dX8_init_79 : decode cX8_init 79 = .ok (.bipush 7, 2) := by decide +kernel
theorem dX8_init_81 : decode cX8_init 81 = .ok (.newarray .int, 2) := by decide +kernel
theorem dX8_init_83 : decode cX8_init 83 = .ok (.putfield 41, 3) := by decide +kernel
theorem dX8_init_86 : decode cX8_init 86 = .ok (.aload_n 0, 1) := by decide +kernel
theorem dX8_init_87 : decode cX8_init 87 = .ok (.bipush 6, 2) := by decide +kernel
theorem dX8_init_89 : decode cX8_init 89 = .ok (.newarray .int, 2) := by decide +kernel
theorem dX8_init_91 : decode cX8_init 91 = .ok (.putfield 44, 3) := by decide +kernel
theorem dX8_init_94 : decode cX8_init 94 = .ok (.aload_n 0, 1) := by decide +kernel
theorem dX8_init_95 : decode cX8_init 95 = .ok (.sipush 500, 3) := by decide +kernel
theorem dX8_init_98 : decode cX8_init 98 = .ok (.newarray .int, 2) := by decide +kernel
theorem dX8_init_100 : decode cX8_init 100 = .ok (.putfield 47, 3) := by decide +kernel
theorem dX8_init_103 : decode cX8_init 103 = .ok (.aload_n 0, 1) := by decide +kernel
theorem dX8_init_104 : decode cX8_init 104 = .ok (.iconst (-1), 1) := by decide +kernel
theorem dX8_init_105 : decode cX8_init 105 = .ok (.putfield 50, 3) := by decide +kernel
theorem dX8_init_108 : decode cX8_init 108 = .ok (.aload_n 0, 1) := by decide +kernel
theorem dX8_init_109 : decode cX8_init 109 = .ok (.iconst 4, 1) := by decide +kernel
theorem dX8_init_110 : decode cX8_init 110 = .ok (.newarray .int, 2) := by decide +kernel
theorem dX8_init_112 : decode cX8_init 112 = .ok (.putfield 53, 3) := by decide +kernel
theorem dX8_init_115 : decode cX8_init 115 = .ok (.aload_n 0, 1) := by decide +kernel
theorem dX8_init_116 : decode cX8_init 116 = .ok (.iconst 4, 1) := by decide +kernel
theorem dX8_init_117 : decode cX8_init 117 = .ok (.newarray .int, 2) := by decide +kernel
theorem dX8_init_119 : decode cX8_init 119 = .ok (.putfield 56, 3) := by decide +kernel
theorem dX8_init_122 : decode cX8_init 122 = .ok (.aload_n 0, 1) := by decide +kernel
theorem dX8_init_123 : decode cX8_init 123 = .ok (.bipush 6, 2) := by decide +kernel
theorem dX8_init_125 : decode cX8_init 125 = .ok (.newarray .int, 2) := by decide +kernel
theorem dX8_init_127 : decode cX8_init 127 = .ok (.putfield 59, 3) := by decide +kernel
theorem dX8_init_130 : decode cX8_init 130 = .ok (.aload_n 0, 1) := by decide +kernel
theorem dX8_init_131 : decode cX8_init 131 = .ok (.bipush 6, 2) := by decide +kernel
theorem dX8_init_133 : decode cX8_init 133 = .ok (.newarray .int, 2) := by decide +kernel
theorem dX8_init_135 : decode cX8_init 135 = .ok (.putfield 62, 3) := by decide +kernel
theorem dX8_init_138 : decode cX8_init 138 = .ok (.aload_n 0, 1) := by decide +kernel
theorem dX8_init_139 : decode cX8_init 139 = .ok (.bipush 6, 2) := by decide +kernel
theorem dX8_init_141 : decode cX8_init 141 = .ok (.newarray .int, 2) := by decide +kernel
theorem dX8_init_143 : decode cX8_init 143 = .ok (.putfield 65, 3) := by decide +kernel
theorem dX8_init_146 : decode cX8_init 146 = .ok (.aload_n 0, 1) := by decide +kernel
theorem dX8_init_147 : decode cX8_init 147 = .ok (.bipush 6, 2) := by decide +kernel
theorem dX8_init_149 : decode cX8_init 149 = .ok (.newarray .int, 2) := by decide +kernel
theorem dX8_init_151 : decode cX8_init 151 = .ok (.putfield 68, 3) := by decide +kernel
theorem dX8_init_154 : decode cX8_init 154 = .ok (.aload_n 0, 1) := by decide +kernel
theorem dX8_init_155 : decode cX8_init 155 = .ok (.iconst 4, 1) := by decide +kernel
theorem dX8_init_156 : decode cX8_init 156 = .ok (.newarray .int, 2) := by decide +kernel
theorem dX8_init_158 : decode cX8_init 158 = .ok (.putfield 71, 3) := by decide +kernel
theorem dX8_init_161 : decode cX8_init 161 = .ok (.aload_n 0, 1) := by decide +kernel
theorem dX8_init_162 : decode cX8_init 162 = .ok (.iconst 4, 1) := by decide +kernel
theorem dX8_init_163 : decode cX8_init 163 = .ok (.newarray .int, 2) := by decide +kernel
theorem dX8_init_165 : decode cX8_init 165 = .ok (.putfield 74, 3) := by decide +kernel
theorem dX8_init_168 : decode cX8_init 168 = .ok (.aload_n 0, 1) := by decide +kernel
theorem dX8_init_169 : decode cX8_init 169 = .ok (.bipush 7, 2) := by decide +kernel
theorem dX8_init_171 : decode cX8_init 171 = .ok (.newarray .int, 2) := by decide +kernel
theorem dX8_init_173 : decode cX8_init 173 = .ok (.putfield 77, 3) := by decide +kernel
theorem dX8_init_176 : decode cX8_init 176 = .ok (.aload_n 0, 1) := by decide +kernel
theorem dX8_init_177 : decode cX8_init 177 = .ok (.bipush 7, 2) := by decide +kernel
theorem dX8_init_179 : decode cX8_init 179 = .ok (.newarray .int, 2) := by decide +kernel
theorem dX8_init_181 : decode cX8_init 181 = .ok (.putfield 80, 3) := by decide +kernel
theorem dX8_init_184 : decode cX8_init 184 = .ok (.aload_n 0, 1) := by decide +kernel
theorem dX8_init_185 : decode cX8_init 185 = .ok (.bipush 6, 2) := by decide +kernel
theorem dX8_init_187 : decode cX8_init 187 = .ok (.newarray .int, 2) := by decide +kernel
theorem dX8_init_189 : decode cX8_init 189 = .ok (.putfield 83, 3) := by decide +kernel
theorem dX8_init_192 : decode cX8_init 192 = .ok (.aload_n 0, 1) := by decide +kernel
theorem dX8_init_193 : decode cX8_init 193 = .ok (.bipush 6, 2) := by decide +kernel
theorem dX8_init_195 : decode cX8_init 195 = .ok (.newarray .int, 2) := by decide +kernel
theorem dX8_init_197 : decode cX8_init 197 = .ok (.putfield 86, 3) := by decide +kernel
theorem dX8_init_200 : decode cX8_init 200 = .ok (.aload_n 0, 1) := by decide +kernel
theorem dX8_init_201 : decode cX8_init 201 = .ok (.bipush 6, 2) := by decide +kernel
theorem dX8_init_203 : decode cX8_init 203 = .ok (.newarray .int, 2) := by decide +kernel
theorem dX8_init_205 : decode cX8_init 205 = .ok (.putfield 89, 3) := by decide +kernel
theorem dX8_init_208 : decode cX8_init 208 = .ok (.aload_n 0, 1) := by decide +kernel
theorem dX8_init_209 : decode cX8_init 209 = .ok (.bipush 10, 2) := by decide +kernel
theorem dX8_init_211 : decode cX8_init 211 = .ok (.newarray .int, 2) := by decide +kernel
theorem dX8_init_213 : decode cX8_init 213 = .ok (.putfield 92, 3) := by decide +kernel
theorem dX8_init_216 : decode cX8_init 216 = .ok (.aload_n 0, 1) := by decide +kernel
theorem dX8_init_217 : decode cX8_init 217 = .ok (.bipush 10, 2) := by decide +kernel
theorem dX8_init_219 : decode cX8_init 219 = .ok (.newarray .int, 2) := by decide +kernel
theorem dX8_init_221 : decode cX8_init 221 = .ok (.putfield 95, 3) := by decide +kernel
theorem dX8_init_224 : decode cX8_init 224 = .ok (.aload_n 0, 1) := by decide +kernel
theorem dX8_init_225 : decode cX8_init 225 = .ok (.bipush 10, 2) := by decide +kernel
theorem dX8_init_227 : decode cX8_init 227 = .ok (.newarray .int, 2) := by decide +kernel
theorem dX8_init_229 : decode cX8_init 229 = .ok (.putfield 98, 3) := by decide +kernel
theorem dX8_init_232 : decode cX8_init 232 = .ok (.aload_n 0, 1) := by decide +kernel
theorem dX8_init_233 : decode cX8_init 233 = .ok (.bipush 30, 2) := by decide +kernel
theorem dX8_init_235 : decode cX8_init 235 = .ok (.newarray .int, 2) := by decide +kernel
theorem dX8_init_237 : decode cX8_init 237 = .ok (.putfield 101, 3) := by decide +kernel
theorem dX8_init_240 : decode cX8_init 240 = .ok (.aload_n 0, 1) := by decide +kernel
theorem dX8_init_241 : decode cX8_init 241 = .ok (.bipush 30, 2) := by decide +kernel
theorem dX8_init_243 : decode cX8_init 243 = .ok (.newarray .int, 2) := by decide +kernel
theorem dX8_init_245 : decode cX8_init 245 = .ok (.putfield 104, 3) := by decide +kernel
theorem dX8_init_248 : decode cX8_init 248 = .ok (.aload_n 0, 1) := by decide +kernel
theorem dX8_init_249 : decode cX8_init 249 = .ok (.bipush 30, 2) := by decide +kernel
theorem dX8_init_251 : decode cX8_init 251 = .ok (.newarray .int, 2) := by decide +kernel
theorem dX8_init_253 : decode cX8_init 253 = .ok (.putfield 107, 3) := by decide +kernel
theorem dX8_init_256 : decode cX8_init 256 = .ok (.aload_n 0, 1) := by decide +kernel
theorem dX8_init_257 : decode cX8_init 257 = .ok (.bipush 50, 2) := by decide +kernel
theorem dX8_init_259 : decode cX8_init 259 = .ok (.newarray .int, 2) := by decide +kernel
theorem dX8_init_261 : decode cX8_init 261 = .ok (.putfield 110, 3) := by decide +kernel
theorem dX8_init_264 : decode cX8_init 264 = .ok (.aload_n 0, 1) := by decide +kernel
theorem dX8_init_265 : decode cX8_init 265 = .ok (.iconst 2, 1) := by decide +kernel
theorem dX8_init_266 : decode cX8_init 266 = .ok (.newarray .boolean, 2) := by decide +kernel
theorem dX8_init_268 : decode cX8_init 268 = .ok (.putfield 113, 3) := by decide +kernel
theorem dX8_init_271 : decode cX8_init 271 = .ok (.aload_n 0, 1) := by decide +kernel
theorem dX8_init_272 : decode cX8_init 272 = .ok (.iconst 0, 1) := by decide +kernel
theorem dX8_init_273 : decode cX8_init 273 = .ok (.putfield 117, 3) := by decide +kernel
theorem dX8_init_276 : decode cX8_init 276 = .ok (.return_, 1) := by decide +kernel
theorem dX8_in_0 : decode cX8_in 0 = .ok (.lload_n 0, 1) := by decide +kernel
theorem dX8_in_1 : decode cX8_in 1 = .ok (.lload_n 2, 1) := by decide +kernel
theorem dX8_in_2 : decode cX8_in 2 = .ok (.lcmp, 1) := by decide +kernel
theorem dX8_in_3 : decode cX8_in 3 = .ok (.ifCond .lt 14, 3) := by decide +kernel
theorem dX8_in_6 : decode cX8_in 6 = .ok (.lload_n 0, 1) := by decide +kernel
theorem dX8_in_7 : decode cX8_in 7 = .ok (.lload 4, 2) := by decide +kernel
theorem dX8_in_9 : decode cX8_in 9 = .ok (.lcmp, 1) := by decide +kernel
theorem dX8_in_10 : decode cX8_in 10 = .ok (.ifCond .gt 7, 3) := by decide +kernel
theorem dX8_in_13 : decode cX8_in 13 = .ok (.iconst 1, 1) := by decide +kernel
theorem dX8_in_14 : decode cX8_in 14 = .ok (.goto 4, 3) := by decide +kernel
theorem dX8_in_17 : decode cX8_in 17 = .ok (.iconst 0, 1) := by decide +kernel
theorem dX8_in_18 : decode cX8_in 18 = .ok (.ireturn, 1) := by decide +kernel
theorem dX8_isBell_0 : decode cX8_isBell 0 = .ok (.iload_n 1, 1) := by decide +kernel
theorem dX8_isBell_1 : decode cX8_isBell 1 = .ok (.i2l, 1) := by decide +kernel
theorem dX8_isBell_2 : decode cX8_isBell 2 = .ok (.lconst 0, 1) := by decide +kernel
theorem dX8_isBell_3 : decode cX8_isBell 3 = .ok (.aload_n 0, 1) := by decide +kernel
theorem dX8_isBell_4 : decode cX8_isBell 4 = .ok (.getfield 120, 3) := by decide +kernel
theorem dX8_isBell_7 : decode cX8_isBell 7 = .ok (.iconst 1, 1) := by decide +kernel
theorem dX8_isBell_8 : decode cX8_isBell 8 = .ok (.isub, 1) := by decide +kernel
theorem dX8_isBell_9 : decode cX8_isBell 9 = .ok (.i2l, 1) := by decide +kernel
theorem dX8_isBell_10 : decode cX8_isBell 10 = .ok (.invokestatic 123, 3) := by decide +kernel
theorem dX8_isBell_13 : decode cX8_isBell 13 = .ok (.ireturn, 1) := by decide +kernel
theorem dX8_isSpot_0 : decode cX8_isSpot 0 = .ok (.iload_n 1, 1) := by decide +kernel
theorem dX8_isSpot_1 : decode cX8_isSpot 1 = .ok (.i2l, 1) := by decide +kernel
theorem dX8_isSpot_2 : decode cX8_isSpot 2 = .ok (.lconst 0, 1) := by decide +kernel
theorem dX8_isSpot_3 : decode cX8_isSpot 3 = .ok (.aload_n 0, 1) := by decide +kernel
theorem dX8_isSpot_4 : decode cX8_isSpot 4 = .ok (.getfield 117, 3) := by decide +kernel
theorem dX8_isSpot_7 : decode cX8_isSpot 7 = .ok (.iconst 1, 1) := by decide +kernel
theorem dX8_isSpot_8 : decode cX8_isSpot 8 = .ok (.isub, 1) := by decide +kernel
theorem dX8_isSpot_9 : decode cX8_isSpot 9 = .ok (.i2l, 1) := by decide +kernel
theorem dX8_isSpot_10 : decode cX8_isSpot 10 = .ok (.invokestatic 123, 3) := by decide +kernel
theorem dX8_isSpot_13 : decode cX8_isSpot 13 = .ok (.ireturn, 1) := by decide +kernel
theorem dX8_isBeggar_0 : decode cX8_isBeggar 0 = .ok (.iload_n 1, 1) := by decide +kernel
theorem dX8_isBeggar_1 : decode cX8_isBeggar 1 = .ok (.i2l, 1) := by decide +kernel
theorem dX8_isBeggar_2 : decode cX8_isBeggar 2 = .ok (.lconst 0, 1) := by decide +kernel
theorem dX8_isBeggar_3 : decode cX8_isBeggar 3 = .ok (.aload_n 0, 1) := by decide +kernel
theorem dX8_isBeggar_4 : decode cX8_isBeggar 4 = .ok (.getfield 127, 3) := by decide +kernel
theorem dX8_isBeggar_7 : decode cX8_isBeggar 7 = .ok (.iconst 1, 1) := by decide +kernel
theorem dX8_isBeggar_8 : decode cX8_isBeggar 8 = .ok (.isub, 1) := by decide +kernel
theorem dX8_isBeggar_9 : decode cX8_isBeggar 9 = .ok (.i2l, 1) := by decide +kernel
theorem dX8_isBeggar_10 : decode cX8_isBeggar 10 = .ok (.invokestatic 123, 3) := by decide +kernel
theorem dX8_isBeggar_13 : decode cX8_isBeggar 13 = .ok (.ireturn, 1) := by decide +kernel
theorem dX8_isHat_0 : decode cX8_isHat 0 = .ok (.iload_n 1, 1) := by decide +kernel
theorem dX8_isHat_1 : decode cX8_isHat 1 = .ok (.i2l, 1) := by decide +kernel
theorem dX8_isHat_2 : decode cX8_isHat 2 = .ok (.lconst 0, 1) := by decide +kernel
theorem dX8_isHat_3 : decode cX8_isHat 3 = .ok (.aload_n 0, 1) := by decide +kernel
theorem dX8_isHat_4 : decode cX8_isHat 4 = .ok (.getfield 130, 3) := by decide +kernel
theorem dX8_isHat_7 : decode cX8_isHat 7 = .ok (.iconst 1, 1) := by decide +kernel
theorem dX8_isHat_8 : decode cX8_isHat 8 = .ok (.isub, 1) := by decide +kernel
theorem dX8_isHat_9 : decode cX8_isHat 9 = .ok (.i2l, 1) := by decide +kernel
theorem dX8_isHat_10 : decode cX8_isHat 10 = .ok (.invokestatic 123, 3) := by decide +kernel
theorem dX8_isHat_13 : decode cX8_isHat 13 = .ok (.ireturn, 1) := by decide +kernel
theorem dX8_feed_0 : decode cX8_feed 0 = .ok (.iload_n 1, 1) := by decide +kernel
theorem dX8_feed_1 : decode cX8_feed 1 = .ok (.i2l, 1) := by decide +kernel
theorem dX8_feed_2 : decode cX8_feed 2 = .ok (.lconst 1, 1) := by decide +kernel
theorem dX8_feed_3 : decode cX8_feed 3 = .ok (.ldc2_w 133, 3) := by decide +kernel
theorem dX8_feed_6 : decode cX8_feed 6 = .ok (.invokestatic 123, 3) := by decide +kernel
theorem dX8_feed_9 : decode cX8_feed 9 = .ok (.ifCond .ne 6, 3) := by decide +kernel
theorem dX8_feed_12 : decode cX8_feed 12 = .ok (.ldc 135, 2) := by decide +kernel
theorem dX8_feed_14 : decode cX8_feed 14 = .ok (.ireturn, 1) := by decide +kernel
theorem dX8_feed_15 : decode cX8_feed 15 = .ok (.aload_n 0, 1) := by decide +kernel
theorem dX8_feed_16 : decode cX8_feed 16 = .ok (.getfield 136, 3) := by decide +kernel
theorem dX8_feed_19 : decode cX8_feed 19 = .ok (.iload_n 1, 1) := by decide +kernel
theorem dX8_feed_20 : decode cX8_feed 20 = .ok (.iadd, 1) := by decide +kernel
theorem dX8_feed_21 : decode cX8_feed 21 = .ok (.sipush 500, 3) := by decide +kernel
theorem dX8_feed_24 : decode cX8_feed 24 = .ok (.if_icmp .le 6, 3) := by decide +kernel
theorem dX8_feed_27 : decode cX8_feed 27 = .ok (.ldc 139, 2) := by decide +kernel
theorem dX8_feed_29 : decode cX8_feed 29 = .ok (.ireturn, 1) := by decide +kernel
theorem dX8_feed_30 : decode cX8_feed 30 = .ok (.iload_n 1, 1) := by decide +kernel
theorem dX8_feed_31 : decode cX8_feed 31 = .ok (.iconst 1, 1) := by decide +kernel
theorem dX8_feed_32 : decode cX8_feed 32 = .ok (.isub, 1) := by decide +kernel
theorem dX8_feed_33 : decode cX8_feed 33 = .ok (.istore 4, 2) := by decide +kernel
theorem dX8_feed_35 : decode cX8_feed 35 = .ok (.iload 4, 2) := by decide +kernel
theorem dX8_feed_37 : decode cX8_feed 37 = .ok (.ifCond .lt 40, 3) := by decide +kernel
theorem dX8_feed_40 : decode cX8_feed 40 = .ok (.aload_n 0, 1) := by decide +kernel
theorem dX8_feed_41 : decode cX8_feed 41 = .ok (.getfield 47, 3) := by decide +kernel
theorem dX8_feed_44 : decode cX8_feed 44 = .ok (.aload_n 0, 1) := by decide +kernel
theorem dX8_feed_45 : decode cX8_feed 45 = .ok (.getfield 136, 3) := by decide +kernel
theorem dX8_feed_48 : decode cX8_feed 48 = .ok (.lload_n 2, 1) := by decide +kernel
theorem dX8_feed_49 : decode cX8_feed 49 = .ok (.bipush 8, 2) := by decide +kernel
theorem dX8_feed_51 : decode cX8_feed 51 = .ok (.iload 4, 2) := by decide +kernel
theorem dX8_feed_53 : decode cX8_feed 53 = .ok (.imul, 1) := by decide +kernel
theorem dX8_feed_54 : decode cX8_feed 54 = .ok (.lshr, 1) := by decide +kernel
theorem dX8_feed_55 : decode cX8_feed 55 = .ok (.ldc2_w 140, 3) := by decide +kernel
theorem dX8_feed_58 : decode cX8_feed 58 = .ok (.land, 1) := by decide +kernel
theorem dX8_feed_59 : decode cX8_feed 59 = .ok (.l2i, 1) := by decide +kernel
theorem dX8_feed_60 : decode cX8_feed 60 = .ok (.iastore, 1) := by decide +kernel
theorem dX8_feed_61 : decode cX8_feed 61 = .ok (.aload_n 0, 1) := by decide +kernel
theorem dX8_feed_62 : decode cX8_feed 62 = .ok (.dup, 1) := by decide +kernel
theorem dX8_feed_63 : decode cX8_feed 63 = .ok (.getfield 136, 3) := by decide +kernel
theorem dX8_feed_66 : decode cX8_feed 66 = .ok (.iconst 1, 1) := by decide +kernel
theorem dX8_feed_67 : decode cX8_feed 67 = .ok (.iadd, 1) := by decide +kernel
theorem dX8_feed_68 : decode cX8_feed 68 = .ok (.putfield 136, 3) := by decide +kernel
theorem dX8_feed_71 : decode cX8_feed 71 = .ok (.iinc 4 (-1), 3) := by decide +kernel
theorem dX8_feed_74 : decode cX8_feed 74 = .ok (.goto (-39), 3) := by decide +kernel
theorem dX8_feed_77 : decode cX8_feed 77 = .ok (.aload_n 0, 1) := by decide +kernel
theorem dX8_feed_78 : decode cX8_feed 78 = .ok (.getfield 136, 3) := by decide +kernel
theorem dX8_feed_81 : decode cX8_feed 81 = .ok (.ireturn, 1) := by decide +kernel
theorem dX8_here_0 : decode cX8_here 0 = .ok (.aload_n 0, 1) := by decide +kernel
theorem dX8_here_1 : decode cX8_here 1 = .ok (.getfield 142, 3) := by decide +kernel
theorem dX8_here_4 : decode cX8_here 4 = .ok (.aload_n 0, 1) := by decide +kernel
theorem dX8_here_5 : decode cX8_here 5 = .ok (.getfield 136, 3) := by decide +kernel
theorem dX8_here_8 : decode cX8_here 8 = .ok (.if_icmp .ge 30, 3) := by decide +kernel
theorem dX8_here_11 : decode cX8_here 11 = .ok (.aload_n 0, 1) := by decide +kernel
theorem dX8_here_12 : decode cX8_here 12 = .ok (.getfield 47, 3) := by decide +kernel
theorem dX8_here_15 : decode cX8_here 15 = .ok (.aload_n 0, 1) := by decide +kernel
theorem dX8_here_16 : decode cX8_here 16 = .ok (.getfield 142, 3) := by decide +kernel
theorem dX8_here_19 : decode cX8_here 19 = .ok (.iaload, 1) := by decide +kernel
theorem dX8_here_20 : decode cX8_here 20 = .ok (.bipush 32, 2) := by decide +kernel
theorem dX8_here_22 : decode cX8_here 22 = .ok (.if_icmp .ne 16, 3) := by decide +kernel
theorem dX8_here_25 : decode cX8_here 25 = .ok (.aload_n 0, 1) := by decide +kernel
theorem dX8_here_26 : decode cX8_here 26 = .ok (.dup, 1) := by decide +kernel
theorem dX8_here_27 : decode cX8_here 27 = .ok (.getfield 142, 3) := by decide +kernel
theorem dX8_here_30 : decode cX8_here 30 = .ok (.iconst 1, 1) := by decide +kernel
theorem dX8_here_31 : decode cX8_here 31 = .ok (.iadd, 1) := by decide +kernel
theorem dX8_here_32 : decode cX8_here 32 = .ok (.putfield 142, 3) := by decide +kernel
theorem dX8_here_35 : decode cX8_here 35 = .ok (.goto (-35), 3) := by decide +kernel
theorem dX8_here_38 : decode cX8_here 38 = .ok (.aload_n 0, 1) := by decide +kernel
theorem dX8_here_39 : decode cX8_here 39 = .ok (.getfield 142, 3) := by decide +kernel
theorem dX8_here_42 : decode cX8_here 42 = .ok (.aload_n 0, 1) := by decide +kernel
theorem dX8_here_43 : decode cX8_here 43 = .ok (.getfield 136, 3) := by decide +kernel
theorem dX8_here_46 : decode cX8_here 46 = .ok (.if_icmp .ge 15, 3) := by decide +kernel
theorem dX8_here_49 : decode cX8_here 49 = .ok (.aload_n 0, 1) := by decide +kernel
theorem dX8_here_50 : decode cX8_here 50 = .ok (.getfield 47, 3) := by decide +kernel
theorem dX8_here_53 : decode cX8_here 53 = .ok (.aload_n 0, 1) := by decide +kernel
theorem dX8_here_54 : decode cX8_here 54 = .ok (.getfield 142, 3) := by decide +kernel
theorem dX8_here_57 : decode cX8_here 57 = .ok (.iaload, 1) := by decide +kernel
theorem dX8_here_58 : decode cX8_here 58 = .ok (.goto 4, 3) := by decide +kernel
theorem dX8_here_61 : decode cX8_here 61 = .ok (.iconst (-1), 1) := by decide +kernel
theorem dX8_here_62 : decode cX8_here 62 = .ok (.ireturn, 1) := by decide +kernel
theorem dX8_fails_0 : decode cX8_fails 0 = .ok (.aload_n 0, 1) := by decide +kernel
theorem dX8_fails_1 : decode cX8_fails 1 = .ok (.iload_n 2, 1) := by decide +kernel
theorem dX8_fails_2 : decode cX8_fails 2 = .ok (.putfield 50, 3) := by decide +kernel
theorem dX8_fails_5 : decode cX8_fails 5 = .ok (.iload_n 1, 1) := by decide +kernel
theorem dX8_fails_6 : decode cX8_fails 6 = .ok (.ireturn, 1) := by decide +kernel
theorem dX8_readWord_0 : decode cX8_readWord 0 = .ok (.aload_n 0, 1) := by decide +kernel
theorem dX8_readWord_1 : decode cX8_readWord 1 = .ok (.invokevirtual 145, 3) := by decide +kernel
theorem dX8_readWord_4 : decode cX8_readWord 4 = .ok (.istore_n 1, 1) := by decide +kernel
theorem dX8_readWord_5 : decode cX8_readWord 5 = .ok (.aload_n 0, 1) := by decide +kernel
theorem dX8_readWord_6 : decode cX8_readWord 6 = .ok (.lconst 0, 1) := by decide +kernel
theorem dX8_readWord_7 : decode cX8_readWord 7 = .ok (.putfield 149, 3) := by decide +kernel
theorem dX8_readWord_10 : decode cX8_readWord 10 = .ok (.aload_n 0, 1) := by decide +kernel
theorem dX8_readWord_11 : decode cX8_readWord 11 = .ok (.aload_n 0, 1) := by decide +kernel
theorem dX8_readWord_12 : decode cX8_readWord 12 = .ok (.getfield 142, 3) := by decide +kernel
theorem dX8_readWord_15 : decode cX8_readWord 15 = .ok (.putfield 153, 3) := by decide +kernel
theorem dX8_readWord_18 : decode cX8_readWord 18 = .ok (.aload_n 0, 1) := by decide +kernel
theorem dX8_readWord_19 : decode cX8_readWord 19 = .ok (.getfield 153, 3) := by decide +kernel
theorem dX8_readWord_22 : decode cX8_readWord 22 = .ok (.aload_n 0, 1) := by decide +kernel
theorem dX8_readWord_23 : decode cX8_readWord 23 = .ok (.getfield 136, 3) := by decide +kernel
theorem dX8_readWord_26 : decode cX8_readWord 26 = .ok (.if_icmp .ge 82, 3) := by decide +kernel
theorem dX8_readWord_29 : decode cX8_readWord 29 = .ok (.aload_n 0, 1) := by decide +kernel
theorem dX8_readWord_30 : decode cX8_readWord 30 = .ok (.getfield 47, 3) := by decide +kernel
theorem dX8_readWord_33 : decode cX8_readWord 33 = .ok (.aload_n 0, 1) := by decide +kernel
theorem dX8_readWord_34 : decode cX8_readWord 34 = .ok (.getfield 153, 3) := by decide +kernel
theorem dX8_readWord_37 : decode cX8_readWord 37 = .ok (.iaload, 1) := by decide +kernel
theorem dX8_readWord_38 : decode cX8_readWord 38 = .ok (.i2l, 1) := by decide +kernel
theorem dX8_readWord_39 : decode cX8_readWord 39 = .ok (.ldc2_w 156, 3) := by decide +kernel
theorem dX8_readWord_42 : decode cX8_readWord 42 = .ok (.ldc2_w 158, 3) := by decide +kernel
theorem dX8_readWord_45 : decode cX8_readWord 45 = .ok (.invokestatic 123, 3) := by decide +kernel
theorem dX8_readWord_48 : decode cX8_readWord 48 = .ok (.ifCond .eq 60, 3) := by decide +kernel
theorem dX8_readWord_51 : decode cX8_readWord 51 = .ok (.aload_n 0, 1) := by decide +kernel
theorem dX8_readWord_52 : decode cX8_readWord 52 = .ok (.aload_n 0, 1) := by decide +kernel
theorem dX8_readWord_53 : decode cX8_readWord 53 = .ok (.getfield 149, 3) := by decide +kernel
theorem dX8_readWord_56 : decode cX8_readWord 56 = .ok (.ldc2_w 160, 3) := by decide +kernel
theorem dX8_readWord_59 : decode cX8_readWord 59 = .ok (.lcmp, 1) := by decide +kernel
theorem dX8_readWord_60 : decode cX8_readWord 60 = .ok (.ifCond .le 9, 3) := by decide +kernel
theorem dX8_readWord_63 : decode cX8_readWord 63 = .ok (.ldc2_w 162, 3) := by decide +kernel
theorem dX8_readWord_66 : decode cX8_readWord 66 = .ok (.goto 26, 3) := by decide +kernel
theorem dX8_readWord_69 : decode cX8_readWord 69 = .ok (.ldc2_w 164, 3) := by decide +kernel
theorem dX8_readWord_72 : decode cX8_readWord 72 = .ok (.aload_n 0, 1) := by decide +kernel
theorem dX8_readWord_73 : decode cX8_readWord 73 = .ok (.getfield 149, 3) := by decide +kernel
theorem dX8_readWord_76 : decode cX8_readWord 76 = .ok (.lmul, 1) := by decide +kernel
theorem dX8_readWord_77 : decode cX8_readWord 77 = .ok (.aload_n 0, 1) := by decide +kernel
theorem dX8_readWord_78 : decode cX8_readWord 78 = .ok (.getfield 47, 3) := by decide +kernel
theorem dX8_readWord_81 : decode cX8_readWord 81 = .ok (.aload_n 0, 1) := by decide +kernel
theorem dX8_readWord_82 : decode cX8_readWord 82 = .ok (.getfield 153, 3) := by decide +kernel
theorem dX8_readWord_85 : decode cX8_readWord 85 = .ok (.iaload, 1) := by decide +kernel
theorem dX8_readWord_86 : decode cX8_readWord 86 = .ok (.i2l, 1) := by decide +kernel
theorem dX8_readWord_87 : decode cX8_readWord 87 = .ok (.ladd, 1) := by decide +kernel
theorem dX8_readWord_88 : decode cX8_readWord 88 = .ok (.ldc2_w 166, 3) := by decide +kernel
theorem dX8_readWord_91 : decode cX8_readWord 91 = .ok (.lsub, 1) := by decide +kernel
theorem dX8_readWord_92 : decode cX8_readWord 92 = .ok (.putfield 149, 3) := by decide +kernel
theorem dX8_readWord_95 : decode cX8_readWord 95 = .ok (.aload_n 0, 1) := by decide +kernel
theorem dX8_readWord_96 : decode cX8_readWord 96 = .ok (.dup, 1) := by decide +kernel
theorem dX8_readWord_97 : decode cX8_readWord 97 = .ok (.getfield 153, 3) := by decide +kernel
theorem dX8_readWord_100 : decode cX8_readWord 100 = .ok (.iconst 1, 1) := by decide +kernel
theorem dX8_readWord_101 : decode cX8_readWord 101 = .ok (.iadd, 1) := by decide +kernel
theorem dX8_readWord_102 : decode cX8_readWord 102 = .ok (.putfield 153, 3) := by decide +kernel
theorem dX8_readWord_105 : decode cX8_readWord 105 = .ok (.goto (-87), 3) := by decide +kernel
theorem dX8_readWord_108 : decode cX8_readWord 108 = .ok (.return_, 1) := by decide +kernel
theorem dX8_code_0 : decode cX8_code 0 = .ok (.ldc2_w 164, 3) := by decide +kernel
theorem dX8_code_3 : decode cX8_code 3 = .ok (.ldc2_w 164, 3) := by decide +kernel
theorem dX8_code_6 : decode cX8_code 6 = .ok (.iload_n 0, 1) := by decide +kernel
theorem dX8_code_7 : decode cX8_code 7 = .ok (.i2l, 1) := by decide +kernel
theorem dX8_code_8 : decode cX8_code 8 = .ok (.ldc2_w 166, 3) := by decide +kernel
theorem dX8_code_11 : decode cX8_code 11 = .ok (.lsub, 1) := by decide +kernel
theorem dX8_code_12 : decode cX8_code 12 = .ok (.lmul, 1) := by decide +kernel
theorem dX8_code_13 : decode cX8_code 13 = .ok (.iload_n 1, 1) := by decide +kernel
theorem dX8_code_14 : decode cX8_code 14 = .ok (.i2l, 1) := by decide +kernel
theorem dX8_code_15 : decode cX8_code 15 = .ok (.ladd, 1) := by decide +kernel
theorem dX8_code_16 : decode cX8_code 16 = .ok (.ldc2_w 166, 3) := by decide +kernel
theorem dX8_code_19 : decode cX8_code 19 = .ok (.lsub, 1) := by decide +kernel
theorem dX8_code_20 : decode cX8_code 20 = .ok (.lmul, 1) := by decide +kernel
theorem dX8_code_21 : decode cX8_code 21 = .ok (.iload_n 2, 1) := by decide +kernel
theorem dX8_code_22 : decode cX8_code 22 = .ok (.i2l, 1) := by decide +kernel
theorem dX8_code_23 : decode cX8_code 23 = .ok (.ladd, 1) := by decide +kernel
theorem dX8_code_24 : decode cX8_code 24 = .ok (.ldc2_w 166, 3) := by decide +kernel
theorem dX8_code_27 : decode cX8_code 27 = .ok (.lsub, 1) := by decide +kernel
theorem dX8_code_28 : decode cX8_code 28 = .ok (.lreturn, 1) := by decide +kernel
theorem dX8_more_0 : decode cX8_more 0 = .ok (.ldc2_w 164, 3) := by decide +kernel
theorem dX8_more_3 : decode cX8_more 3 = .ok (.lload_n 0, 1) := by decide +kernel
theorem dX8_more_4 : decode cX8_more 4 = .ok (.lmul, 1) := by decide +kernel
theorem dX8_more_5 : decode cX8_more 5 = .ok (.iload_n 2, 1) := by decide +kernel
theorem dX8_more_6 : decode cX8_more 6 = .ok (.i2l, 1) := by decide +kernel
theorem dX8_more_7 : decode cX8_more 7 = .ok (.ladd, 1) := by decide +kernel
theorem dX8_more_8 : decode cX8_more 8 = .ok (.ldc2_w 166, 3) := by decide +kernel
theorem dX8_more_11 : decode cX8_more 11 = .ok (.lsub, 1) := by decide +kernel
theorem dX8_more_12 : decode cX8_more 12 = .ok (.lreturn, 1) := by decide +kernel
theorem dX8_takeNumber_0 : decode cX8_takeNumber 0 = .ok (.aload_n 0, 1) := by decide +kernel
theorem dX8_takeNumber_1 : decode cX8_takeNumber 1 = .ok (.invokevirtual 145, 3) := by decide +kernel
theorem dX8_takeNumber_4 : decode cX8_takeNumber 4 = .ok (.istore_n 3, 1) := by decide +kernel
theorem dX8_takeNumber_5 : decode cX8_takeNumber 5 = .ok (.iload_n 3, 1) := by decide +kernel
theorem dX8_takeNumber_6 : decode cX8_takeNumber 6 = .ok (.i2l, 1) := by decide +kernel
theorem dX8_takeNumber_7 : decode cX8_takeNumber 7 = .ok (.ldc2_w 168, 3) := by decide +kernel
theorem dX8_takeNumber_10 : decode cX8_takeNumber 10 = .ok (.ldc2_w 170, 3) := by decide +kernel
theorem dX8_takeNumber_13 : decode cX8_takeNumber 13 = .ok (.invokestatic 123, 3) := by decide +kernel
theorem dX8_takeNumber_16 : decode cX8_takeNumber 16 = .ok (.ifCond .ne 13, 3) := by decide +kernel
theorem dX8_takeNumber_19 : decode cX8_takeNumber 19 = .ok (.aload_n 0, 1) := by decide +kernel
theorem dX8_takeNumber_20 : decode cX8_takeNumber 20 = .ok (.iconst 1, 1) := by decide +kernel
theorem dX8_takeNumber_21 : decode cX8_takeNumber 21 = .ok (.aload_n 0, 1) := by decide +kernel
theorem dX8_takeNumber_22 : decode cX8_takeNumber 22 = .ok (.getfield 142, 3) := by decide +kernel
theorem dX8_takeNumber_25 : decode cX8_takeNumber 25 = .ok (.invokevirtual 172, 3) := by decide +kernel
theorem dX8_takeNumber_28 : decode cX8_takeNumber 28 = .ok (.ireturn, 1) := by decide +kernel
theorem dX8_takeNumber_29 : decode cX8_takeNumber 29 = .ok (.aload_n 0, 1) := by decide +kernel
theorem dX8_takeNumber_30 : decode cX8_takeNumber 30 = .ok (.aload_n 0, 1) := by decide +kernel
theorem dX8_takeNumber_31 : decode cX8_takeNumber 31 = .ok (.getfield 142, 3) := by decide +kernel
theorem dX8_takeNumber_34 : decode cX8_takeNumber 34 = .ok (.putfield 176, 3) := by decide +kernel
theorem dX8_takeNumber_37 : decode cX8_takeNumber 37 = .ok (.aload_n 0, 1) := by decide +kernel
theorem dX8_takeNumber_38 : decode cX8_takeNumber 38 = .ok (.iconst 0, 1) := by decide +kernel
theorem dX8_takeNumber_39 : decode cX8_takeNumber 39 = .ok (.putfield 179, 3) := by decide +kernel
theorem dX8_takeNumber_42 : decode cX8_takeNumber 42 = .ok (.aload_n 0, 1) := by decide +kernel
theorem dX8_takeNumber_43 : decode cX8_takeNumber 43 = .ok (.getfield 142, 3) := by decide +kernel
theorem dX8_takeNumber_46 : decode cX8_takeNumber 46 = .ok (.aload_n 0, 1) := by decide +kernel
theorem dX8_takeNumber_47 : decode cX8_takeNumber 47 = .ok (.getfield 136, 3) := by decide +kernel
theorem dX8_takeNumber_50 : decode cX8_takeNumber 50 = .ok (.if_icmp .ge 79, 3) := by decide +kernel
theorem dX8_takeNumber_53 : decode cX8_takeNumber 53 = .ok (.aload_n 0, 1) := by decide +kernel
theorem dX8_takeNumber_54 : decode cX8_takeNumber 54 = .ok (.getfield 47, 3) := by decide +kernel
theorem dX8_takeNumber_57 : decode cX8_takeNumber 57 = .ok (.aload_n 0, 1) := by decide +kernel
theorem dX8_takeNumber_58 : decode cX8_takeNumber 58 = .ok (.getfield 142, 3) := by decide +kernel
theorem dX8_takeNumber_61 : decode cX8_takeNumber 61 = .ok (.iaload, 1) := by decide +kernel
theorem dX8_takeNumber_62 : decode cX8_takeNumber 62 = .ok (.i2l, 1) := by decide +kernel
theorem dX8_takeNumber_63 : decode cX8_takeNumber 63 = .ok (.ldc2_w 168, 3) := by decide +kernel
theorem dX8_takeNumber_66 : decode cX8_takeNumber 66 = .ok (.ldc2_w 170, 3) := by decide +kernel
theorem dX8_takeNumber_69 : decode cX8_takeNumber 69 = .ok (.invokestatic 123, 3) := by decide +kernel
theorem dX8_takeNumber_72 : decode cX8_takeNumber 72 = .ok (.ifCond .eq 57, 3) := by decide +kernel
theorem dX8_takeNumber_75 : decode cX8_takeNumber 75 = .ok (.aload_n 0, 1) := by decide +kernel
theorem dX8_takeNumber_76 : decode cX8_takeNumber 76 = .ok (.aload_n 0, 1) := by decide +kernel
theorem dX8_takeNumber_77 : decode cX8_takeNumber 77 = .ok (.getfield 179, 3) := by decide +kernel
theorem dX8_takeNumber_80 : decode cX8_takeNumber 80 = .ok (.sipush 10000, 3) := by decide +kernel
theorem dX8_takeNumber_83 : decode cX8_takeNumber 83 = .ok (.if_icmp .le 10, 3) := by decide +kernel
theorem dX8_takeNumber_86 : decode cX8_takeNumber 86 = .ok (.aload_n 0, 1) := by decide +kernel
theorem dX8_takeNumber_87 : decode cX8_takeNumber 87 = .ok (.getfield 179, 3) := by decide +kernel
theorem dX8_takeNumber_90 : decode cX8_takeNumber 90 = .ok (.goto 23, 3) := by decide +kernel
theorem dX8_takeNumber_93 : decode cX8_takeNumber 93 = .ok (.bipush 10, 2) := by decide +kernel
theorem dX8_takeNumber_95 : decode cX8_takeNumber 95 = .ok (.aload_n 0, 1) := by decide +kernel
theorem dX8_takeNumber_96 : decode cX8_takeNumber 96 = .ok (.getfield 179, 3) := by decide +kernel
theorem dX8_takeNumber_99 : decode cX8_takeNumber 99 = .ok (.imul, 1) := by decide +kernel
theorem dX8_takeNumber_100 : decode cX8_takeNumber 100 = .ok (.aload_n 0, 1) := by decide +kernel
theorem dX8_takeNumber_101 : decode cX8_takeNumber 101 = .ok (.getfield 47, 3) := by decide +kernel
theorem dX8_takeNumber_104 : decode cX8_takeNumber 104 = .ok (.aload_n 0, 1) := by decide +kernel
theorem dX8_takeNumber_105 : decode cX8_takeNumber 105 = .ok (.getfield 142, 3) := by decide +kernel
theorem dX8_takeNumber_108 : decode cX8_takeNumber 108 = .ok (.iaload, 1) := by decide +kernel
theorem dX8_takeNumber_109 : decode cX8_takeNumber 109 = .ok (.iadd, 1) := by decide +kernel
theorem dX8_takeNumber_110 : decode cX8_takeNumber 110 = .ok (.bipush 48, 2) := by decide +kernel
theorem dX8_takeNumber_112 : decode cX8_takeNumber 112 = .ok (.isub, 1) := by decide +kernel
theorem dX8_takeNumber_113 : decode cX8_takeNumber 113 = .ok (.putfield 179, 3) := by decide +kernel
theorem dX8_takeNumber_116 : decode cX8_takeNumber 116 = .ok (.aload_n 0, 1) := by decide +kernel
theorem dX8_takeNumber_117 : decode cX8_takeNumber 117 = .ok (.dup, 1) := by decide +kernel
theorem dX8_takeNumber_118 : decode cX8_takeNumber 118 = .ok (.getfield 142, 3) := by decide +kernel
theorem dX8_takeNumber_121 : decode cX8_takeNumber 121 = .ok (.iconst 1, 1) := by decide +kernel
theorem dX8_takeNumber_122 : decode cX8_takeNumber 122 = .ok (.iadd, 1) := by decide +kernel
theorem dX8_takeNumber_123 : decode cX8_takeNumber 123 = .ok (.putfield 142, 3) := by decide +kernel
theorem dX8_takeNumber_126 : decode cX8_takeNumber 126 = .ok (.goto (-84), 3) := by decide +kernel
theorem dX8_takeNumber_129 : decode cX8_takeNumber 129 = .ok (.aload_n 0, 1) := by decide +kernel
theorem dX8_takeNumber_130 : decode cX8_takeNumber 130 = .ok (.getfield 142, 3) := by decide +kernel
theorem dX8_takeNumber_133 : decode cX8_takeNumber 133 = .ok (.aload_n 0, 1) := by decide +kernel
theorem dX8_takeNumber_134 : decode cX8_takeNumber 134 = .ok (.getfield 176, 3) := by decide +kernel
theorem dX8_takeNumber_137 : decode cX8_takeNumber 137 = .ok (.isub, 1) := by decide +kernel
theorem dX8_takeNumber_138 : decode cX8_takeNumber 138 = .ok (.iconst 3, 1) := by decide +kernel
theorem dX8_takeNumber_139 : decode cX8_takeNumber 139 = .ok (.if_icmp .gt 18, 3) := by decide +kernel
theorem dX8_takeNumber_142 : decode cX8_takeNumber 142 = .ok (.aload_n 0, 1) := by decide +kernel
theorem dX8_takeNumber_143 : decode cX8_takeNumber 143 = .ok (.getfield 179, 3) := by decide +kernel
theorem dX8_takeNumber_146 : decode cX8_takeNumber 146 = .ok (.i2l, 1) := by decide +kernel
theorem dX8_takeNumber_147 : decode cX8_takeNumber 147 = .ok (.iload_n 1, 1) := by decide +kernel
theorem dX8_takeNumber_148 : decode cX8_takeNumber 148 = .ok (.i2l, 1) := by decide +kernel
theorem dX8_takeNumber_149 : decode cX8_takeNumber 149 = .ok (.iload_n 2, 1) := by decide +kernel
theorem dX8_takeNumber_150 : decode cX8_takeNumber 150 = .ok (.i2l, 1) := by decide +kernel
theorem dX8_takeNumber_151 : decode cX8_takeNumber 151 = .ok (.invokestatic 123, 3) := by decide +kernel
theorem dX8_takeNumber_154 : decode cX8_takeNumber 154 = .ok (.ifCond .ne 15, 3) := by decide +kernel
theorem dX8_takeNumber_157 : decode cX8_takeNumber 157 = .ok (.aload_n 0, 1) := by decide +kernel
theorem dX8_takeNumber_158 : decode cX8_takeNumber 158 = .ok (.iconst 2, 1) := by decide +kernel
theorem dX8_takeNumber_159 : decode cX8_takeNumber 159 = .ok (.aload_n 0, 1) := by decide +kernel
theorem dX8_takeNumber_160 : decode cX8_takeNumber 160 = .ok (.getfield 176, 3) := by decide +kernel
theorem dX8_takeNumber_163 : decode cX8_takeNumber 163 = .ok (.invokevirtual 172, 3) := by decide +kernel
theorem dX8_takeNumber_166 : decode cX8_takeNumber 166 = .ok (.goto 4, 3) := by decide +kernel
theorem dX8_takeNumber_169 : decode cX8_takeNumber 169 = .ok (.iconst 0, 1) := by decide +kernel
theorem dX8_takeNumber_170 : decode cX8_takeNumber 170 = .ok (.ireturn, 1) := by decide +kernel
theorem dX8_into_0 : decode cX8_into 0 = .ok (.aload_n 0, 1) := by decide +kernel
theorem dX8_into_1 : decode cX8_into 1 = .ok (.iload_n 3, 1) := by decide +kernel
theorem dX8_into_2 : decode cX8_into 2 = .ok (.iload 4, 2) := by decide +kernel
theorem dX8_into_4 : decode cX8_into 4 = .ok (.invokevirtual 182, 3) := by decide +kernel
theorem dX8_into_7 : decode cX8_into 7 = .ok (.istore 5, 2) := by decide +kernel
theorem dX8_into_9 : decode cX8_into 9 = .ok (.aload_n 1, 1) := by decide +kernel
theorem dX8_into_10 : decode cX8_into 10 = .ok (.iload_n 2, 1) := by decide +kernel
theorem dX8_into_11 : decode cX8_into 11 = .ok (.aload_n 0, 1) := by decide +kernel
theorem dX8_into_12 : decode cX8_into 12 = .ok (.getfield 179, 3) := by decide +kernel
theorem dX8_into_15 : decode cX8_into 15 = .ok (.iastore, 1) := by decide +kernel
theorem dX8_into_16 : decode cX8_into 16 = .ok (.iload 5, 2) := by decide +kernel
theorem dX8_into_18 : decode cX8_into 18 = .ok (.ireturn, 1) := by decide +kernel
theorem dX8_takeBell_0 : decode cX8_takeBell 0 = .ok (.aload_n 0, 1) := by decide +kernel
theorem dX8_takeBell_1 : decode cX8_takeBell 1 = .ok (.getfield 185, 3) := by decide +kernel
theorem dX8_takeBell_4 : decode cX8_takeBell 4 = .ok (.istore_n 1, 1) := by decide +kernel
theorem dX8_takeBell_5 : decode cX8_takeBell 5 = .ok (.aload_n 0, 1) := by decide +kernel
theorem dX8_takeBell_6 : decode cX8_takeBell 6 = .ok (.dup, 1) := by decide +kernel
theorem dX8_takeBell_7 : decode cX8_takeBell 7 = .ok (.getfield 185, 3) := by decide +kernel
theorem dX8_takeBell_10 : decode cX8_takeBell 10 = .ok (.iconst 1, 1) := by decide +kernel
theorem dX8_takeBell_11 : decode cX8_takeBell 11 = .ok (.iadd, 1) := by decide +kernel
theorem dX8_takeBell_12 : decode cX8_takeBell 12 = .ok (.putfield 185, 3) := by decide +kernel
theorem dX8_takeBell_15 : decode cX8_takeBell 15 = .ok (.aload_n 0, 1) := by decide +kernel
theorem dX8_takeBell_16 : decode cX8_takeBell 16 = .ok (.aload_n 0, 1) := by decide +kernel
theorem dX8_takeBell_17 : decode cX8_takeBell 17 = .ok (.getfield 53, 3) := by decide +kernel
theorem dX8_takeBell_20 : decode cX8_takeBell 20 = .ok (.iload_n 1, 1) := by decide +kernel
theorem dX8_takeBell_21 : decode cX8_takeBell 21 = .ok (.iconst 0, 1) := by decide +kernel
theorem dX8_takeBell_22 : decode cX8_takeBell 22 = .ok (.bipush 99, 2) := by decide +kernel
theorem dX8_takeBell_24 : decode cX8_takeBell 24 = .ok (.invokevirtual 188, 3) := by decide +kernel
theorem dX8_takeBell_27 : decode cX8_takeBell 27 = .ok (.istore_n 2, 1) := by decide +kernel
theorem dX8_takeBell_28 : decode cX8_takeBell 28 = .ok (.iload_n 2, 1) := by decide +kernel
theorem dX8_takeBell_29 : decode cX8_takeBell 29 = .ok (.ifCond .le 7, 3) := by decide +kernel
theorem dX8_takeBell_32 : decode cX8_takeBell 32 = .ok (.iload_n 2, 1) := by decide +kernel
theorem dX8_takeBell_33 : decode cX8_takeBell 33 = .ok (.goto 15, 3) := by decide +kernel
theorem dX8_takeBell_36 : decode cX8_takeBell 36 = .ok (.aload_n 0, 1) := by decide +kernel
theorem dX8_takeBell_37 : decode cX8_takeBell 37 = .ok (.aload_n 0, 1) := by decide +kernel
theorem dX8_takeBell_38 : decode cX8_takeBell 38 = .ok (.getfield 56, 3) := by decide +kernel
theorem dX8_takeBell_41 : decode cX8_takeBell 41 = .ok (.iload_n 1, 1) := by decide +kernel
theorem dX8_takeBell_42 : decode cX8_takeBell 42 = .ok (.iconst 0, 1) := by decide +kernel
theorem dX8_takeBell_43 : decode cX8_takeBell 43 = .ok (.bipush 9, 2) := by decide +kernel
theorem dX8_takeBell_45 : decode cX8_takeBell 45 = .ok (.invokevirtual 188, 3) := by decide +kernel
theorem dX8_takeBell_48 : decode cX8_takeBell 48 = .ok (.ireturn, 1) := by decide +kernel
theorem dX8_takeSpot_0 : decode cX8_takeSpot 0 = .ok (.aload_n 0, 1) := by decide +kernel
theorem dX8_takeSpot_1 : decode cX8_takeSpot 1 = .ok (.getfield 192, 3) := by decide +kernel
theorem dX8_takeSpot_4 : decode cX8_takeSpot 4 = .ok (.istore_n 1, 1) := by decide +kernel
theorem dX8_takeSpot_5 : decode cX8_takeSpot 5 = .ok (.aload_n 0, 1) := by decide +kernel
theorem dX8_takeSpot_6 : decode cX8_takeSpot 6 = .ok (.dup, 1) := by decide +kernel
theorem dX8_takeSpot_7 : decode cX8_takeSpot 7 = .ok (.getfield 192, 3) := by decide +kernel
theorem dX8_takeSpot_10 : decode cX8_takeSpot 10 = .ok (.iconst 1, 1) := by decide +kernel
theorem dX8_takeSpot_11 : decode cX8_takeSpot 11 = .ok (.iadd, 1) := by decide +kernel
theorem dX8_takeSpot_12 : decode cX8_takeSpot 12 = .ok (.putfield 192, 3) := by decide +kernel
theorem dX8_takeSpot_15 : decode cX8_takeSpot 15 = .ok (.aload_n 0, 1) := by decide +kernel
theorem dX8_takeSpot_16 : decode cX8_takeSpot 16 = .ok (.aload_n 0, 1) := by decide +kernel
theorem dX8_takeSpot_17 : decode cX8_takeSpot 17 = .ok (.getfield 59, 3) := by decide +kernel
theorem dX8_takeSpot_20 : decode cX8_takeSpot 20 = .ok (.iload_n 1, 1) := by decide +kernel
theorem dX8_takeSpot_21 : decode cX8_takeSpot 21 = .ok (.iconst 0, 1) := by decide +kernel
theorem dX8_takeSpot_22 : decode cX8_takeSpot 22 = .ok (.bipush 20, 2) := by decide +kernel
theorem dX8_takeSpot_24 : decode cX8_takeSpot 24 = .ok (.invokevirtual 188, 3) := by decide +kernel
theorem dX8_takeSpot_27 : decode cX8_takeSpot 27 = .ok (.istore_n 2, 1) := by decide +kernel
theorem dX8_takeSpot_28 : decode cX8_takeSpot 28 = .ok (.iload_n 2, 1) := by decide +kernel
theorem dX8_takeSpot_29 : decode cX8_takeSpot 29 = .ok (.ifCond .le 7, 3) := by decide +kernel
theorem dX8_takeSpot_32 : decode cX8_takeSpot 32 = .ok (.iload_n 2, 1) := by decide +kernel
theorem dX8_takeSpot_33 : decode cX8_takeSpot 33 = .ok (.goto 15, 3) := by decide +kernel
theorem dX8_takeSpot_36 : decode cX8_takeSpot 36 = .ok (.aload_n 0, 1) := by decide +kernel
theorem dX8_takeSpot_37 : decode cX8_takeSpot 37 = .ok (.aload_n 0, 1) := by decide +kernel
theorem dX8_takeSpot_38 : decode cX8_takeSpot 38 = .ok (.getfield 62, 3) := by decide +kernel
theorem dX8_takeSpot_41 : decode cX8_takeSpot 41 = .ok (.iload_n 1, 1) := by decide +kernel
theorem dX8_takeSpot_42 : decode cX8_takeSpot 42 = .ok (.iconst 0, 1) := by decide +kernel
theorem dX8_takeSpot_43 : decode cX8_takeSpot 43 = .ok (.bipush 9, 2) := by decide +kernel
theorem dX8_takeSpot_45 : decode cX8_takeSpot 45 = .ok (.invokevirtual 188, 3) := by decide +kernel
theorem dX8_takeSpot_48 : decode cX8_takeSpot 48 = .ok (.istore_n 2, 1) := by decide +kernel
theorem dX8_takeSpot_49 : decode cX8_takeSpot 49 = .ok (.iload_n 2, 1) := by decide +kernel
theorem dX8_takeSpot_50 : decode cX8_takeSpot 50 = .ok (.ifCond .le 7, 3) := by decide +kernel
theorem dX8_takeSpot_53 : decode cX8_takeSpot 53 = .ok (.iload_n 2, 1) := by decide +kernel
theorem dX8_takeSpot_54 : decode cX8_takeSpot 54 = .ok (.goto 16, 3) := by decide +kernel
theorem dX8_takeSpot_57 : decode cX8_takeSpot 57 = .ok (.aload_n 0, 1) := by decide +kernel
theorem dX8_takeSpot_58 : decode cX8_takeSpot 58 = .ok (.aload_n 0, 1) := by decide +kernel
theorem dX8_takeSpot_59 : decode cX8_takeSpot 59 = .ok (.getfield 65, 3) := by decide +kernel
theorem dX8_takeSpot_62 : decode cX8_takeSpot 62 = .ok (.iload_n 1, 1) := by decide +kernel
theorem dX8_takeSpot_63 : decode cX8_takeSpot 63 = .ok (.iconst 0, 1) := by decide +kernel
theorem dX8_takeSpot_64 : decode cX8_takeSpot 64 = .ok (.sipush 200, 3) := by decide +kernel
theorem dX8_takeSpot_67 : decode cX8_takeSpot 67 = .ok (.invokevirtual 188, 3) := by decide +kernel
theorem dX8_takeSpot_70 : decode cX8_takeSpot 70 = .ok (.ireturn, 1) := by decide +kernel
theorem dX8_takeBeggar_0 : decode cX8_takeBeggar 0 = .ok (.aload_n 0, 1) := by decide +kernel
theorem dX8_takeBeggar_1 : decode cX8_takeBeggar 1 = .ok (.getfield 195, 3) := by decide +kernel
theorem dX8_takeBeggar_4 : decode cX8_takeBeggar 4 = .ok (.istore_n 1, 1) := by decide +kernel
theorem dX8_takeBeggar_5 : decode cX8_takeBeggar 5 = .ok (.aload_n 0, 1) := by decide +kernel
theorem dX8_takeBeggar_6 : decode cX8_takeBeggar 6 = .ok (.dup, 1) := by decide +kernel
theorem dX8_takeBeggar_7 : decode cX8_takeBeggar 7 = .ok (.getfield 195, 3) := by decide +kernel
theorem dX8_takeBeggar_10 : decode cX8_takeBeggar 10 = .ok (.iconst 1, 1) := by decide +kernel
theorem dX8_takeBeggar_11 : decode cX8_takeBeggar 11 = .ok (.iadd, 1) := by decide +kernel
theorem dX8_takeBeggar_12 : decode cX8_takeBeggar 12 = .ok (.putfield 195, 3) := by decide +kernel
theorem dX8_takeBeggar_15 : decode cX8_takeBeggar 15 = .ok (.aload_n 0, 1) := by decide +kernel
theorem dX8_takeBeggar_16 : decode cX8_takeBeggar 16 = .ok (.aload_n 0, 1) := by decide +kernel
theorem dX8_takeBeggar_17 : decode cX8_takeBeggar 17 = .ok (.getfield 68, 3) := by decide +kernel
theorem dX8_takeBeggar_20 : decode cX8_takeBeggar 20 = .ok (.iload_n 1, 1) := by decide +kernel
theorem dX8_takeBeggar_21 : decode cX8_takeBeggar 21 = .ok (.iconst 1, 1) := by decide +kernel
theorem dX8_takeBeggar_22 : decode cX8_takeBeggar 22 = .ok (.bipush 90, 2) := by decide +kernel
theorem dX8_takeBeggar_24 : decode cX8_takeBeggar 24 = .ok (.invokevirtual 188, 3) := by decide +kernel
theorem dX8_takeBeggar_27 : decode cX8_takeBeggar 27 = .ok (.ireturn, 1) := by decide +kernel
theorem dX8_takeHat_0 : decode cX8_takeHat 0 = .ok (.aload_n 0, 1) := by decide +kernel
theorem dX8_takeHat_1 : decode cX8_takeHat 1 = .ok (.getfield 198, 3) := by decide +kernel
theorem dX8_takeHat_4 : decode cX8_takeHat 4 = .ok (.istore_n 1, 1) := by decide +kernel
theorem dX8_takeHat_5 : decode cX8_takeHat 5 = .ok (.aload_n 0, 1) := by decide +kernel
theorem dX8_takeHat_6 : decode cX8_takeHat 6 = .ok (.dup, 1) := by decide +kernel
theorem dX8_takeHat_7 : decode cX8_takeHat 7 = .ok (.getfield 198, 3) := by decide +kernel
theorem dX8_takeHat_10 : decode cX8_takeHat 10 = .ok (.iconst 1, 1) := by decide +kernel
theorem dX8_takeHat_11 : decode cX8_takeHat 11 = .ok (.iadd, 1) := by decide +kernel
theorem dX8_takeHat_12 : decode cX8_takeHat 12 = .ok (.putfield 198, 3) := by decide +kernel
theorem dX8_takeHat_15 : decode cX8_takeHat 15 = .ok (.aload_n 0, 1) := by decide +kernel
theorem dX8_takeHat_16 : decode cX8_takeHat 16 = .ok (.aload_n 0, 1) := by decide +kernel
theorem dX8_takeHat_17 : decode cX8_takeHat 17 = .ok (.getfield 71, 3) := by decide +kernel
theorem dX8_takeHat_20 : decode cX8_takeHat 20 = .ok (.iload_n 1, 1) := by decide +kernel
theorem dX8_takeHat_21 : decode cX8_takeHat 21 = .ok (.iconst 1, 1) := by decide +kernel
theorem dX8_takeHat_22 : decode cX8_takeHat 22 = .ok (.bipush 20, 2) := by decide +kernel
theorem dX8_takeHat_24 : decode cX8_takeHat 24 = .ok (.invokevirtual 188, 3) := by decide +kernel
theorem dX8_takeHat_27 : decode cX8_takeHat 27 = .ok (.istore_n 2, 1) := by decide +kernel
theorem dX8_takeHat_28 : decode cX8_takeHat 28 = .ok (.iload_n 2, 1) := by decide +kernel
theorem dX8_takeHat_29 : decode cX8_takeHat 29 = .ok (.ifCond .le 7, 3) := by decide +kernel
theorem dX8_takeHat_32 : decode cX8_takeHat 32 = .ok (.iload_n 2, 1) := by decide +kernel
theorem dX8_takeHat_33 : decode cX8_takeHat 33 = .ok (.goto 15, 3) := by decide +kernel
theorem dX8_takeHat_36 : decode cX8_takeHat 36 = .ok (.aload_n 0, 1) := by decide +kernel
theorem dX8_takeHat_37 : decode cX8_takeHat 37 = .ok (.aload_n 0, 1) := by decide +kernel
theorem dX8_takeHat_38 : decode cX8_takeHat 38 = .ok (.getfield 74, 3) := by decide +kernel
theorem dX8_takeHat_41 : decode cX8_takeHat 41 = .ok (.iload_n 1, 1) := by decide +kernel
theorem dX8_takeHat_42 : decode cX8_takeHat 42 = .ok (.iconst 0, 1) := by decide +kernel
theorem dX8_takeHat_43 : decode cX8_takeHat 43 = .ok (.bipush 50, 2) := by decide +kernel
theorem dX8_takeHat_45 : decode cX8_takeHat 45 = .ok (.invokevirtual 188, 3) := by decide +kernel
theorem dX8_takeHat_48 : decode cX8_takeHat 48 = .ok (.ireturn, 1) := by decide +kernel
theorem dX8_takeYear_0 : decode cX8_takeYear 0 = .ok (.aload_n 0, 1) := by decide +kernel
theorem dX8_takeYear_1 : decode cX8_takeYear 1 = .ok (.iconst 1, 1) := by decide +kernel
theorem dX8_takeYear_2 : decode cX8_takeYear 2 = .ok (.bipush 60, 2) := by decide +kernel
theorem dX8_takeYear_4 : decode cX8_takeYear 4 = .ok (.invokevirtual 182, 3) := by decide +kernel
theorem dX8_takeYear_7 : decode cX8_takeYear 7 = .ok (.istore_n 1, 1) := by decide +kernel
theorem dX8_takeYear_8 : decode cX8_takeYear 8 = .ok (.aload_n 0, 1) := by decide +kernel
theorem dX8_takeYear_9 : decode cX8_takeYear 9 = .ok (.aload_n 0, 1) := by decide +kernel
theorem dX8_takeYear_10 : decode cX8_takeYear 10 = .ok (.getfield 179, 3) := by decide +kernel
theorem dX8_takeYear_13 : decode cX8_takeYear 13 = .ok (.putfield 201, 3) := by decide +kernel
theorem dX8_takeYear_16 : decode cX8_takeYear 16 = .ok (.iload_n 1, 1) := by decide +kernel
theorem dX8_takeYear_17 : decode cX8_takeYear 17 = .ok (.ireturn, 1) := by decide +kernel
theorem dX8_takeClause_0 : decode cX8_takeClause 0 = .ok (.aload_n 0, 1) := by decide +kernel
theorem dX8_takeClause_1 : decode cX8_takeClause 1 = .ok (.invokevirtual 204, 3) := by decide +kernel
theorem dX8_takeClause_4 : decode cX8_takeClause 4 = .ok (.aload_n 0, 1) := by decide +kernel
theorem dX8_takeClause_5 : decode cX8_takeClause 5 = .ok (.getfield 149, 3) := by decide +kernel
theorem dX8_takeClause_8 : decode cX8_takeClause 8 = .ok (.bipush 121, 2) := by decide +kernel
theorem dX8_takeClause_10 : decode cX8_takeClause 10 = .ok (.bipush 101, 2) := by decide +kernel
theorem dX8_takeClause_12 : decode cX8_takeClause 12 = .ok (.bipush 97, 2) := by decide +kernel
theorem dX8_takeClause_14 : decode cX8_takeClause 14 = .ok (.invokestatic 207, 3) := by decide +kernel
theorem dX8_takeClause_17 : decode cX8_takeClause 17 = .ok (.bipush 114, 2) := by decide +kernel
theorem dX8_takeClause_19 : decode cX8_takeClause 19 = .ok (.invokestatic 211, 3) := by decide +kernel
theorem dX8_takeClause_22 : decode cX8_takeClause 22 = .ok (.lcmp, 1) := by decide +kernel
theorem dX8_takeClause_23 : decode cX8_takeClause 23 = .ok (.ifCond .ne 7, 3) := by decide +kernel
theorem dX8_takeClause_26 : decode cX8_takeClause 26 = .ok (.iconst 0, 1) := by decide +kernel
theorem dX8_takeClause_27 : decode cX8_takeClause 27 = .ok (.goto 56, 3) := by decide +kernel
theorem dX8_takeClause_30 : decode cX8_takeClause 30 = .ok (.aload_n 0, 1) := by decide +kernel
theorem dX8_takeClause_31 : decode cX8_takeClause 31 = .ok (.getfield 149, 3) := by decide +kernel
theorem dX8_takeClause_34 : decode cX8_takeClause 34 = .ok (.bipush 98, 2) := by decide +kernel
theorem dX8_takeClause_36 : decode cX8_takeClause 36 = .ok (.bipush 101, 2) := by decide +kernel
theorem dX8_takeClause_38 : decode cX8_takeClause 38 = .ok (.bipush 108, 2) := by decide +kernel
theorem dX8_takeClause_40 : decode cX8_takeClause 40 = .ok (.invokestatic 207, 3) := by decide +kernel
theorem dX8_takeClause_43 : decode cX8_takeClause 43 = .ok (.bipush 108, 2) := by decide +kernel
theorem dX8_takeClause_45 : decode cX8_takeClause 45 = .ok (.invokestatic 211, 3) := by decide +kernel
theorem dX8_takeClause_48 : decode cX8_takeClause 48 = .ok (.lcmp, 1) := by decide +kernel
theorem dX8_takeClause_49 : decode cX8_takeClause 49 = .ok (.ifCond .ne 7, 3) := by decide +kernel
theorem dX8_takeClause_52 : decode cX8_takeClause 52 = .ok (.iconst 1, 1) := by decide +kernel
theorem dX8_takeClause_53 : decode cX8_takeClause 53 = .ok (.goto 30, 3) := by decide +kernel
theorem dX8_takeClause_56 : decode cX8_takeClause 56 = .ok (.aload_n 0, 1) := by decide +kernel
theorem dX8_takeClause_57 : decode cX8_takeClause 57 = .ok (.getfield 149, 3) := by decide +kernel
theorem dX8_takeClause_60 : decode cX8_takeClause 60 = .ok (.bipush 115, 2) := by decide +kernel
theorem dX8_takeClause_62 : decode cX8_takeClause 62 = .ok (.bipush 112, 2) := by decide +kernel
theorem dX8_takeClause_64 : decode cX8_takeClause 64 = .ok (.bipush 111, 2) := by decide +kernel
theorem dX8_takeClause_66 : decode cX8_takeClause 66 = .ok (.invokestatic 207, 3) := by decide +kernel
theorem dX8_takeClause_69 : decode cX8_takeClause 69 = .ok (.bipush 116, 2) := by decide +kernel
theorem dX8_takeClause_71 : decode cX8_takeClause 71 = .ok (.invokestatic 211, 3) := by decide +kernel
theorem dX8_takeClause_74 : decode cX8_takeClause 74 = .ok (.lcmp, 1) := by decide +kernel
theorem dX8_takeClause_75 : decode cX8_takeClause 75 = .ok (.ifCond .ne 7, 3) := by decide +kernel
theorem dX8_takeClause_78 : decode cX8_takeClause 78 = .ok (.iconst 2, 1) := by decide +kernel
theorem dX8_takeClause_79 : decode cX8_takeClause 79 = .ok (.goto 4, 3) := by decide +kernel
theorem dX8_takeClause_82 : decode cX8_takeClause 82 = .ok (.iconst (-1), 1) := by decide +kernel
theorem dX8_takeClause_83 : decode cX8_takeClause 83 = .ok (.istore_n 1, 1) := by decide +kernel
theorem dX8_takeClause_84 : decode cX8_takeClause 84 = .ok (.iload_n 1, 1) := by decide +kernel
theorem dX8_takeClause_85 : decode cX8_takeClause 85 = .ok (.ifCond .lt 7, 3) := by decide +kernel
theorem dX8_takeClause_88 : decode cX8_takeClause 88 = .ok (.iload_n 1, 1) := by decide +kernel
theorem dX8_takeClause_89 : decode cX8_takeClause 89 = .ok (.goto 61, 3) := by decide +kernel
theorem dX8_takeClause_92 : decode cX8_takeClause 92 = .ok (.aload_n 0, 1) := by decide +kernel
theorem dX8_takeClause_93 : decode cX8_takeClause 93 = .ok (.getfield 149, 3) := by decide +kernel
theorem dX8_takeClause_96 : decode cX8_takeClause 96 = .ok (.bipush 98, 2) := by decide +kernel
theorem dX8_takeClause_98 : decode cX8_takeClause 98 = .ok (.bipush 101, 2) := by decide +kernel
theorem dX8_takeClause_100 : decode cX8_takeClause 100 = .ok (.bipush 103, 2) := by decide +kernel
theorem dX8_takeClause_102 : decode cX8_takeClause 102 = .ok (.invokestatic 207, 3) := by decide +kernel
theorem dX8_takeClause_105 : decode cX8_takeClause 105 = .ok (.bipush 103, 2) := by decide +kernel
theorem dX8_takeClause_107 : decode cX8_takeClause 107 = .ok (.invokestatic 211, 3) := by decide +kernel
theorem dX8_takeClause_110 : decode cX8_takeClause 110 = .ok (.bipush 97, 2) := by decide +kernel
theorem dX8_takeClause_112 : decode cX8_takeClause 112 = .ok (.invokestatic 211, 3) := by decide +kernel
theorem dX8_takeClause_115 : decode cX8_takeClause 115 = .ok (.bipush 114, 2) := by decide +kernel
theorem dX8_takeClause_117 : decode cX8_takeClause 117 = .ok (.invokestatic 211, 3) := by decide +kernel
theorem dX8_takeClause_120 : decode cX8_takeClause 120 = .ok (.lcmp, 1) := by decide +kernel
theorem dX8_takeClause_121 : decode cX8_takeClause 121 = .ok (.ifCond .ne 7, 3) := by decide +kernel
theorem dX8_takeClause_124 : decode cX8_takeClause 124 = .ok (.iconst 3, 1) := by decide +kernel
theorem dX8_takeClause_125 : decode cX8_takeClause 125 = .ok (.goto 25, 3) := by decide +kernel
theorem dX8_takeClause_128 : decode cX8_takeClause 128 = .ok (.aload_n 0, 1) := by decide +kernel
theorem dX8_takeClause_129 : decode cX8_takeClause 129 = .ok (.getfield 149, 3) := by decide +kernel
theorem dX8_takeClause_132 : decode cX8_takeClause 132 = .ok (.bipush 104, 2) := by decide +kernel
theorem dX8_takeClause_134 : decode cX8_takeClause 134 = .ok (.bipush 97, 2) := by decide +kernel
theorem dX8_takeClause_136 : decode cX8_takeClause 136 = .ok (.bipush 116, 2) := by decide +kernel
theorem dX8_takeClause_138 : decode cX8_takeClause 138 = .ok (.invokestatic 207, 3) := by decide +kernel
theorem dX8_takeClause_141 : decode cX8_takeClause 141 = .ok (.lcmp, 1) := by decide +kernel
theorem dX8_takeClause_142 : decode cX8_takeClause 142 = .ok (.ifCond .ne 7, 3) := by decide +kernel
theorem dX8_takeClause_145 : decode cX8_takeClause 145 = .ok (.iconst 4, 1) := by decide +kernel
theorem dX8_takeClause_146 : decode cX8_takeClause 146 = .ok (.goto 4, 3) := by decide +kernel
theorem dX8_takeClause_149 : decode cX8_takeClause 149 = .ok (.iconst (-1), 1) := by decide +kernel
theorem dX8_takeClause_150 : decode cX8_takeClause 150 = .ok (.istore_n 2, 1) := by decide +kernel
theorem dX8_takeClause_151 : decode cX8_takeClause 151 = .ok (.iload_n 2, 1) := by decide +kernel
theorem dX8_takeClause_152 : decode cX8_takeClause 152 = .ok (.ifCond .lt 14, 3) := by decide +kernel
theorem dX8_takeClause_155 : decode cX8_takeClause 155 = .ok (.iload_n 2, 1) := by decide +kernel
theorem dX8_takeClause_156 : decode cX8_takeClause 156 = .ok (.ifCond .ne 20, 3) := by decide +kernel
theorem dX8_takeClause_159 : decode cX8_takeClause 159 = .ok (.aload_n 0, 1) := by decide +kernel
theorem dX8_takeClause_160 : decode cX8_takeClause 160 = .ok (.getfield 215, 3) := by decide +kernel
theorem dX8_takeClause_163 : decode cX8_takeClause 163 = .ok (.ifCond .le 13, 3) := by decide +kernel
theorem dX8_takeClause_166 : decode cX8_takeClause 166 = .ok (.aload_n 0, 1) := by decide +kernel
theorem dX8_takeClause_167 : decode cX8_takeClause 167 = .ok (.iconst 1, 1) := by decide +kernel
theorem dX8_takeClause_168 : decode cX8_takeClause 168 = .ok (.aload_n 0, 1) := by decide +kernel
theorem dX8_takeClause_169 : decode cX8_takeClause 169 = .ok (.getfield 142, 3) := by decide +kernel
theorem dX8_takeClause_172 : decode cX8_takeClause 172 = .ok (.invokevirtual 172, 3) := by decide +kernel
theorem dX8_takeClause_175 : decode cX8_takeClause 175 = .ok (.ireturn, 1) := by decide +kernel
theorem dX8_takeClause_176 : decode cX8_takeClause 176 = .ok (.iload_n 2, 1) := by decide +kernel
theorem dX8_takeClause_177 : decode cX8_takeClause 177 = .ok (.ifCond .ne 18, 3) := by decide +kernel
theorem dX8_takeClause_180 : decode cX8_takeClause 180 = .ok (.aload_n 0, 1) := by decide +kernel
theorem dX8_takeClause_181 : decode cX8_takeClause 181 = .ok (.getfield 201, 3) := by decide +kernel
theorem dX8_takeClause_184 : decode cX8_takeClause 184 = .ok (.ifCond .le 7, 3) := by decide +kernel
theorem dX8_takeClause_187 : decode cX8_takeClause 187 = .ok (.iconst 1, 1) := by decide +kernel
theorem dX8_takeClause_188 : decode cX8_takeClause 188 = .ok (.goto 85, 3) := by decide +kernel
theorem dX8_takeClause_191 : decode cX8_takeClause 191 = .ok (.iconst 0, 1) := by decide +kernel
theorem dX8_takeClause_192 : decode cX8_takeClause 192 = .ok (.goto 81, 3) := by decide +kernel
theorem dX8_takeClause_195 : decode cX8_takeClause 195 = .ok (.iload_n 2, 1) := by decide +kernel
theorem dX8_takeClause_196 : decode cX8_takeClause 196 = .ok (.iconst 1, 1) := by decide +kernel
theorem dX8_takeClause_197 : decode cX8_takeClause 197 = .ok (.if_icmp .ne 19, 3) := by decide +kernel
theorem dX8_takeClause_200 : decode cX8_takeClause 200 = .ok (.aload_n 0, 1) := by decide +kernel
theorem dX8_takeClause_201 : decode cX8_takeClause 201 = .ok (.getfield 185, 3) := by decide +kernel
theorem dX8_takeClause_204 : decode cX8_takeClause 204 = .ok (.iconst 4, 1) := by decide +kernel
theorem dX8_takeClause_205 : decode cX8_takeClause 205 = .ok (.if_icmp .ne 7, 3) := by decide +kernel
theorem dX8_takeClause_208 : decode cX8_takeClause 208 = .ok (.iconst 1, 1) := by decide +kernel
theorem dX8_takeClause_209 : decode cX8_takeClause 209 = .ok (.goto 64, 3) := by decide +kernel
theorem dX8_takeClause_212 : decode cX8_takeClause 212 = .ok (.iconst 0, 1) := by decide +kernel
theorem dX8_takeClause_213 : decode cX8_takeClause 213 = .ok (.goto 60, 3) := by decide +kernel
theorem dX8_takeClause_216 : decode cX8_takeClause 216 = .ok (.iload_n 2, 1) := by decide +kernel
theorem dX8_takeClause_217 : decode cX8_takeClause 217 = .ok (.iconst 2, 1) := by decide +kernel
theorem dX8_takeClause_218 : decode cX8_takeClause 218 = .ok (.if_icmp .ne 20, 3) := by decide +kernel
theorem dX8_takeClause_221 : decode cX8_takeClause 221 = .ok (.aload_n 0, 1) := by decide +kernel
theorem dX8_takeClause_222 : decode cX8_takeClause 222 = .ok (.getfield 192, 3) := by decide +kernel
theorem dX8_takeClause_225 : decode cX8_takeClause 225 = .ok (.bipush 6, 2) := by decide +kernel
theorem dX8_takeClause_227 : decode cX8_takeClause 227 = .ok (.if_icmp .ne 7, 3) := by decide +kernel
theorem dX8_takeClause_230 : decode cX8_takeClause 230 = .ok (.iconst 1, 1) := by decide +kernel
theorem dX8_takeClause_231 : decode cX8_takeClause 231 = .ok (.goto 42, 3) := by decide +kernel
theorem dX8_takeClause_234 : decode cX8_takeClause 234 = .ok (.iconst 0, 1) := by decide +kernel
theorem dX8_takeClause_235 : decode cX8_takeClause 235 = .ok (.goto 38, 3) := by decide +kernel
theorem dX8_takeClause_238 : decode cX8_takeClause 238 = .ok (.iload_n 2, 1) := by decide +kernel
theorem dX8_takeClause_239 : decode cX8_takeClause 239 = .ok (.iconst 3, 1) := by decide +kernel
theorem dX8_takeClause_240 : decode cX8_takeClause 240 = .ok (.if_icmp .ne 20, 3) := by decide +kernel
theorem dX8_takeClause_243 : decode cX8_takeClause 243 = .ok (.aload_n 0, 1) := by decide +kernel
theorem dX8_takeClause_244 : decode cX8_takeClause 244 = .ok (.getfield 195, 3) := by decide +kernel
theorem dX8_takeClause_247 : decode cX8_takeClause 247 = .ok (.bipush 6, 2) := by decide +kernel
theorem dX8_takeClause_249 : decode cX8_takeClause 249 = .ok (.if_icmp .ne 7, 3) := by decide +kernel
theorem dX8_takeClause_252 : decode cX8_takeClause 252 = .ok (.iconst 1, 1) := by decide +kernel
theorem dX8_takeClause_253 : decode cX8_takeClause 253 = .ok (.goto 20, 3) := by decide +kernel
theorem dX8_takeClause_256 : decode cX8_takeClause 256 = .ok (.iconst 0, 1) := by decide +kernel
theorem dX8_takeClause_257 : decode cX8_takeClause 257 = .ok (.goto 16, 3) := by decide +kernel
theorem dX8_takeClause_260 : decode cX8_takeClause 260 = .ok (.aload_n 0, 1) := by decide +kernel
theorem dX8_takeClause_261 : decode cX8_takeClause 261 = .ok (.getfield 198, 3) := by decide +kernel
theorem dX8_takeClause_264 : decode cX8_takeClause 264 = .ok (.iconst 4, 1) := by decide +kernel
theorem dX8_takeClause_265 : decode cX8_takeClause 265 = .ok (.if_icmp .ne 7, 3) := by decide +kernel
theorem dX8_takeClause_268 : decode cX8_takeClause 268 = .ok (.iconst 1, 1) := by decide +kernel
theorem dX8_takeClause_269 : decode cX8_takeClause 269 = .ok (.goto 4, 3) := by decide +kernel
theorem dX8_takeClause_272 : decode cX8_takeClause 272 = .ok (.iconst 0, 1) := by decide +kernel
theorem dX8_takeClause_273 : decode cX8_takeClause 273 = .ok (.istore_n 3, 1) := by decide +kernel
theorem dX8_takeClause_274 : decode cX8_takeClause 274 = .ok (.iload_n 3, 1) := by decide +kernel
theorem dX8_takeClause_275 : decode cX8_takeClause 275 = .ok (.ifCond .eq 13, 3) := by decide +kernel
theorem dX8_takeClause_278 : decode cX8_takeClause 278 = .ok (.aload_n 0, 1) := by decide +kernel
theorem dX8_takeClause_279 : decode cX8_takeClause 279 = .ok (.iconst 3, 1) := by decide +kernel
theorem dX8_takeClause_280 : decode cX8_takeClause 280 = .ok (.aload_n 0, 1) := by decide +kernel
theorem dX8_takeClause_281 : decode cX8_takeClause 281 = .ok (.getfield 142, 3) := by decide +kernel
theorem dX8_takeClause_284 : decode cX8_takeClause 284 = .ok (.invokevirtual 172, 3) := by decide +kernel
theorem dX8_takeClause_287 : decode cX8_takeClause 287 = .ok (.ireturn, 1) := by decide +kernel
theorem dX8_takeClause_288 : decode cX8_takeClause 288 = .ok (.aload_n 0, 1) := by decide +kernel
theorem dX8_takeClause_289 : decode cX8_takeClause 289 = .ok (.aload_n 0, 1) := by decide +kernel
theorem dX8_takeClause_290 : decode cX8_takeClause 290 = .ok (.getfield 153, 3) := by decide +kernel
theorem dX8_takeClause_293 : decode cX8_takeClause 293 = .ok (.putfield 142, 3) := by decide +kernel
theorem dX8_takeClause_296 : decode cX8_takeClause 296 = .ok (.aload_n 0, 1) := by decide +kernel
theorem dX8_takeClause_297 : decode cX8_takeClause 297 = .ok (.dup, 1) := by decide +kernel
theorem dX8_takeClause_298 : decode cX8_takeClause 298 = .ok (.getfield 215, 3) := by decide +kernel
theorem dX8_takeClause_301 : decode cX8_takeClause 301 = .ok (.iload_n 2, 1) := by decide +kernel
theorem dX8_takeClause_302 : decode cX8_takeClause 302 = .ok (.ifCond .ne 7, 3) := by decide +kernel
theorem dX8_takeClause_305 : decode cX8_takeClause 305 = .ok (.iconst 0, 1) := by decide +kernel
theorem dX8_takeClause_306 : decode cX8_takeClause 306 = .ok (.goto 4, 3) := by decide +kernel
theorem dX8_takeClause_309 : decode cX8_takeClause 309 = .ok (.iconst 1, 1) := by decide +kernel
theorem dX8_takeClause_310 : decode cX8_takeClause 310 = .ok (.iadd, 1) := by decide +kernel
theorem dX8_takeClause_311 : decode cX8_takeClause 311 = .ok (.putfield 215, 3) := by decide +kernel
theorem dX8_takeClause_314 : decode cX8_takeClause 314 = .ok (.iload_n 2, 1) := by decide +kernel
theorem dX8_takeClause_315 : decode cX8_takeClause 315 = .ok (.ifCond .ne 10, 3) := by decide +kernel
theorem dX8_takeClause_318 : decode cX8_takeClause 318 = .ok (.aload_n 0, 1) := by decide +kernel
theorem dX8_takeClause_319 : decode cX8_takeClause 319 = .ok (.invokevirtual 218, 3) := by decide +kernel
theorem dX8_takeClause_322 : decode cX8_takeClause 322 = .ok (.goto 43, 3) := by decide +kernel
theorem dX8_takeClause_325 : decode cX8_takeClause 325 = .ok (.iload_n 2, 1) := by decide +kernel
theorem dX8_takeClause_326 : decode cX8_takeClause 326 = .ok (.iconst 1, 1) := by decide +kernel
theorem dX8_takeClause_327 : decode cX8_takeClause 327 = .ok (.if_icmp .ne 10, 3) := by decide +kernel
theorem dX8_takeClause_330 : decode cX8_takeClause 330 = .ok (.aload_n 0, 1) := by decide +kernel
theorem dX8_takeClause_331 : decode cX8_takeClause 331 = .ok (.invokevirtual 221, 3) := by decide +kernel
theorem dX8_takeClause_334 : decode cX8_takeClause 334 = .ok (.goto 31, 3) := by decide +kernel
theorem dX8_takeClause_337 : decode cX8_takeClause 337 = .ok (.iload_n 2, 1) := by decide +kernel
theorem dX8_takeClause_338 : decode cX8_takeClause 338 = .ok (.iconst 2, 1) := by decide +kernel
theorem dX8_takeClause_339 : decode cX8_takeClause 339 = .ok (.if_icmp .ne 10, 3) := by decide +kernel
theorem dX8_takeClause_342 : decode cX8_takeClause 342 = .ok (.aload_n 0, 1) := by decide +kernel
theorem dX8_takeClause_343 : decode cX8_takeClause 343 = .ok (.invokevirtual 224, 3) := by decide +kernel
theorem dX8_takeClause_346 : decode cX8_takeClause 346 = .ok (.goto 19, 3) := by decide +kernel
theorem dX8_takeClause_349 : decode cX8_takeClause 349 = .ok (.iload_n 2, 1) := by decide +kernel
theorem dX8_takeClause_350 : decode cX8_takeClause 350 = .ok (.iconst 3, 1) := by decide +kernel
theorem dX8_takeClause_351 : decode cX8_takeClause 351 = .ok (.if_icmp .ne 10, 3) := by decide +kernel
theorem dX8_takeClause_354 : decode cX8_takeClause 354 = .ok (.aload_n 0, 1) := by decide +kernel
theorem dX8_takeClause_355 : decode cX8_takeClause 355 = .ok (.invokevirtual 227, 3) := by decide +kernel
theorem dX8_takeClause_358 : decode cX8_takeClause 358 = .ok (.goto 7, 3) := by decide +kernel
theorem dX8_takeClause_361 : decode cX8_takeClause 361 = .ok (.aload_n 0, 1) := by decide +kernel
theorem dX8_takeClause_362 : decode cX8_takeClause 362 = .ok (.invokevirtual 230, 3) := by decide +kernel
theorem dX8_takeClause_365 : decode cX8_takeClause 365 = .ok (.istore 4, 2) := by decide +kernel
theorem dX8_takeClause_367 : decode cX8_takeClause 367 = .ok (.iload 4, 2) := by decide +kernel
theorem dX8_takeClause_369 : decode cX8_takeClause 369 = .ok (.ifCond .ne 22, 3) := by decide +kernel
theorem dX8_takeClause_372 : decode cX8_takeClause 372 = .ok (.aload_n 0, 1) := by decide +kernel
theorem dX8_takeClause_373 : decode cX8_takeClause 373 = .ok (.invokevirtual 145, 3) := by decide +kernel
theorem dX8_takeClause_376 : decode cX8_takeClause 376 = .ok (.bipush 59, 2) := by decide +kernel
theorem dX8_takeClause_378 : decode cX8_takeClause 378 = .ok (.if_icmp .eq 13, 3) := by decide +kernel
theorem dX8_takeClause_381 : decode cX8_takeClause 381 = .ok (.aload_n 0, 1) := by decide +kernel
theorem dX8_takeClause_382 : decode cX8_takeClause 382 = .ok (.iconst 1, 1) := by decide +kernel
theorem dX8_takeClause_383 : decode cX8_takeClause 383 = .ok (.aload_n 0, 1) := by decide +kernel
theorem dX8_takeClause_384 : decode cX8_takeClause 384 = .ok (.getfield 142, 3) := by decide +kernel
theorem dX8_takeClause_387 : decode cX8_takeClause 387 = .ok (.invokevirtual 172, 3) := by decide +kernel
theorem dX8_takeClause_390 : decode cX8_takeClause 390 = .ok (.ireturn, 1) := by decide +kernel
theorem dX8_takeClause_391 : decode cX8_takeClause 391 = .ok (.aload_n 0, 1) := by decide +kernel
theorem dX8_takeClause_392 : decode cX8_takeClause 392 = .ok (.dup, 1) := by decide +kernel
theorem dX8_takeClause_393 : decode cX8_takeClause 393 = .ok (.getfield 142, 3) := by decide +kernel
theorem dX8_takeClause_396 : decode cX8_takeClause 396 = .ok (.iconst 1, 1) := by decide +kernel
theorem dX8_takeClause_397 : decode cX8_takeClause 397 = .ok (.iadd, 1) := by decide +kernel
theorem dX8_takeClause_398 : decode cX8_takeClause 398 = .ok (.putfield 142, 3) := by decide +kernel
theorem dX8_takeClause_401 : decode cX8_takeClause 401 = .ok (.iload 4, 2) := by decide +kernel
theorem dX8_takeClause_403 : decode cX8_takeClause 403 = .ok (.ireturn, 1) := by decide +kernel
theorem dX8_square_0 : decode cX8_square 0 = .ok (.aload_n 0, 1) := by decide +kernel
theorem dX8_square_1 : decode cX8_square 1 = .ok (.iconst (-1), 1) := by decide +kernel
theorem dX8_square_2 : decode cX8_square 2 = .ok (.putfield 50, 3) := by decide +kernel
theorem dX8_square_5 : decode cX8_square 5 = .ok (.aload_n 0, 1) := by decide +kernel
theorem dX8_square_6 : decode cX8_square 6 = .ok (.iconst 0, 1) := by decide +kernel
theorem dX8_square_7 : decode cX8_square 7 = .ok (.putfield 142, 3) := by decide +kernel
theorem dX8_square_10 : decode cX8_square 10 = .ok (.aload_n 0, 1) := by decide +kernel
theorem dX8_square_11 : decode cX8_square 11 = .ok (.iconst 0, 1) := by decide +kernel
theorem dX8_square_12 : decode cX8_square 12 = .ok (.putfield 201, 3) := by decide +kernel
theorem dX8_square_15 : decode cX8_square 15 = .ok (.aload_n 0, 1) := by decide +kernel
theorem dX8_square_16 : decode cX8_square 16 = .ok (.iconst 0, 1) := by decide +kernel
theorem dX8_square_17 : decode cX8_square 17 = .ok (.putfield 215, 3) := by decide +kernel
theorem dX8_square_20 : decode cX8_square 20 = .ok (.aload_n 0, 1) := by decide +kernel
theorem dX8_square_21 : decode cX8_square 21 = .ok (.iconst 0, 1) := by decide +kernel
theorem dX8_square_22 : decode cX8_square 22 = .ok (.putfield 185, 3) := by decide +kernel
theorem dX8_square_25 : decode cX8_square 25 = .ok (.aload_n 0, 1) := by decide +kernel
theorem dX8_square_26 : decode cX8_square 26 = .ok (.iconst 0, 1) := by decide +kernel
theorem dX8_square_27 : decode cX8_square 27 = .ok (.putfield 192, 3) := by decide +kernel
theorem dX8_square_30 : decode cX8_square 30 = .ok (.aload_n 0, 1) := by decide +kernel
theorem dX8_square_31 : decode cX8_square 31 = .ok (.iconst 0, 1) := by decide +kernel
theorem dX8_square_32 : decode cX8_square 32 = .ok (.putfield 195, 3) := by decide +kernel
theorem dX8_square_35 : decode cX8_square 35 = .ok (.aload_n 0, 1) := by decide +kernel
theorem dX8_square_36 : decode cX8_square 36 = .ok (.iconst 0, 1) := by decide +kernel
theorem dX8_square_37 : decode cX8_square 37 = .ok (.putfield 198, 3) := by decide +kernel
theorem dX8_square_40 : decode cX8_square 40 = .ok (.iconst 0, 1) := by decide +kernel
theorem dX8_square_41 : decode cX8_square 41 = .ok (.istore_n 1, 1) := by decide +kernel
theorem dX8_square_42 : decode cX8_square 42 = .ok (.iload_n 1, 1) := by decide +kernel
theorem dX8_square_43 : decode cX8_square 43 = .ok (.ifCond .ne 18, 3) := by decide +kernel
theorem dX8_square_46 : decode cX8_square 46 = .ok (.aload_n 0, 1) := by decide +kernel
theorem dX8_square_47 : decode cX8_square 47 = .ok (.invokevirtual 145, 3) := by decide +kernel
theorem dX8_square_50 : decode cX8_square 50 = .ok (.ifCond .lt 11, 3) := by decide +kernel
theorem dX8_square_53 : decode cX8_square 53 = .ok (.aload_n 0, 1) := by decide +kernel
theorem dX8_square_54 : decode cX8_square 54 = .ok (.invokevirtual 233, 3) := by decide +kernel
theorem dX8_square_57 : decode cX8_square 57 = .ok (.istore_n 1, 1) := by decide +kernel
theorem dX8_square_58 : decode cX8_square 58 = .ok (.goto (-16), 3) := by decide +kernel
theorem dX8_square_61 : decode cX8_square 61 = .ok (.aload_n 0, 1) := by decide +kernel
theorem dX8_square_62 : decode cX8_square 62 = .ok (.iconst 0, 1) := by decide +kernel
theorem dX8_square_63 : decode cX8_square 63 = .ok (.putfield 136, 3) := by decide +kernel
theorem dX8_square_66 : decode cX8_square 66 = .ok (.iload_n 1, 1) := by decide +kernel
theorem dX8_square_67 : decode cX8_square 67 = .ok (.ifCond .le 8, 3) := by decide +kernel
theorem dX8_square_70 : decode cX8_square 70 = .ok (.bipush (-10), 2) := by decide +kernel
theorem dX8_square_72 : decode cX8_square 72 = .ok (.iload_n 1, 1) := by decide +kernel
theorem dX8_square_73 : decode cX8_square 73 = .ok (.isub, 1) := by decide +kernel
theorem dX8_square_74 : decode cX8_square 74 = .ok (.ireturn, 1) := by decide +kernel
theorem dX8_square_75 : decode cX8_square 75 = .ok (.aload_n 0, 1) := by decide +kernel
theorem dX8_square_76 : decode cX8_square 76 = .ok (.aload_n 0, 1) := by decide +kernel
theorem dX8_square_77 : decode cX8_square 77 = .ok (.getfield 201, 3) := by decide +kernel
theorem dX8_square_80 : decode cX8_square 80 = .ok (.ifCond .le 10, 3) := by decide +kernel
theorem dX8_square_83 : decode cX8_square 83 = .ok (.aload_n 0, 1) := by decide +kernel
theorem dX8_square_84 : decode cX8_square 84 = .ok (.getfield 201, 3) := by decide +kernel
theorem dX8_square_87 : decode cX8_square 87 = .ok (.goto 5, 3) := by decide +kernel
theorem dX8_square_90 : decode cX8_square 90 = .ok (.bipush 12, 2) := by decide +kernel
theorem dX8_square_92 : decode cX8_square 92 = .ok (.putfield 7, 3) := by decide +kernel
theorem dX8_square_95 : decode cX8_square 95 = .ok (.aload_n 0, 1) := by decide +kernel
theorem dX8_square_96 : decode cX8_square 96 = .ok (.aload_n 0, 1) := by decide +kernel
theorem dX8_square_97 : decode cX8_square 97 = .ok (.getfield 185, 3) := by decide +kernel
theorem dX8_square_100 : decode cX8_square 100 = .ok (.putfield 120, 3) := by decide +kernel
theorem dX8_square_103 : decode cX8_square 103 = .ok (.aload_n 0, 1) := by decide +kernel
theorem dX8_square_104 : decode cX8_square 104 = .ok (.aload_n 0, 1) := by decide +kernel
theorem dX8_square_105 : decode cX8_square 105 = .ok (.getfield 192, 3) := by decide +kernel
theorem dX8_square_108 : decode cX8_square 108 = .ok (.putfield 117, 3) := by decide +kernel
theorem dX8_square_111 : decode cX8_square 111 = .ok (.aload_n 0, 1) := by decide +kernel
theorem dX8_square_112 : decode cX8_square 112 = .ok (.aload_n 0, 1) := by decide +kernel
theorem dX8_square_113 : decode cX8_square 113 = .ok (.getfield 195, 3) := by decide +kernel
theorem dX8_square_116 : decode cX8_square 116 = .ok (.putfield 127, 3) := by decide +kernel
theorem dX8_square_119 : decode cX8_square 119 = .ok (.aload_n 0, 1) := by decide +kernel
theorem dX8_square_120 : decode cX8_square 120 = .ok (.aload_n 0, 1) := by decide +kernel
theorem dX8_square_121 : decode cX8_square 121 = .ok (.getfield 198, 3) := by decide +kernel
theorem dX8_square_124 : decode cX8_square 124 = .ok (.putfield 130, 3) := by decide +kernel
theorem dX8_square_127 : decode cX8_square 127 = .ok (.iconst 0, 1) := by decide +kernel
theorem dX8_square_128 : decode cX8_square 128 = .ok (.istore_n 2, 1) := by decide +kernel
theorem dX8_square_129 : decode cX8_square 129 = .ok (.iload_n 2, 1) := by decide +kernel
theorem dX8_square_130 : decode cX8_square 130 = .ok (.iconst 4, 1) := by decide +kernel
theorem dX8_square_131 : decode cX8_square 131 = .ok (.if_icmp .ge 57, 3) := by decide +kernel
theorem dX8_square_134 : decode cX8_square 134 = .ok (.aload_n 0, 1) := by decide +kernel
theorem dX8_square_135 : decode cX8_square 135 = .ok (.getfield 13, 3) := by decide +kernel
theorem dX8_square_138 : decode cX8_square 138 = .ok (.iload_n 2, 1) := by decide +kernel
theorem dX8_square_139 : decode cX8_square 139 = .ok (.aload_n 0, 1) := by decide +kernel
theorem dX8_square_140 : decode cX8_square 140 = .ok (.getfield 53, 3) := by decide +kernel
theorem dX8_square_143 : decode cX8_square 143 = .ok (.iload_n 2, 1) := by decide +kernel
theorem dX8_square_144 : decode cX8_square 144 = .ok (.iaload, 1) := by decide +kernel
theorem dX8_square_145 : decode cX8_square 145 = .ok (.iastore, 1) := by decide +kernel
theorem dX8_square_146 : decode cX8_square 146 = .ok (.aload_n 0, 1) := by decide +kernel
theorem dX8_square_147 : decode cX8_square 147 = .ok (.getfield 17, 3) := by decide +kernel
theorem dX8_square_150 : decode cX8_square 150 = .ok (.iload_n 2, 1) := by decide +kernel
theorem dX8_square_151 : decode cX8_square 151 = .ok (.aload_n 0, 1) := by decide +kernel
theorem dX8_square_152 : decode cX8_square 152 = .ok (.getfield 56, 3) := by decide +kernel
theorem dX8_square_155 : decode cX8_square 155 = .ok (.iload_n 2, 1) := by decide +kernel
theorem dX8_square_156 : decode cX8_square 156 = .ok (.iaload, 1) := by decide +kernel
theorem dX8_square_157 : decode cX8_square 157 = .ok (.iastore, 1) := by decide +kernel
theorem dX8_square_158 : decode cX8_square 158 = .ok (.aload_n 0, 1) := by decide +kernel
theorem dX8_square_159 : decode cX8_square 159 = .ok (.getfield 32, 3) := by decide +kernel
theorem dX8_square_162 : decode cX8_square 162 = .ok (.iload_n 2, 1) := by decide +kernel
theorem dX8_square_163 : decode cX8_square 163 = .ok (.aload_n 0, 1) := by decide +kernel
theorem dX8_square_164 : decode cX8_square 164 = .ok (.getfield 71, 3) := by decide +kernel
theorem dX8_square_167 : decode cX8_square 167 = .ok (.iload_n 2, 1) := by decide +kernel
theorem dX8_square_168 : decode cX8_square 168 = .ok (.iaload, 1) := by decide +kernel
theorem dX8_square_169 : decode cX8_square 169 = .ok (.iastore, 1) := by decide +kernel
theorem dX8_square_170 : decode cX8_square 170 = .ok (.aload_n 0, 1) := by decide +kernel
theorem dX8_square_171 : decode cX8_square 171 = .ok (.getfield 35, 3) := by decide +kernel
theorem dX8_square_174 : decode cX8_square 174 = .ok (.iload_n 2, 1) := by decide +kernel
theorem dX8_square_175 : decode cX8_square 175 = .ok (.aload_n 0, 1) := by decide +kernel
theorem dX8_square_176 : decode cX8_square 176 = .ok (.getfield 74, 3) := by decide +kernel
theorem dX8_square_179 : decode cX8_square 179 = .ok (.iload_n 2, 1) := by decide +kernel
theorem dX8_square_180 : decode cX8_square 180 = .ok (.iaload, 1) := by decide +kernel
theorem dX8_square_181 : decode cX8_square 181 = .ok (.iastore, 1) := by decide +kernel
theorem dX8_square_182 : decode cX8_square 182 = .ok (.iinc 2 1, 3) := by decide +kernel
theorem dX8_square_185 : decode cX8_square 185 = .ok (.goto (-56), 3) := by decide +kernel
theorem dX8_square_188 : decode cX8_square 188 = .ok (.iconst 0, 1) := by decide +kernel
theorem dX8_square_189 : decode cX8_square 189 = .ok (.istore_n 2, 1) := by decide +kernel
theorem dX8_square_190 : decode cX8_square 190 = .ok (.iload_n 2, 1) := by decide +kernel
theorem dX8_square_191 : decode cX8_square 191 = .ok (.bipush 6, 2) := by decide +kernel
theorem dX8_square_193 : decode cX8_square 193 = .ok (.if_icmp .ge 64, 3) := by decide +kernel
theorem dX8_square_196 : decode cX8_square 196 = .ok (.aload_n 0, 1) := by decide +kernel
theorem dX8_square_197 : decode cX8_square 197 = .ok (.getfield 20, 3) := by decide +kernel
theorem dX8_square_200 : decode cX8_square 200 = .ok (.iload_n 2, 1) := by decide +kernel
theorem dX8_square_201 : decode cX8_square 201 = .ok (.aload_n 0, 1) := by decide +kernel
theorem dX8_square_202 : decode cX8_square 202 = .ok (.getfield 59, 3) := by decide +kernel
theorem dX8_square_205 : decode cX8_square 205 = .ok (.iload_n 2, 1) := by decide +kernel
theorem dX8_square_206 : decode cX8_square 206 = .ok (.iaload, 1) := by decide +kernel
theorem dX8_square_207 : decode cX8_square 207 = .ok (.iastore, 1) := by decide +kernel
theorem dX8_square_208 : decode cX8_square 208 = .ok (.aload_n 0, 1) := by decide +kernel
theorem dX8_square_209 : decode cX8_square 209 = .ok (.getfield 23, 3) := by decide +kernel
theorem dX8_square_212 : decode cX8_square 212 = .ok (.iload_n 2, 1) := by decide +kernel
theorem dX8_square_213 : decode cX8_square 213 = .ok (.aload_n 0, 1) := by decide +kernel
theorem dX8_square_214 : decode cX8_square 214 = .ok (.getfield 62, 3) := by decide +kernel
theorem dX8_square_217 : decode cX8_square 217 = .ok (.iload_n 2, 1) := by decide +kernel
theorem dX8_square_218 : decode cX8_square 218 = .ok (.iaload, 1) := by decide +kernel
theorem dX8_square_219 : decode cX8_square 219 = .ok (.iastore, 1) := by decide +kernel
theorem dX8_square_220 : decode cX8_square 220 = .ok (.aload_n 0, 1) := by decide +kernel
theorem dX8_square_221 : decode cX8_square 221 = .ok (.getfield 26, 3) := by decide +kernel
theorem dX8_square_224 : decode cX8_square 224 = .ok (.iload_n 2, 1) := by decide +kernel
theorem dX8_square_225 : decode cX8_square 225 = .ok (.aload_n 0, 1) := by decide +kernel
theorem dX8_square_226 : decode cX8_square 226 = .ok (.getfield 65, 3) := by decide +kernel
theorem dX8_square_229 : decode cX8_square 229 = .ok (.iload_n 2, 1) := by decide +kernel
theorem dX8_square_230 : decode cX8_square 230 = .ok (.iaload, 1) := by decide +kernel
theorem dX8_square_231 : decode cX8_square 231 = .ok (.iastore, 1) := by decide +kernel
theorem dX8_square_232 : decode cX8_square 232 = .ok (.aload_n 0, 1) := by decide +kernel
theorem dX8_square_233 : decode cX8_square 233 = .ok (.getfield 29, 3) := by decide +kernel
theorem dX8_square_236 : decode cX8_square 236 = .ok (.iload_n 2, 1) := by decide +kernel
theorem dX8_square_237 : decode cX8_square 237 = .ok (.aload_n 0, 1) := by decide +kernel
theorem dX8_square_238 : decode cX8_square 238 = .ok (.getfield 68, 3) := by decide +kernel
theorem dX8_square_241 : decode cX8_square 241 = .ok (.iload_n 2, 1) := by decide +kernel
theorem dX8_square_242 : decode cX8_square 242 = .ok (.iaload, 1) := by decide +kernel
theorem dX8_square_243 : decode cX8_square 243 = .ok (.iastore, 1) := by decide +kernel
theorem dX8_square_244 : decode cX8_square 244 = .ok (.aload_n 0, 1) := by decide +kernel
theorem dX8_square_245 : decode cX8_square 245 = .ok (.getfield 44, 3) := by decide +kernel
theorem dX8_square_248 : decode cX8_square 248 = .ok (.iload_n 2, 1) := by decide +kernel
theorem dX8_square_249 : decode cX8_square 249 = .ok (.iconst 0, 1) := by decide +kernel
theorem dX8_square_250 : decode cX8_square 250 = .ok (.iastore, 1) := by decide +kernel
theorem dX8_square_251 : decode cX8_square 251 = .ok (.iinc 2 1, 3) := by decide +kernel
theorem dX8_square_254 : decode cX8_square 254 = .ok (.goto (-64), 3) := by decide +kernel
theorem dX8_square_257 : decode cX8_square 257 = .ok (.iconst 0, 1) := by decide +kernel
theorem dX8_square_258 : decode cX8_square 258 = .ok (.istore_n 2, 1) := by decide +kernel
theorem dX8_square_259 : decode cX8_square 259 = .ok (.iload_n 2, 1) := by decide +kernel
theorem dX8_square_260 : decode cX8_square 260 = .ok (.bipush 7, 2) := by decide +kernel
theorem dX8_square_262 : decode cX8_square 262 = .ok (.if_icmp .ge 23, 3) := by decide +kernel
theorem dX8_square_265 : decode cX8_square 265 = .ok (.aload_n 0, 1) := by decide +kernel
theorem dX8_square_266 : decode cX8_square 266 = .ok (.getfield 38, 3) := by decide +kernel
theorem dX8_square_269 : decode cX8_square 269 = .ok (.iload_n 2, 1) := by decide +kernel
theorem dX8_square_270 : decode cX8_square 270 = .ok (.iconst (-1), 1) := by decide +kernel
theorem dX8_square_271 : decode cX8_square 271 = .ok (.iastore, 1) := by decide +kernel
theorem dX8_square_272 : decode cX8_square 272 = .ok (.aload_n 0, 1) := by decide +kernel
theorem dX8_square_273 : decode cX8_square 273 = .ok (.getfield 41, 3) := by decide +kernel
theorem dX8_square_276 : decode cX8_square 276 = .ok (.iload_n 2, 1) := by decide +kernel
theorem dX8_square_277 : decode cX8_square 277 = .ok (.iconst (-1), 1) := by decide +kernel
theorem dX8_square_278 : decode cX8_square 278 = .ok (.iastore, 1) := by decide +kernel
theorem dX8_square_279 : decode cX8_square 279 = .ok (.iinc 2 1, 3) := by decide +kernel
theorem dX8_square_282 : decode cX8_square 282 = .ok (.goto (-23), 3) := by decide +kernel
theorem dX8_square_285 : decode cX8_square 285 = .ok (.aload_n 0, 1) := by decide +kernel
theorem dX8_square_286 : decode cX8_square 286 = .ok (.iconst 0, 1) := by decide +kernel
theorem dX8_square_287 : decode cX8_square 287 = .ok (.putfield 236, 3) := by decide +kernel
theorem dX8_square_290 : decode cX8_square 290 = .ok (.aload_n 0, 1) := by decide +kernel
theorem dX8_square_291 : decode cX8_square 291 = .ok (.iconst 0, 1) := by decide +kernel
theorem dX8_square_292 : decode cX8_square 292 = .ok (.putfield 239, 3) := by decide +kernel
theorem dX8_square_295 : decode cX8_square 295 = .ok (.aload_n 0, 1) := by decide +kernel
theorem dX8_square_296 : decode cX8_square 296 = .ok (.iconst 0, 1) := by decide +kernel
theorem dX8_square_297 : decode cX8_square 297 = .ok (.putfield 242, 3) := by decide +kernel
theorem dX8_square_300 : decode cX8_square 300 = .ok (.aload_n 0, 1) := by decide +kernel
theorem dX8_square_301 : decode cX8_square 301 = .ok (.iconst 0, 1) := by decide +kernel
theorem dX8_square_302 : decode cX8_square 302 = .ok (.putfield 245, 3) := by decide +kernel
theorem dX8_square_305 : decode cX8_square 305 = .ok (.aload_n 0, 1) := by decide +kernel
theorem dX8_square_306 : decode cX8_square 306 = .ok (.getfield 113, 3) := by decide +kernel
theorem dX8_square_309 : decode cX8_square 309 = .ok (.iconst 0, 1) := by decide +kernel
theorem dX8_square_310 : decode cX8_square 310 = .ok (.iconst 0, 1) := by decide +kernel
theorem dX8_square_311 : decode cX8_square 311 = .ok (.bastore, 1) := by decide +kernel
theorem dX8_square_312 : decode cX8_square 312 = .ok (.aload_n 0, 1) := by decide +kernel
theorem dX8_square_313 : decode cX8_square 313 = .ok (.getfield 113, 3) := by decide +kernel
theorem dX8_square_316 : decode cX8_square 316 = .ok (.iconst 1, 1) := by decide +kernel
theorem dX8_square_317 : decode cX8_square 317 = .ok (.iconst 0, 1) := by decide +kernel
theorem dX8_square_318 : decode cX8_square 318 = .ok (.bastore, 1) := by decide +kernel
theorem dX8_square_319 : decode cX8_square 319 = .ok (.aload_n 0, 1) := by decide +kernel
theorem dX8_square_320 : decode cX8_square 320 = .ok (.getfield 127, 3) := by decide +kernel
theorem dX8_square_323 : decode cX8_square 323 = .ok (.ireturn, 1) := by decide +kernel
theorem dX8_fault_0 : decode cX8_fault 0 = .ok (.aload_n 0, 1) := by decide +kernel
theorem dX8_fault_1 : decode cX8_fault 1 = .ok (.getfield 50, 3) := by decide +kernel
theorem dX8_fault_4 : decode cX8_fault 4 = .ok (.ireturn, 1) := by decide +kernel
theorem dX8_told_0 : decode cX8_told 0 = .ok (.iload_n 1, 1) := by decide +kernel
theorem dX8_told_1 : decode cX8_told 1 = .ok (.tableswitch 114 0 10 #[59, 64, 69, 74, 79, 84, 89, 94, 99, 104, 109], 59) := by decide +kernel
theorem dX8_told_60 : decode cX8_told 60 = .ok (.aload_n 0, 1) := by decide +kernel
theorem dX8_told_61 : decode cX8_told 61 = .ok (.getfield 7, 3) := by decide +kernel
theorem dX8_told_64 : decode cX8_told 64 = .ok (.ireturn, 1) := by decide +kernel
theorem dX8_told_65 : decode cX8_told 65 = .ok (.aload_n 0, 1) := by decide +kernel
theorem dX8_told_66 : decode cX8_told 66 = .ok (.getfield 120, 3) := by decide +kernel
theorem dX8_told_69 : decode cX8_told 69 = .ok (.ireturn, 1) := by decide +kernel
theorem dX8_told_70 : decode cX8_told 70 = .ok (.aload_n 0, 1) := by decide +kernel
theorem dX8_told_71 : decode cX8_told 71 = .ok (.getfield 117, 3) := by decide +kernel
theorem dX8_told_74 : decode cX8_told 74 = .ok (.ireturn, 1) := by decide +kernel
theorem dX8_told_75 : decode cX8_told 75 = .ok (.aload_n 0, 1) := by decide +kernel
theorem dX8_told_76 : decode cX8_told 76 = .ok (.getfield 127, 3) := by decide +kernel
theorem dX8_told_79 : decode cX8_told 79 = .ok (.ireturn, 1) := by decide +kernel
theorem dX8_told_80 : decode cX8_told 80 = .ok (.aload_n 0, 1) := by decide +kernel
theorem dX8_told_81 : decode cX8_told 81 = .ok (.getfield 130, 3) := by decide +kernel
theorem dX8_told_84 : decode cX8_told 84 = .ok (.ireturn, 1) := by decide +kernel
theorem dX8_told_85 : decode cX8_told 85 = .ok (.aload_n 0, 1) := by decide +kernel
theorem dX8_told_86 : decode cX8_told 86 = .ok (.getfield 136, 3) := by decide +kernel
theorem dX8_told_89 : decode cX8_told 89 = .ok (.ireturn, 1) := by decide +kernel
theorem dX8_told_90 : decode cX8_told 90 = .ok (.aload_n 0, 1) := by decide +kernel
theorem dX8_told_91 : decode cX8_told 91 = .ok (.getfield 236, 3) := by decide +kernel
theorem dX8_told_94 : decode cX8_told 94 = .ok (.ireturn, 1) := by decide +kernel
theorem dX8_told_95 : decode cX8_told 95 = .ok (.aload_n 0, 1) := by decide +kernel
theorem dX8_told_96 : decode cX8_told 96 = .ok (.getfield 248, 3) := by decide +kernel
theorem dX8_told_99 : decode cX8_told 99 = .ok (.ireturn, 1) := by decide +kernel
theorem dX8_told_100 : decode cX8_told 100 = .ok (.aload_n 0, 1) := by decide +kernel
theorem dX8_told_101 : decode cX8_told 101 = .ok (.getfield 239, 3) := by decide +kernel
theorem dX8_told_104 : decode cX8_told 104 = .ok (.ireturn, 1) := by decide +kernel
theorem dX8_told_105 : decode cX8_told 105 = .ok (.aload_n 0, 1) := by decide +kernel
theorem dX8_told_106 : decode cX8_told 106 = .ok (.getfield 242, 3) := by decide +kernel
theorem dX8_told_109 : decode cX8_told 109 = .ok (.ireturn, 1) := by decide +kernel
theorem dX8_told_110 : decode cX8_told 110 = .ok (.aload_n 0, 1) := by decide +kernel
theorem dX8_told_111 : decode cX8_told 111 = .ok (.getfield 245, 3) := by decide +kernel
theorem dX8_told_114 : decode cX8_told 114 = .ok (.ireturn, 1) := by decide +kernel
theorem dX8_told_115 : decode cX8_told 115 = .ok (.ldc 135, 2) := by decide +kernel
theorem dX8_told_117 : decode cX8_told 117 = .ok (.ireturn, 1) := by decide +kernel
theorem dX8_longOn_0 : decode cX8_longOn 0 = .ok (.iload_n 2, 1) := by decide +kernel
theorem dX8_longOn_1 : decode cX8_longOn 1 = .ok (.aload_n 0, 1) := by decide +kernel
theorem dX8_longOn_2 : decode cX8_longOn 2 = .ok (.getfield 7, 3) := by decide +kernel
theorem dX8_longOn_5 : decode cX8_longOn 5 = .ok (.irem, 1) := by decide +kernel
theorem dX8_longOn_6 : decode cX8_longOn 6 = .ok (.istore_n 3, 1) := by decide +kernel
theorem dX8_longOn_7 : decode cX8_longOn 7 = .ok (.iload_n 3, 1) := by decide +kernel
theorem dX8_longOn_8 : decode cX8_longOn 8 = .ok (.aload_n 0, 1) := by decide +kernel
theorem dX8_longOn_9 : decode cX8_longOn 9 = .ok (.getfield 7, 3) := by decide +kernel
theorem dX8_longOn_12 : decode cX8_longOn 12 = .ok (.iload_n 3, 1) := by decide +kernel
theorem dX8_longOn_13 : decode cX8_longOn 13 = .ok (.isub, 1) := by decide +kernel
theorem dX8_longOn_14 : decode cX8_longOn 14 = .ok (.if_icmp .ge 7, 3) := by decide +kernel
theorem dX8_longOn_17 : decode cX8_longOn 17 = .ok (.iload_n 3, 1) := by decide +kernel
theorem dX8_longOn_18 : decode cX8_longOn 18 = .ok (.goto 9, 3) := by decide +kernel
theorem dX8_longOn_21 : decode cX8_longOn 21 = .ok (.aload_n 0, 1) := by decide +kernel
theorem dX8_longOn_22 : decode cX8_longOn 22 = .ok (.getfield 7, 3) := by decide +kernel
theorem dX8_longOn_25 : decode cX8_longOn 25 = .ok (.iload_n 3, 1) := by decide +kernel
theorem dX8_longOn_26 : decode cX8_longOn 26 = .ok (.isub, 1) := by decide +kernel
theorem dX8_longOn_27 : decode cX8_longOn 27 = .ok (.istore 4, 2) := by decide +kernel
theorem dX8_longOn_29 : decode cX8_longOn 29 = .ok (.aload_n 0, 1) := by decide +kernel
theorem dX8_longOn_30 : decode cX8_longOn 30 = .ok (.getfield 13, 3) := by decide +kernel
theorem dX8_longOn_33 : decode cX8_longOn 33 = .ok (.iload_n 1, 1) := by decide +kernel
theorem dX8_longOn_34 : decode cX8_longOn 34 = .ok (.iaload, 1) := by decide +kernel
theorem dX8_longOn_35 : decode cX8_longOn 35 = .ok (.aload_n 0, 1) := by decide +kernel
theorem dX8_longOn_36 : decode cX8_longOn 36 = .ok (.getfield 17, 3) := by decide +kernel
theorem dX8_longOn_39 : decode cX8_longOn 39 = .ok (.iload_n 1, 1) := by decide +kernel
theorem dX8_longOn_40 : decode cX8_longOn 40 = .ok (.iaload, 1) := by decide +kernel
theorem dX8_longOn_41 : decode cX8_longOn 41 = .ok (.iload 4, 2) := by decide +kernel
theorem dX8_longOn_43 : decode cX8_longOn 43 = .ok (.imul, 1) := by decide +kernel
theorem dX8_longOn_44 : decode cX8_longOn 44 = .ok (.iadd, 1) := by decide +kernel
theorem dX8_longOn_45 : decode cX8_longOn 45 = .ok (.ireturn, 1) := by decide +kernel
theorem dX8_bell_0 : decode cX8_bell 0 = .ok (.aload_n 0, 1) := by decide +kernel
theorem dX8_bell_1 : decode cX8_bell 1 = .ok (.iload_n 1, 1) := by decide +kernel
theorem dX8_bell_2 : decode cX8_bell 2 = .ok (.invokevirtual 251, 3) := by decide +kernel
theorem dX8_bell_5 : decode cX8_bell 5 = .ok (.ifCond .ne 6, 3) := by decide +kernel
theorem dX8_bell_8 : decode cX8_bell 8 = .ok (.ldc 255, 2) := by decide +kernel
theorem dX8_bell_10 : decode cX8_bell 10 = .ok (.ireturn, 1) := by decide +kernel
theorem dX8_bell_11 : decode cX8_bell 11 = .ok (.iload_n 2, 1) := by decide +kernel
theorem dX8_bell_12 : decode cX8_bell 12 = .ok (.i2l, 1) := by decide +kernel
theorem dX8_bell_13 : decode cX8_bell 13 = .ok (.lconst 0, 1) := by decide +kernel
theorem dX8_bell_14 : decode cX8_bell 14 = .ok (.ldc2_w 256, 3) := by decide +kernel
theorem dX8_bell_17 : decode cX8_bell 17 = .ok (.invokestatic 123, 3) := by decide +kernel
theorem dX8_bell_20 : decode cX8_bell 20 = .ok (.ifCond .eq 12, 3) := by decide +kernel
theorem dX8_bell_23 : decode cX8_bell 23 = .ok (.aload_n 0, 1) := by decide +kernel
theorem dX8_bell_24 : decode cX8_bell 24 = .ok (.iload_n 1, 1) := by decide +kernel
theorem dX8_bell_25 : decode cX8_bell 25 = .ok (.iload_n 2, 1) := by decide +kernel
theorem dX8_bell_26 : decode cX8_bell 26 = .ok (.invokevirtual 258, 3) := by decide +kernel
theorem dX8_bell_29 : decode cX8_bell 29 = .ok (.goto 5, 3) := by decide +kernel
theorem dX8_bell_32 : decode cX8_bell 32 = .ok (.ldc 135, 2) := by decide +kernel
theorem dX8_bell_34 : decode cX8_bell 34 = .ok (.ireturn, 1) := by decide +kernel
theorem dX8_whoIsOn_0 : decode cX8_whoIsOn 0 = .ok (.iconst (-1), 1) := by decide +kernel
theorem dX8_whoIsOn_1 : decode cX8_whoIsOn 1 = .ok (.istore_n 3, 1) := by decide +kernel
theorem dX8_whoIsOn_2 : decode cX8_whoIsOn 2 = .ok (.iconst 0, 1) := by decide +kernel
theorem dX8_whoIsOn_3 : decode cX8_whoIsOn 3 = .ok (.istore 4, 2) := by decide +kernel
theorem dX8_whoIsOn_5 : decode cX8_whoIsOn 5 = .ok (.iload 4, 2) := by decide +kernel
theorem dX8_whoIsOn_7 : decode cX8_whoIsOn 7 = .ok (.iload_n 2, 1) := by decide +kernel
theorem dX8_whoIsOn_8 : decode cX8_whoIsOn 8 = .ok (.if_icmp .ge 27, 3) := by decide +kernel
theorem dX8_whoIsOn_11 : decode cX8_whoIsOn 11 = .ok (.aload_n 0, 1) := by decide +kernel
theorem dX8_whoIsOn_12 : decode cX8_whoIsOn 12 = .ok (.getfield 38, 3) := by decide +kernel
theorem dX8_whoIsOn_15 : decode cX8_whoIsOn 15 = .ok (.iload 4, 2) := by decide +kernel
theorem dX8_whoIsOn_17 : decode cX8_whoIsOn 17 = .ok (.iaload, 1) := by decide +kernel
theorem dX8_whoIsOn_18 : decode cX8_whoIsOn 18 = .ok (.iload_n 1, 1) := by decide +kernel
theorem dX8_whoIsOn_19 : decode cX8_whoIsOn 19 = .ok (.if_icmp .ne 8, 3) := by decide +kernel
theorem dX8_whoIsOn_22 : decode cX8_whoIsOn 22 = .ok (.iload 4, 2) := by decide +kernel
theorem dX8_whoIsOn_24 : decode cX8_whoIsOn 24 = .ok (.goto 4, 3) := by decide +kernel
theorem dX8_whoIsOn_27 : decode cX8_whoIsOn 27 = .ok (.iload_n 3, 1) := by decide +kernel
theorem dX8_whoIsOn_28 : decode cX8_whoIsOn 28 = .ok (.istore_n 3, 1) := by decide +kernel
theorem dX8_whoIsOn_29 : decode cX8_whoIsOn 29 = .ok (.iinc 4 1, 3) := by decide +kernel
theorem dX8_whoIsOn_32 : decode cX8_whoIsOn 32 = .ok (.goto (-27), 3) := by decide +kernel
theorem dX8_whoIsOn_35 : decode cX8_whoIsOn 35 = .ok (.iload_n 3, 1) := by decide +kernel
theorem dX8_whoIsOn_36 : decode cX8_whoIsOn 36 = .ok (.ireturn, 1) := by decide +kernel
theorem dX8_spot_0 : decode cX8_spot 0 = .ok (.aload_n 0, 1) := by decide +kernel
theorem dX8_spot_1 : decode cX8_spot 1 = .ok (.iload_n 1, 1) := by decide +kernel
theorem dX8_spot_2 : decode cX8_spot 2 = .ok (.invokevirtual 261, 3) := by decide +kernel
theorem dX8_spot_5 : decode cX8_spot 5 = .ok (.ifCond .ne 6, 3) := by decide +kernel
theorem dX8_spot_8 : decode cX8_spot 8 = .ok (.ldc 255, 2) := by decide +kernel
theorem dX8_spot_10 : decode cX8_spot 10 = .ok (.ireturn, 1) := by decide +kernel
theorem dX8_spot_11 : decode cX8_spot 11 = .ok (.iload_n 2, 1) := by decide +kernel
theorem dX8_spot_12 : decode cX8_spot 12 = .ok (.ifCond .ne 12, 3) := by decide +kernel
theorem dX8_spot_15 : decode cX8_spot 15 = .ok (.aload_n 0, 1) := by decide +kernel
theorem dX8_spot_16 : decode cX8_spot 16 = .ok (.getfield 20, 3) := by decide +kernel
theorem dX8_spot_19 : decode cX8_spot 19 = .ok (.iload_n 1, 1) := by decide +kernel
theorem dX8_spot_20 : decode cX8_spot 20 = .ok (.iaload, 1) := by decide +kernel
theorem dX8_spot_21 : decode cX8_spot 21 = .ok (.goto 50, 3) := by decide +kernel
theorem dX8_spot_24 : decode cX8_spot 24 = .ok (.iload_n 2, 1) := by decide +kernel
theorem dX8_spot_25 : decode cX8_spot 25 = .ok (.iconst 1, 1) := by decide +kernel
theorem dX8_spot_26 : decode cX8_spot 26 = .ok (.if_icmp .ne 12, 3) := by decide +kernel
theorem dX8_spot_29 : decode cX8_spot 29 = .ok (.aload_n 0, 1) := by decide +kernel
theorem dX8_spot_30 : decode cX8_spot 30 = .ok (.getfield 23, 3) := by decide +kernel
theorem dX8_spot_33 : decode cX8_spot 33 = .ok (.iload_n 1, 1) := by decide +kernel
theorem dX8_spot_34 : decode cX8_spot 34 = .ok (.iaload, 1) := by decide +kernel
theorem dX8_spot_35 : decode cX8_spot 35 = .ok (.goto 36, 3) := by decide +kernel
theorem dX8_spot_38 : decode cX8_spot 38 = .ok (.iload_n 2, 1) := by decide +kernel
theorem dX8_spot_39 : decode cX8_spot 39 = .ok (.iconst 2, 1) := by decide +kernel
theorem dX8_spot_40 : decode cX8_spot 40 = .ok (.if_icmp .ne 12, 3) := by decide +kernel
theorem dX8_spot_43 : decode cX8_spot 43 = .ok (.aload_n 0, 1) := by decide +kernel
theorem dX8_spot_44 : decode cX8_spot 44 = .ok (.getfield 26, 3) := by decide +kernel
theorem dX8_spot_47 : decode cX8_spot 47 = .ok (.iload_n 1, 1) := by decide +kernel
theorem dX8_spot_48 : decode cX8_spot 48 = .ok (.iaload, 1) := by decide +kernel
theorem dX8_spot_49 : decode cX8_spot 49 = .ok (.goto 22, 3) := by decide +kernel
theorem dX8_spot_52 : decode cX8_spot 52 = .ok (.iload_n 2, 1) := by decide +kernel
theorem dX8_spot_53 : decode cX8_spot 53 = .ok (.iconst 3, 1) := by decide +kernel
theorem dX8_spot_54 : decode cX8_spot 54 = .ok (.if_icmp .ne 15, 3) := by decide +kernel
theorem dX8_spot_57 : decode cX8_spot 57 = .ok (.aload_n 0, 1) := by decide +kernel
theorem dX8_spot_58 : decode cX8_spot 58 = .ok (.iload_n 1, 1) := by decide +kernel
theorem dX8_spot_59 : decode cX8_spot 59 = .ok (.aload_n 0, 1) := by decide +kernel
theorem dX8_spot_60 : decode cX8_spot 60 = .ok (.getfield 127, 3) := by decide +kernel
theorem dX8_spot_63 : decode cX8_spot 63 = .ok (.invokevirtual 264, 3) := by decide +kernel
theorem dX8_spot_66 : decode cX8_spot 66 = .ok (.goto 5, 3) := by decide +kernel
theorem dX8_spot_69 : decode cX8_spot 69 = .ok (.ldc 135, 2) := by decide +kernel
theorem dX8_spot_71 : decode cX8_spot 71 = .ok (.ireturn, 1) := by decide +kernel
theorem dX8_tallOf_0 : decode cX8_tallOf 0 = .ok (.aload_n 0, 1) := by decide +kernel
theorem dX8_tallOf_1 : decode cX8_tallOf 1 = .ok (.getfield 41, 3) := by decide +kernel
theorem dX8_tallOf_4 : decode cX8_tallOf 4 = .ok (.iload_n 1, 1) := by decide +kernel
theorem dX8_tallOf_5 : decode cX8_tallOf 5 = .ok (.iaload, 1) := by decide +kernel
theorem dX8_tallOf_6 : decode cX8_tallOf 6 = .ok (.ifCond .ge 7, 3) := by decide +kernel
theorem dX8_tallOf_9 : decode cX8_tallOf 9 = .ok (.iconst 0, 1) := by decide +kernel
theorem dX8_tallOf_10 : decode cX8_tallOf 10 = .ok (.goto 14, 3) := by decide +kernel
theorem dX8_tallOf_13 : decode cX8_tallOf 13 = .ok (.aload_n 0, 1) := by decide +kernel
theorem dX8_tallOf_14 : decode cX8_tallOf 14 = .ok (.getfield 32, 3) := by decide +kernel
theorem dX8_tallOf_17 : decode cX8_tallOf 17 = .ok (.aload_n 0, 1) := by decide +kernel
theorem dX8_tallOf_18 : decode cX8_tallOf 18 = .ok (.getfield 41, 3) := by decide +kernel
theorem dX8_tallOf_21 : decode cX8_tallOf 21 = .ok (.iload_n 1, 1) := by decide +kernel
theorem dX8_tallOf_22 : decode cX8_tallOf 22 = .ok (.iaload, 1) := by decide +kernel
theorem dX8_tallOf_23 : decode cX8_tallOf 23 = .ok (.iaload, 1) := by decide +kernel
theorem dX8_tallOf_24 : decode cX8_tallOf 24 = .ok (.istore_n 2, 1) := by decide +kernel
theorem dX8_tallOf_25 : decode cX8_tallOf 25 = .ok (.aload_n 0, 1) := by decide +kernel
theorem dX8_tallOf_26 : decode cX8_tallOf 26 = .ok (.getfield 29, 3) := by decide +kernel
theorem dX8_tallOf_29 : decode cX8_tallOf 29 = .ok (.iload_n 1, 1) := by decide +kernel
theorem dX8_tallOf_30 : decode cX8_tallOf 30 = .ok (.iaload, 1) := by decide +kernel
theorem dX8_tallOf_31 : decode cX8_tallOf 31 = .ok (.iload_n 2, 1) := by decide +kernel
theorem dX8_tallOf_32 : decode cX8_tallOf 32 = .ok (.iadd, 1) := by decide +kernel
theorem dX8_tallOf_33 : decode cX8_tallOf 33 = .ok (.aload_n 0, 1) := by decide +kernel
theorem dX8_tallOf_34 : decode cX8_tallOf 34 = .ok (.getfield 38, 3) := by decide +kernel
theorem dX8_tallOf_37 : decode cX8_tallOf 37 = .ok (.iload_n 1, 1) := by decide +kernel
theorem dX8_tallOf_38 : decode cX8_tallOf 38 = .ok (.iaload, 1) := by decide +kernel
theorem dX8_tallOf_39 : decode cX8_tallOf 39 = .ok (.ifCond .ge 7, 3) := by decide +kernel
theorem dX8_tallOf_42 : decode cX8_tallOf 42 = .ok (.iconst 0, 1) := by decide +kernel
theorem dX8_tallOf_43 : decode cX8_tallOf 43 = .ok (.goto 14, 3) := by decide +kernel
theorem dX8_tallOf_46 : decode cX8_tallOf 46 = .ok (.aload_n 0, 1) := by decide +kernel
theorem dX8_tallOf_47 : decode cX8_tallOf 47 = .ok (.getfield 20, 3) := by decide +kernel
theorem dX8_tallOf_50 : decode cX8_tallOf 50 = .ok (.aload_n 0, 1) := by decide +kernel
theorem dX8_tallOf_51 : decode cX8_tallOf 51 = .ok (.getfield 38, 3) := by decide +kernel
theorem dX8_tallOf_54 : decode cX8_tallOf 54 = .ok (.iload_n 1, 1) := by decide +kernel
theorem dX8_tallOf_55 : decode cX8_tallOf 55 = .ok (.iaload, 1) := by decide +kernel
theorem dX8_tallOf_56 : decode cX8_tallOf 56 = .ok (.iaload, 1) := by decide +kernel
theorem dX8_tallOf_57 : decode cX8_tallOf 57 = .ok (.iadd, 1) := by decide +kernel
theorem dX8_tallOf_58 : decode cX8_tallOf 58 = .ok (.ireturn, 1) := by decide +kernel
theorem dX8_beggar_0 : decode cX8_beggar 0 = .ok (.aload_n 0, 1) := by decide +kernel
theorem dX8_beggar_1 : decode cX8_beggar 1 = .ok (.iload_n 1, 1) := by decide +kernel
theorem dX8_beggar_2 : decode cX8_beggar 2 = .ok (.invokevirtual 267, 3) := by decide +kernel
theorem dX8_beggar_5 : decode cX8_beggar 5 = .ok (.ifCond .ne 6, 3) := by decide +kernel
theorem dX8_beggar_8 : decode cX8_beggar 8 = .ok (.ldc 255, 2) := by decide +kernel
theorem dX8_beggar_10 : decode cX8_beggar 10 = .ok (.ireturn, 1) := by decide +kernel
theorem dX8_beggar_11 : decode cX8_beggar 11 = .ok (.iload_n 2, 1) := by decide +kernel
theorem dX8_beggar_12 : decode cX8_beggar 12 = .ok (.tableswitch 70 0 4 #[36, 43, 50, 57, 63], 36) := by decide +kernel
theorem dX8_beggar_48 : decode cX8_beggar 48 = .ok (.aload_n 0, 1) := by decide +kernel
theorem dX8_beggar_49 : decode cX8_beggar 49 = .ok (.getfield 29, 3) := by decide +kernel
theorem dX8_beggar_52 : decode cX8_beggar 52 = .ok (.iload_n 1, 1) := by decide +kernel
theorem dX8_beggar_53 : decode cX8_beggar 53 = .ok (.iaload, 1) := by decide +kernel
theorem dX8_beggar_54 : decode cX8_beggar 54 = .ok (.ireturn, 1) := by decide +kernel
theorem dX8_beggar_55 : decode cX8_beggar 55 = .ok (.aload_n 0, 1) := by decide +kernel
theorem dX8_beggar_56 : decode cX8_beggar 56 = .ok (.getfield 38, 3) := by decide +kernel
theorem dX8_beggar_59 : decode cX8_beggar 59 = .ok (.iload_n 1, 1) := by decide +kernel
theorem dX8_beggar_60 : decode cX8_beggar 60 = .ok (.iaload, 1) := by decide +kernel
theorem dX8_beggar_61 : decode cX8_beggar 61 = .ok (.ireturn, 1) := by decide +kernel
theorem dX8_beggar_62 : decode cX8_beggar 62 = .ok (.aload_n 0, 1) := by decide +kernel
theorem dX8_beggar_63 : decode cX8_beggar 63 = .ok (.getfield 41, 3) := by decide +kernel
theorem dX8_beggar_66 : decode cX8_beggar 66 = .ok (.iload_n 1, 1) := by decide +kernel
theorem dX8_beggar_67 : decode cX8_beggar 67 = .ok (.iaload, 1) := by decide +kernel
theorem dX8_beggar_68 : decode cX8_beggar 68 = .ok (.ireturn, 1) := by decide +kernel
theorem dX8_beggar_69 : decode cX8_beggar 69 = .ok (.aload_n 0, 1) := by decide +kernel
theorem dX8_beggar_70 : decode cX8_beggar 70 = .ok (.iload_n 1, 1) := by decide +kernel
theorem dX8_beggar_71 : decode cX8_beggar 71 = .ok (.invokevirtual 270, 3) := by decide +kernel
theorem dX8_beggar_74 : decode cX8_beggar 74 = .ok (.ireturn, 1) := by decide +kernel
theorem dX8_beggar_75 : decode cX8_beggar 75 = .ok (.aload_n 0, 1) := by decide +kernel
theorem dX8_beggar_76 : decode cX8_beggar 76 = .ok (.getfield 44, 3) := by decide +kernel
theorem dX8_beggar_79 : decode cX8_beggar 79 = .ok (.iload_n 1, 1) := by decide +kernel
theorem dX8_beggar_80 : decode cX8_beggar 80 = .ok (.iaload, 1) := by decide +kernel
theorem dX8_beggar_81 : decode cX8_beggar 81 = .ok (.ireturn, 1) := by decide +kernel
theorem dX8_beggar_82 : decode cX8_beggar 82 = .ok (.ldc 135, 2) := by decide +kernel
theorem dX8_beggar_84 : decode cX8_beggar 84 = .ok (.ireturn, 1) := by decide +kernel
theorem dX8_onWhom_0 : decode cX8_onWhom 0 = .ok (.iconst (-1), 1) := by decide +kernel
theorem dX8_onWhom_1 : decode cX8_onWhom 1 = .ok (.istore_n 2, 1) := by decide +kernel
theorem dX8_onWhom_2 : decode cX8_onWhom 2 = .ok (.iconst 0, 1) := by decide +kernel
theorem dX8_onWhom_3 : decode cX8_onWhom 3 = .ok (.istore_n 3, 1) := by decide +kernel
theorem dX8_onWhom_4 : decode cX8_onWhom 4 = .ok (.iload_n 3, 1) := by decide +kernel
theorem dX8_onWhom_5 : decode cX8_onWhom 5 = .ok (.aload_n 0, 1) := by decide +kernel
theorem dX8_onWhom_6 : decode cX8_onWhom 6 = .ok (.getfield 127, 3) := by decide +kernel
theorem dX8_onWhom_9 : decode cX8_onWhom 9 = .ok (.if_icmp .ge 25, 3) := by decide +kernel
theorem dX8_onWhom_12 : decode cX8_onWhom 12 = .ok (.aload_n 0, 1) := by decide +kernel
theorem dX8_onWhom_13 : decode cX8_onWhom 13 = .ok (.getfield 41, 3) := by decide +kernel
theorem dX8_onWhom_16 : decode cX8_onWhom 16 = .ok (.iload_n 3, 1) := by decide +kernel
theorem dX8_onWhom_17 : decode cX8_onWhom 17 = .ok (.iaload, 1) := by decide +kernel
theorem dX8_onWhom_18 : decode cX8_onWhom 18 = .ok (.iload_n 1, 1) := by decide +kernel
theorem dX8_onWhom_19 : decode cX8_onWhom 19 = .ok (.if_icmp .ne 7, 3) := by decide +kernel
theorem dX8_onWhom_22 : decode cX8_onWhom 22 = .ok (.iload_n 3, 1) := by decide +kernel
theorem dX8_onWhom_23 : decode cX8_onWhom 23 = .ok (.goto 4, 3) := by decide +kernel
theorem dX8_onWhom_26 : decode cX8_onWhom 26 = .ok (.iload_n 2, 1) := by decide +kernel
theorem dX8_onWhom_27 : decode cX8_onWhom 27 = .ok (.istore_n 2, 1) := by decide +kernel
theorem dX8_onWhom_28 : decode cX8_onWhom 28 = .ok (.iinc 3 1, 3) := by decide +kernel
theorem dX8_onWhom_31 : decode cX8_onWhom 31 = .ok (.goto (-27), 3) := by decide +kernel
theorem dX8_onWhom_34 : decode cX8_onWhom 34 = .ok (.iload_n 2, 1) := by decide +kernel
theorem dX8_onWhom_35 : decode cX8_onWhom 35 = .ok (.ireturn, 1) := by decide +kernel
theorem dX8_hat_0 : decode cX8_hat 0 = .ok (.aload_n 0, 1) := by decide +kernel
theorem dX8_hat_1 : decode cX8_hat 1 = .ok (.iload_n 1, 1) := by decide +kernel
theorem dX8_hat_2 : decode cX8_hat 2 = .ok (.invokevirtual 274, 3) := by decide +kernel
theorem dX8_hat_5 : decode cX8_hat 5 = .ok (.ifCond .ne 6, 3) := by decide +kernel
theorem dX8_hat_8 : decode cX8_hat 8 = .ok (.ldc 255, 2) := by decide +kernel
theorem dX8_hat_10 : decode cX8_hat 10 = .ok (.ireturn, 1) := by decide +kernel
theorem dX8_hat_11 : decode cX8_hat 11 = .ok (.iload_n 2, 1) := by decide +kernel
theorem dX8_hat_12 : decode cX8_hat 12 = .ok (.ifCond .ne 12, 3) := by decide +kernel
theorem dX8_hat_15 : decode cX8_hat 15 = .ok (.aload_n 0, 1) := by decide +kernel
theorem dX8_hat_16 : decode cX8_hat 16 = .ok (.getfield 32, 3) := by decide +kernel
theorem dX8_hat_19 : decode cX8_hat 19 = .ok (.iload_n 1, 1) := by decide +kernel
theorem dX8_hat_20 : decode cX8_hat 20 = .ok (.iaload, 1) := by decide +kernel
theorem dX8_hat_21 : decode cX8_hat 21 = .ok (.goto 32, 3) := by decide +kernel
theorem dX8_hat_24 : decode cX8_hat 24 = .ok (.iload_n 2, 1) := by decide +kernel
theorem dX8_hat_25 : decode cX8_hat 25 = .ok (.iconst 1, 1) := by decide +kernel
theorem dX8_hat_26 : decode cX8_hat 26 = .ok (.if_icmp .ne 12, 3) := by decide +kernel
theorem dX8_hat_29 : decode cX8_hat 29 = .ok (.aload_n 0, 1) := by decide +kernel
theorem dX8_hat_30 : decode cX8_hat 30 = .ok (.getfield 35, 3) := by decide +kernel
theorem dX8_hat_33 : decode cX8_hat 33 = .ok (.iload_n 1, 1) := by decide +kernel
theorem dX8_hat_34 : decode cX8_hat 34 = .ok (.iaload, 1) := by decide +kernel
theorem dX8_hat_35 : decode cX8_hat 35 = .ok (.goto 18, 3) := by decide +kernel
theorem dX8_hat_38 : decode cX8_hat 38 = .ok (.iload_n 2, 1) := by decide +kernel
theorem dX8_hat_39 : decode cX8_hat 39 = .ok (.iconst 2, 1) := by decide +kernel
theorem dX8_hat_40 : decode cX8_hat 40 = .ok (.if_icmp .ne 11, 3) := by decide +kernel
theorem dX8_hat_43 : decode cX8_hat 43 = .ok (.aload_n 0, 1) := by decide +kernel
theorem dX8_hat_44 : decode cX8_hat 44 = .ok (.iload_n 1, 1) := by decide +kernel
theorem dX8_hat_45 : decode cX8_hat 45 = .ok (.invokevirtual 277, 3) := by decide +kernel
theorem dX8_hat_48 : decode cX8_hat 48 = .ok (.goto 5, 3) := by decide +kernel
theorem dX8_hat_51 : decode cX8_hat 51 = .ok (.ldc 135, 2) := by decide +kernel
theorem dX8_hat_53 : decode cX8_hat 53 = .ok (.ireturn, 1) := by decide +kernel
theorem dX8_lengthBy_0 : decode cX8_lengthBy 0 = .ok (.iload_n 1, 1) := by decide +kernel
theorem dX8_lengthBy_1 : decode cX8_lengthBy 1 = .ok (.iload_n 3, 1) := by decide +kernel
theorem dX8_lengthBy_2 : decode cX8_lengthBy 2 = .ok (.imul, 1) := by decide +kernel
theorem dX8_lengthBy_3 : decode cX8_lengthBy 3 = .ok (.bipush 10, 2) := by decide +kernel
theorem dX8_lengthBy_5 : decode cX8_lengthBy 5 = .ok (.idiv, 1) := by decide +kernel
theorem dX8_lengthBy_6 : decode cX8_lengthBy 6 = .ok (.istore 4, 2) := by decide +kernel
theorem dX8_lengthBy_8 : decode cX8_lengthBy 8 = .ok (.iload 4, 2) := by decide +kernel
theorem dX8_lengthBy_10 : decode cX8_lengthBy 10 = .ok (.bipush 10, 2) := by decide +kernel
theorem dX8_lengthBy_12 : decode cX8_lengthBy 12 = .ok (.aload_n 0, 1) := by decide +kernel
theorem dX8_lengthBy_13 : decode cX8_lengthBy 13 = .ok (.getfield 23, 3) := by decide +kernel
theorem dX8_lengthBy_16 : decode cX8_lengthBy 16 = .ok (.iload_n 2, 1) := by decide +kernel
theorem dX8_lengthBy_17 : decode cX8_lengthBy 17 = .ok (.iaload, 1) := by decide +kernel
theorem dX8_lengthBy_18 : decode cX8_lengthBy 18 = .ok (.isub, 1) := by decide +kernel
theorem dX8_lengthBy_19 : decode cX8_lengthBy 19 = .ok (.imul, 1) := by decide +kernel
theorem dX8_lengthBy_20 : decode cX8_lengthBy 20 = .ok (.bipush 10, 2) := by decide +kernel
theorem dX8_lengthBy_22 : decode cX8_lengthBy 22 = .ok (.idiv, 1) := by decide +kernel
theorem dX8_lengthBy_23 : decode cX8_lengthBy 23 = .ok (.istore 4, 2) := by decide +kernel
theorem dX8_lengthBy_25 : decode cX8_lengthBy 25 = .ok (.aload_n 0, 1) := by decide +kernel
theorem dX8_lengthBy_26 : decode cX8_lengthBy 26 = .ok (.getfield 26, 3) := by decide +kernel
theorem dX8_lengthBy_29 : decode cX8_lengthBy 29 = .ok (.iload_n 2, 1) := by decide +kernel
theorem dX8_lengthBy_30 : decode cX8_lengthBy 30 = .ok (.iaload, 1) := by decide +kernel
theorem dX8_lengthBy_31 : decode cX8_lengthBy 31 = .ok (.ifCond .le 23, 3) := by decide +kernel
theorem dX8_lengthBy_34 : decode cX8_lengthBy 34 = .ok (.iload 4, 2) := by decide +kernel
theorem dX8_lengthBy_36 : decode cX8_lengthBy 36 = .ok (.aload_n 0, 1) := by decide +kernel
theorem dX8_lengthBy_37 : decode cX8_lengthBy 37 = .ok (.getfield 26, 3) := by decide +kernel
theorem dX8_lengthBy_40 : decode cX8_lengthBy 40 = .ok (.iload_n 2, 1) := by decide +kernel
theorem dX8_lengthBy_41 : decode cX8_lengthBy 41 = .ok (.iaload, 1) := by decide +kernel
theorem dX8_lengthBy_42 : decode cX8_lengthBy 42 = .ok (.if_icmp .le 12, 3) := by decide +kernel
theorem dX8_lengthBy_45 : decode cX8_lengthBy 45 = .ok (.aload_n 0, 1) := by decide +kernel
theorem dX8_lengthBy_46 : decode cX8_lengthBy 46 = .ok (.getfield 26, 3) := by decide +kernel
theorem dX8_lengthBy_49 : decode cX8_lengthBy 49 = .ok (.iload_n 2, 1) := by decide +kernel
theorem dX8_lengthBy_50 : decode cX8_lengthBy 50 = .ok (.iaload, 1) := by decide +kernel
theorem dX8_lengthBy_51 : decode cX8_lengthBy 51 = .ok (.goto 5, 3) := by decide +kernel
theorem dX8_lengthBy_54 : decode cX8_lengthBy 54 = .ok (.iload 4, 2) := by decide +kernel
theorem dX8_lengthBy_56 : decode cX8_lengthBy 56 = .ok (.ireturn, 1) := by decide +kernel
theorem dX8_shadowOf_0 : decode cX8_shadowOf 0 = .ok (.aload_n 0, 1) := by decide +kernel
theorem dX8_shadowOf_1 : decode cX8_shadowOf 1 = .ok (.getfield 38, 3) := by decide +kernel
theorem dX8_shadowOf_4 : decode cX8_shadowOf 4 = .ok (.iload_n 1, 1) := by decide +kernel
theorem dX8_shadowOf_5 : decode cX8_shadowOf 5 = .ok (.iaload, 1) := by decide +kernel
theorem dX8_shadowOf_6 : decode cX8_shadowOf 6 = .ok (.istore 4, 2) := by decide +kernel
theorem dX8_shadowOf_8 : decode cX8_shadowOf 8 = .ok (.iload 4, 2) := by decide +kernel
theorem dX8_shadowOf_10 : decode cX8_shadowOf 10 = .ok (.ifCond .ge 5, 3) := by decide +kernel
theorem dX8_shadowOf_13 : decode cX8_shadowOf 13 = .ok (.iconst 0, 1) := by decide +kernel
theorem dX8_shadowOf_14 : decode cX8_shadowOf 14 = .ok (.ireturn, 1) := by decide +kernel
theorem dX8_shadowOf_15 : decode cX8_shadowOf 15 = .ok (.iload 4, 2) := by decide +kernel
theorem dX8_shadowOf_17 : decode cX8_shadowOf 17 = .ok (.ifCond .ne 7, 3) := by decide +kernel
theorem dX8_shadowOf_20 : decode cX8_shadowOf 20 = .ok (.iconst (-1), 1) := by decide +kernel
theorem dX8_shadowOf_21 : decode cX8_shadowOf 21 = .ok (.goto 12, 3) := by decide +kernel
theorem dX8_shadowOf_24 : decode cX8_shadowOf 24 = .ok (.aload_n 0, 1) := by decide +kernel
theorem dX8_shadowOf_25 : decode cX8_shadowOf 25 = .ok (.iload 4, 2) := by decide +kernel
theorem dX8_shadowOf_27 : decode cX8_shadowOf 27 = .ok (.iconst 1, 1) := by decide +kernel
theorem dX8_shadowOf_28 : decode cX8_shadowOf 28 = .ok (.isub, 1) := by decide +kernel
theorem dX8_shadowOf_29 : decode cX8_shadowOf 29 = .ok (.iload_n 2, 1) := by decide +kernel
theorem dX8_shadowOf_30 : decode cX8_shadowOf 30 = .ok (.invokevirtual 264, 3) := by decide +kernel
theorem dX8_shadowOf_33 : decode cX8_shadowOf 33 = .ok (.istore 5, 2) := by decide +kernel
theorem dX8_shadowOf_35 : decode cX8_shadowOf 35 = .ok (.iload 5, 2) := by decide +kernel
theorem dX8_shadowOf_37 : decode cX8_shadowOf 37 = .ok (.ifCond .lt 21, 3) := by decide +kernel
theorem dX8_shadowOf_40 : decode cX8_shadowOf 40 = .ok (.aload_n 0, 1) := by decide +kernel
theorem dX8_shadowOf_41 : decode cX8_shadowOf 41 = .ok (.iload 5, 2) := by decide +kernel
theorem dX8_shadowOf_43 : decode cX8_shadowOf 43 = .ok (.invokevirtual 270, 3) := by decide +kernel
theorem dX8_shadowOf_46 : decode cX8_shadowOf 46 = .ok (.aload_n 0, 1) := by decide +kernel
theorem dX8_shadowOf_47 : decode cX8_shadowOf 47 = .ok (.iload_n 1, 1) := by decide +kernel
theorem dX8_shadowOf_48 : decode cX8_shadowOf 48 = .ok (.invokevirtual 270, 3) := by decide +kernel
theorem dX8_shadowOf_51 : decode cX8_shadowOf 51 = .ok (.if_icmp .le 7, 3) := by decide +kernel
theorem dX8_shadowOf_54 : decode cX8_shadowOf 54 = .ok (.iconst 0, 1) := by decide +kernel
theorem dX8_shadowOf_55 : decode cX8_shadowOf 55 = .ok (.goto 15, 3) := by decide +kernel
theorem dX8_shadowOf_58 : decode cX8_shadowOf 58 = .ok (.aload_n 0, 1) := by decide +kernel
theorem dX8_shadowOf_59 : decode cX8_shadowOf 59 = .ok (.aload_n 0, 1) := by decide +kernel
theorem dX8_shadowOf_60 : decode cX8_shadowOf 60 = .ok (.iload_n 1, 1) := by decide +kernel
theorem dX8_shadowOf_61 : decode cX8_shadowOf 61 = .ok (.invokevirtual 270, 3) := by decide +kernel
theorem dX8_shadowOf_64 : decode cX8_shadowOf 64 = .ok (.iload 4, 2) := by decide +kernel
theorem dX8_shadowOf_66 : decode cX8_shadowOf 66 = .ok (.iload_n 3, 1) := by decide +kernel
theorem dX8_shadowOf_67 : decode cX8_shadowOf 67 = .ok (.invokevirtual 280, 3) := by decide +kernel
theorem dX8_shadowOf_70 : decode cX8_shadowOf 70 = .ok (.ireturn, 1) := by decide +kernel
theorem dX8_costOf_0 : decode cX8_costOf 0 = .ok (.aload_n 0, 1) := by decide +kernel
theorem dX8_costOf_1 : decode cX8_costOf 1 = .ok (.getfield 41, 3) := by decide +kernel
theorem dX8_costOf_4 : decode cX8_costOf 4 = .ok (.iload_n 1, 1) := by decide +kernel
theorem dX8_costOf_5 : decode cX8_costOf 5 = .ok (.iaload, 1) := by decide +kernel
theorem dX8_costOf_6 : decode cX8_costOf 6 = .ok (.ifCond .ge 7, 3) := by decide +kernel
theorem dX8_costOf_9 : decode cX8_costOf 9 = .ok (.iconst 0, 1) := by decide +kernel
theorem dX8_costOf_10 : decode cX8_costOf 10 = .ok (.goto 14, 3) := by decide +kernel
theorem dX8_costOf_13 : decode cX8_costOf 13 = .ok (.aload_n 0, 1) := by decide +kernel
theorem dX8_costOf_14 : decode cX8_costOf 14 = .ok (.getfield 35, 3) := by decide +kernel
theorem dX8_costOf_17 : decode cX8_costOf 17 = .ok (.aload_n 0, 1) := by decide +kernel
theorem dX8_costOf_18 : decode cX8_costOf 18 = .ok (.getfield 41, 3) := by decide +kernel
theorem dX8_costOf_21 : decode cX8_costOf 21 = .ok (.iload_n 1, 1) := by decide +kernel
theorem dX8_costOf_22 : decode cX8_costOf 22 = .ok (.iaload, 1) := by decide +kernel
theorem dX8_costOf_23 : decode cX8_costOf 23 = .ok (.iaload, 1) := by decide +kernel
theorem dX8_costOf_24 : decode cX8_costOf 24 = .ok (.ireturn, 1) := by decide +kernel
theorem dX8_findAlms_0 : decode cX8_findAlms 0 = .ok (.iconst 0, 1) := by decide +kernel
theorem dX8_findAlms_1 : decode cX8_findAlms 1 = .ok (.istore_n 3, 1) := by decide +kernel
theorem dX8_findAlms_2 : decode cX8_findAlms 2 = .ok (.iconst (-1), 1) := by decide +kernel
theorem dX8_findAlms_3 : decode cX8_findAlms 3 = .ok (.istore 4, 2) := by decide +kernel
theorem dX8_findAlms_5 : decode cX8_findAlms 5 = .ok (.iconst 0, 1) := by decide +kernel
theorem dX8_findAlms_6 : decode cX8_findAlms 6 = .ok (.istore 5, 2) := by decide +kernel
theorem dX8_findAlms_8 : decode cX8_findAlms 8 = .ok (.iload 5, 2) := by decide +kernel
theorem dX8_findAlms_10 : decode cX8_findAlms 10 = .ok (.iload_n 1, 1) := by decide +kernel
theorem dX8_findAlms_11 : decode cX8_findAlms 11 = .ok (.if_icmp .ge 87, 3) := by decide +kernel
theorem dX8_findAlms_14 : decode cX8_findAlms 14 = .ok (.aload_n 0, 1) := by decide +kernel
theorem dX8_findAlms_15 : decode cX8_findAlms 15 = .ok (.getfield 77, 3) := by decide +kernel
theorem dX8_findAlms_18 : decode cX8_findAlms 18 = .ok (.iload 5, 2) := by decide +kernel
theorem dX8_findAlms_20 : decode cX8_findAlms 20 = .ok (.aload_n 0, 1) := by decide +kernel
theorem dX8_findAlms_21 : decode cX8_findAlms 21 = .ok (.iload 5, 2) := by decide +kernel
theorem dX8_findAlms_23 : decode cX8_findAlms 23 = .ok (.iload_n 1, 1) := by decide +kernel
theorem dX8_findAlms_24 : decode cX8_findAlms 24 = .ok (.iload_n 2, 1) := by decide +kernel
theorem dX8_findAlms_25 : decode cX8_findAlms 25 = .ok (.invokevirtual 284, 3) := by decide +kernel
theorem dX8_findAlms_28 : decode cX8_findAlms 28 = .ok (.iastore, 1) := by decide +kernel
theorem dX8_findAlms_29 : decode cX8_findAlms 29 = .ok (.iload_n 3, 1) := by decide +kernel
theorem dX8_findAlms_30 : decode cX8_findAlms 30 = .ok (.aload_n 0, 1) := by decide +kernel
theorem dX8_findAlms_31 : decode cX8_findAlms 31 = .ok (.getfield 77, 3) := by decide +kernel
theorem dX8_findAlms_34 : decode cX8_findAlms 34 = .ok (.iload 5, 2) := by decide +kernel
theorem dX8_findAlms_36 : decode cX8_findAlms 36 = .ok (.iaload, 1) := by decide +kernel
theorem dX8_findAlms_37 : decode cX8_findAlms 37 = .ok (.iadd, 1) := by decide +kernel
theorem dX8_findAlms_38 : decode cX8_findAlms 38 = .ok (.istore_n 3, 1) := by decide +kernel
theorem dX8_findAlms_39 : decode cX8_findAlms 39 = .ok (.aload_n 0, 1) := by decide +kernel
theorem dX8_findAlms_40 : decode cX8_findAlms 40 = .ok (.getfield 38, 3) := by decide +kernel
theorem dX8_findAlms_43 : decode cX8_findAlms 43 = .ok (.iload 5, 2) := by decide +kernel
theorem dX8_findAlms_45 : decode cX8_findAlms 45 = .ok (.iaload, 1) := by decide +kernel
theorem dX8_findAlms_46 : decode cX8_findAlms 46 = .ok (.ifCond .lt 29, 3) := by decide +kernel
theorem dX8_findAlms_49 : decode cX8_findAlms 49 = .ok (.iload 4, 2) := by decide +kernel
theorem dX8_findAlms_51 : decode cX8_findAlms 51 = .ok (.ifCond .lt 20, 3) := by decide +kernel
theorem dX8_findAlms_54 : decode cX8_findAlms 54 = .ok (.aload_n 0, 1) := by decide +kernel
theorem dX8_findAlms_55 : decode cX8_findAlms 55 = .ok (.getfield 77, 3) := by decide +kernel
theorem dX8_findAlms_58 : decode cX8_findAlms 58 = .ok (.iload 5, 2) := by decide +kernel
theorem dX8_findAlms_60 : decode cX8_findAlms 60 = .ok (.iaload, 1) := by decide +kernel
theorem dX8_findAlms_61 : decode cX8_findAlms 61 = .ok (.aload_n 0, 1) := by decide +kernel
theorem dX8_findAlms_62 : decode cX8_findAlms 62 = .ok (.getfield 77, 3) := by decide +kernel
theorem dX8_findAlms_65 : decode cX8_findAlms 65 = .ok (.iload 4, 2) := by decide +kernel
theorem dX8_findAlms_67 : decode cX8_findAlms 67 = .ok (.iaload, 1) := by decide +kernel
theorem dX8_findAlms_68 : decode cX8_findAlms 68 = .ok (.if_icmp .le 7, 3) := by decide +kernel
theorem dX8_findAlms_71 : decode cX8_findAlms 71 = .ok (.iconst 1, 1) := by decide +kernel
theorem dX8_findAlms_72 : decode cX8_findAlms 72 = .ok (.goto 4, 3) := by decide +kernel
theorem dX8_findAlms_75 : decode cX8_findAlms 75 = .ok (.iconst 0, 1) := by decide +kernel
theorem dX8_findAlms_76 : decode cX8_findAlms 76 = .ok (.istore 6, 2) := by decide +kernel
theorem dX8_findAlms_78 : decode cX8_findAlms 78 = .ok (.iload 6, 2) := by decide +kernel
theorem dX8_findAlms_80 : decode cX8_findAlms 80 = .ok (.ifCond .eq 8, 3) := by decide +kernel
theorem dX8_findAlms_83 : decode cX8_findAlms 83 = .ok (.iload 5, 2) := by decide +kernel
theorem dX8_findAlms_85 : decode cX8_findAlms 85 = .ok (.goto 5, 3) := by decide +kernel
theorem dX8_findAlms_88 : decode cX8_findAlms 88 = .ok (.iload 4, 2) := by decide +kernel
theorem dX8_findAlms_90 : decode cX8_findAlms 90 = .ok (.istore 4, 2) := by decide +kernel
theorem dX8_findAlms_92 : decode cX8_findAlms 92 = .ok (.iinc 5 1, 3) := by decide +kernel
theorem dX8_findAlms_95 : decode cX8_findAlms 95 = .ok (.goto (-87), 3) := by decide +kernel
theorem dX8_findAlms_98 : decode cX8_findAlms 98 = .ok (.iconst 0, 1) := by decide +kernel
theorem dX8_findAlms_99 : decode cX8_findAlms 99 = .ok (.istore 5, 2) := by decide +kernel
theorem dX8_findAlms_101 : decode cX8_findAlms 101 = .ok (.iload 5, 2) := by decide +kernel
theorem dX8_findAlms_103 : decode cX8_findAlms 103 = .ok (.iload_n 1, 1) := by decide +kernel
theorem dX8_findAlms_104 : decode cX8_findAlms 104 = .ok (.if_icmp .ge 80, 3) := by decide +kernel
theorem dX8_findAlms_107 : decode cX8_findAlms 107 = .ok (.aload_n 0, 1) := by decide +kernel
theorem dX8_findAlms_108 : decode cX8_findAlms 108 = .ok (.getfield 80, 3) := by decide +kernel
theorem dX8_findAlms_111 : decode cX8_findAlms 111 = .ok (.iload 5, 2) := by decide +kernel
theorem dX8_findAlms_113 : decode cX8_findAlms 113 = .ok (.aload_n 0, 1) := by decide +kernel
theorem dX8_findAlms_114 : decode cX8_findAlms 114 = .ok (.getfield 248, 3) := by decide +kernel
theorem dX8_findAlms_117 : decode cX8_findAlms 117 = .ok (.ifCond .ne 13, 3) := by decide +kernel
theorem dX8_findAlms_120 : decode cX8_findAlms 120 = .ok (.aload_n 0, 1) := by decide +kernel
theorem dX8_findAlms_121 : decode cX8_findAlms 121 = .ok (.getfield 77, 3) := by decide +kernel
theorem dX8_findAlms_124 : decode cX8_findAlms 124 = .ok (.iload 5, 2) := by decide +kernel
theorem dX8_findAlms_126 : decode cX8_findAlms 126 = .ok (.iaload, 1) := by decide +kernel
theorem dX8_findAlms_127 : decode cX8_findAlms 127 = .ok (.goto 50, 3) := by decide +kernel
theorem dX8_findAlms_130 : decode cX8_findAlms 130 = .ok (.aload_n 0, 1) := by decide +kernel
theorem dX8_findAlms_131 : decode cX8_findAlms 131 = .ok (.getfield 248, 3) := by decide +kernel
theorem dX8_findAlms_134 : decode cX8_findAlms 134 = .ok (.iconst 1, 1) := by decide +kernel
theorem dX8_findAlms_135 : decode cX8_findAlms 135 = .ok (.if_icmp .ne 18, 3) := by decide +kernel
theorem dX8_findAlms_138 : decode cX8_findAlms 138 = .ok (.iload 5, 2) := by decide +kernel
theorem dX8_findAlms_140 : decode cX8_findAlms 140 = .ok (.iload 4, 2) := by decide +kernel
theorem dX8_findAlms_142 : decode cX8_findAlms 142 = .ok (.if_icmp .ne 7, 3) := by decide +kernel
theorem dX8_findAlms_145 : decode cX8_findAlms 145 = .ok (.iload_n 3, 1) := by decide +kernel
theorem dX8_findAlms_146 : decode cX8_findAlms 146 = .ok (.goto 31, 3) := by decide +kernel
theorem dX8_findAlms_149 : decode cX8_findAlms 149 = .ok (.iconst 0, 1) := by decide +kernel
theorem dX8_findAlms_150 : decode cX8_findAlms 150 = .ok (.goto 27, 3) := by decide +kernel
theorem dX8_findAlms_153 : decode cX8_findAlms 153 = .ok (.aload_n 0, 1) := by decide +kernel
theorem dX8_findAlms_154 : decode cX8_findAlms 154 = .ok (.getfield 77, 3) := by decide +kernel
theorem dX8_findAlms_157 : decode cX8_findAlms 157 = .ok (.iload 5, 2) := by decide +kernel
theorem dX8_findAlms_159 : decode cX8_findAlms 159 = .ok (.iaload, 1) := by decide +kernel
theorem dX8_findAlms_160 : decode cX8_findAlms 160 = .ok (.bipush 50, 2) := by decide +kernel
theorem dX8_findAlms_162 : decode cX8_findAlms 162 = .ok (.if_icmp .le 8, 3) := by decide +kernel
theorem dX8_findAlms_165 : decode cX8_findAlms 165 = .ok (.bipush 50, 2) := by decide +kernel
theorem dX8_findAlms_167 : decode cX8_findAlms 167 = .ok (.goto 10, 3) := by decide +kernel
theorem dX8_findAlms_170 : decode cX8_findAlms 170 = .ok (.aload_n 0, 1) := by decide +kernel
theorem dX8_findAlms_171 : decode cX8_findAlms 171 = .ok (.getfield 77, 3) := by decide +kernel
theorem dX8_findAlms_174 : decode cX8_findAlms 174 = .ok (.iload 5, 2) := by decide +kernel
theorem dX8_findAlms_176 : decode cX8_findAlms 176 = .ok (.iaload, 1) := by decide +kernel
theorem dX8_findAlms_177 : decode cX8_findAlms 177 = .ok (.iastore, 1) := by decide +kernel
theorem dX8_findAlms_178 : decode cX8_findAlms 178 = .ok (.iinc 5 1, 3) := by decide +kernel
theorem dX8_findAlms_181 : decode cX8_findAlms 181 = .ok (.goto (-80), 3) := by decide +kernel
theorem dX8_findAlms_184 : decode cX8_findAlms 184 = .ok (.return_, 1) := by decide +kernel
theorem dX8_almsOf_0 : decode cX8_almsOf 0 = .ok (.aload_n 0, 1) := by decide +kernel
theorem dX8_almsOf_1 : decode cX8_almsOf 1 = .ok (.getfield 80, 3) := by decide +kernel
theorem dX8_almsOf_4 : decode cX8_almsOf 4 = .ok (.iload_n 1, 1) := by decide +kernel
theorem dX8_almsOf_5 : decode cX8_almsOf 5 = .ok (.iaload, 1) := by decide +kernel
theorem dX8_almsOf_6 : decode cX8_almsOf 6 = .ok (.aload_n 0, 1) := by decide +kernel
theorem dX8_almsOf_7 : decode cX8_almsOf 7 = .ok (.iload_n 1, 1) := by decide +kernel
theorem dX8_almsOf_8 : decode cX8_almsOf 8 = .ok (.invokevirtual 287, 3) := by decide +kernel
theorem dX8_almsOf_11 : decode cX8_almsOf 11 = .ok (.isub, 1) := by decide +kernel
theorem dX8_almsOf_12 : decode cX8_almsOf 12 = .ok (.ireturn, 1) := by decide +kernel
theorem dX8_almsOfAll_0 : decode cX8_almsOfAll 0 = .ok (.iconst 0, 1) := by decide +kernel
theorem dX8_almsOfAll_1 : decode cX8_almsOfAll 1 = .ok (.istore_n 2, 1) := by decide +kernel
theorem dX8_almsOfAll_2 : decode cX8_almsOfAll 2 = .ok (.iconst 0, 1) := by decide +kernel
theorem dX8_almsOfAll_3 : decode cX8_almsOfAll 3 = .ok (.istore_n 3, 1) := by decide +kernel
theorem dX8_almsOfAll_4 : decode cX8_almsOfAll 4 = .ok (.iload_n 3, 1) := by decide +kernel
theorem dX8_almsOfAll_5 : decode cX8_almsOfAll 5 = .ok (.iload_n 1, 1) := by decide +kernel
theorem dX8_almsOfAll_6 : decode cX8_almsOfAll 6 = .ok (.if_icmp .ge 17, 3) := by decide +kernel
theorem dX8_almsOfAll_9 : decode cX8_almsOfAll 9 = .ok (.iload_n 2, 1) := by decide +kernel
theorem dX8_almsOfAll_10 : decode cX8_almsOfAll 10 = .ok (.aload_n 0, 1) := by decide +kernel
theorem dX8_almsOfAll_11 : decode cX8_almsOfAll 11 = .ok (.iload_n 3, 1) := by decide +kernel
theorem dX8_almsOfAll_12 : decode cX8_almsOfAll 12 = .ok (.invokevirtual 290, 3) := by decide +kernel
theorem dX8_almsOfAll_15 : decode cX8_almsOfAll 15 = .ok (.iadd, 1) := by decide +kernel
theorem dX8_almsOfAll_16 : decode cX8_almsOfAll 16 = .ok (.istore_n 2, 1) := by decide +kernel
theorem dX8_almsOfAll_17 : decode cX8_almsOfAll 17 = .ok (.iinc 3 1, 3) := by decide +kernel
theorem dX8_almsOfAll_20 : decode cX8_almsOfAll 20 = .ok (.goto (-16), 3) := by decide +kernel
theorem dX8_almsOfAll_23 : decode cX8_almsOfAll 23 = .ok (.iload_n 2, 1) := by decide +kernel
theorem dX8_almsOfAll_24 : decode cX8_almsOfAll 24 = .ok (.ireturn, 1) := by decide +kernel
theorem dX8_longNow_0 : decode cX8_longNow 0 = .ok (.aload_n 0, 1) := by decide +kernel
theorem dX8_longNow_1 : decode cX8_longNow 1 = .ok (.iload_n 1, 1) := by decide +kernel
theorem dX8_longNow_2 : decode cX8_longNow 2 = .ok (.aload_n 0, 1) := by decide +kernel
theorem dX8_longNow_3 : decode cX8_longNow 3 = .ok (.getfield 236, 3) := by decide +kernel
theorem dX8_longNow_6 : decode cX8_longNow 6 = .ok (.invokevirtual 258, 3) := by decide +kernel
theorem dX8_longNow_9 : decode cX8_longNow 9 = .ok (.ireturn, 1) := by decide +kernel
theorem dX8_shadow_0 : decode cX8_shadow 0 = .ok (.aload_n 0, 1) := by decide +kernel
theorem dX8_shadow_1 : decode cX8_shadow 1 = .ok (.iload_n 1, 1) := by decide +kernel
theorem dX8_shadow_2 : decode cX8_shadow 2 = .ok (.invokevirtual 251, 3) := by decide +kernel
theorem dX8_shadow_5 : decode cX8_shadow 5 = .ok (.ifCond .eq 11, 3) := by decide +kernel
theorem dX8_shadow_8 : decode cX8_shadow 8 = .ok (.aload_n 0, 1) := by decide +kernel
theorem dX8_shadow_9 : decode cX8_shadow 9 = .ok (.iload_n 2, 1) := by decide +kernel
theorem dX8_shadow_10 : decode cX8_shadow 10 = .ok (.invokevirtual 267, 3) := by decide +kernel
theorem dX8_shadow_13 : decode cX8_shadow 13 = .ok (.ifCond .ne 6, 3) := by decide +kernel
theorem dX8_shadow_16 : decode cX8_shadow 16 = .ok (.ldc 255, 2) := by decide +kernel
theorem dX8_shadow_18 : decode cX8_shadow 18 = .ok (.ireturn, 1) := by decide +kernel
theorem dX8_shadow_19 : decode cX8_shadow 19 = .ok (.iload_n 3, 1) := by decide +kernel
theorem dX8_shadow_20 : decode cX8_shadow 20 = .ok (.i2l, 1) := by decide +kernel
theorem dX8_shadow_21 : decode cX8_shadow 21 = .ok (.lconst 0, 1) := by decide +kernel
theorem dX8_shadow_22 : decode cX8_shadow 22 = .ok (.lconst 1, 1) := by decide +kernel
theorem dX8_shadow_23 : decode cX8_shadow 23 = .ok (.invokestatic 123, 3) := by decide +kernel
theorem dX8_shadow_26 : decode cX8_shadow 26 = .ok (.ifCond .ne 6, 3) := by decide +kernel
theorem dX8_shadow_29 : decode cX8_shadow 29 = .ok (.ldc 135, 2) := by decide +kernel
theorem dX8_shadow_31 : decode cX8_shadow 31 = .ok (.ireturn, 1) := by decide +kernel
theorem dX8_shadow_32 : decode cX8_shadow 32 = .ok (.aload_n 0, 1) := by decide +kernel
theorem dX8_shadow_33 : decode cX8_shadow 33 = .ok (.aload_n 0, 1) := by decide +kernel
theorem dX8_shadow_34 : decode cX8_shadow 34 = .ok (.getfield 127, 3) := by decide +kernel
theorem dX8_shadow_37 : decode cX8_shadow 37 = .ok (.aload_n 0, 1) := by decide +kernel
theorem dX8_shadow_38 : decode cX8_shadow 38 = .ok (.iload_n 1, 1) := by decide +kernel
theorem dX8_shadow_39 : decode cX8_shadow 39 = .ok (.invokevirtual 293, 3) := by decide +kernel
theorem dX8_shadow_42 : decode cX8_shadow 42 = .ok (.invokevirtual 296, 3) := by decide +kernel
theorem dX8_shadow_45 : decode cX8_shadow 45 = .ok (.iload_n 3, 1) := by decide +kernel
theorem dX8_shadow_46 : decode cX8_shadow 46 = .ok (.ifCond .ne 12, 3) := by decide +kernel
theorem dX8_shadow_49 : decode cX8_shadow 49 = .ok (.aload_n 0, 1) := by decide +kernel
theorem dX8_shadow_50 : decode cX8_shadow 50 = .ok (.getfield 77, 3) := by decide +kernel
theorem dX8_shadow_53 : decode cX8_shadow 53 = .ok (.iload_n 2, 1) := by decide +kernel
theorem dX8_shadow_54 : decode cX8_shadow 54 = .ok (.iaload, 1) := by decide +kernel
theorem dX8_shadow_55 : decode cX8_shadow 55 = .ok (.goto 8, 3) := by decide +kernel
theorem dX8_shadow_58 : decode cX8_shadow 58 = .ok (.aload_n 0, 1) := by decide +kernel
theorem dX8_shadow_59 : decode cX8_shadow 59 = .ok (.iload_n 2, 1) := by decide +kernel
theorem dX8_shadow_60 : decode cX8_shadow 60 = .ok (.invokevirtual 290, 3) := by decide +kernel
theorem dX8_shadow_63 : decode cX8_shadow 63 = .ok (.ireturn, 1) := by decide +kernel
theorem dX8_go_0 : decode cX8_go 0 = .ok (.aload_n 0, 1) := by decide +kernel
theorem dX8_go_1 : decode cX8_go 1 = .ok (.iload_n 1, 1) := by decide +kernel
theorem dX8_go_2 : decode cX8_go 2 = .ok (.invokevirtual 267, 3) := by decide +kernel
theorem dX8_go_5 : decode cX8_go 5 = .ok (.ifCond .eq 16, 3) := by decide +kernel
theorem dX8_go_8 : decode cX8_go 8 = .ok (.iload_n 2, 1) := by decide +kernel
theorem dX8_go_9 : decode cX8_go 9 = .ok (.iconst (-1), 1) := by decide +kernel
theorem dX8_go_10 : decode cX8_go 10 = .ok (.if_icmp .eq 14, 3) := by decide +kernel
theorem dX8_go_13 : decode cX8_go 13 = .ok (.aload_n 0, 1) := by decide +kernel
theorem dX8_go_14 : decode cX8_go 14 = .ok (.iload_n 2, 1) := by decide +kernel
theorem dX8_go_15 : decode cX8_go 15 = .ok (.invokevirtual 261, 3) := by decide +kernel
theorem dX8_go_18 : decode cX8_go 18 = .ok (.ifCond .ne 6, 3) := by decide +kernel
theorem dX8_go_21 : decode cX8_go 21 = .ok (.ldc 255, 2) := by decide +kernel
theorem dX8_go_23 : decode cX8_go 23 = .ok (.ireturn, 1) := by decide +kernel
theorem dX8_go_24 : decode cX8_go 24 = .ok (.iload_n 2, 1) := by decide +kernel
theorem dX8_go_25 : decode cX8_go 25 = .ok (.iconst (-1), 1) := by decide +kernel
theorem dX8_go_26 : decode cX8_go 26 = .ok (.if_icmp .ne 7, 3) := by decide +kernel
theorem dX8_go_29 : decode cX8_go 29 = .ok (.iconst (-1), 1) := by decide +kernel
theorem dX8_go_30 : decode cX8_go 30 = .ok (.goto 12, 3) := by decide +kernel
theorem dX8_go_33 : decode cX8_go 33 = .ok (.aload_n 0, 1) := by decide +kernel
theorem dX8_go_34 : decode cX8_go 34 = .ok (.iload_n 2, 1) := by decide +kernel
theorem dX8_go_35 : decode cX8_go 35 = .ok (.aload_n 0, 1) := by decide +kernel
theorem dX8_go_36 : decode cX8_go 36 = .ok (.getfield 127, 3) := by decide +kernel
theorem dX8_go_39 : decode cX8_go 39 = .ok (.invokevirtual 264, 3) := by decide +kernel
theorem dX8_go_42 : decode cX8_go 42 = .ok (.istore_n 3, 1) := by decide +kernel
theorem dX8_go_43 : decode cX8_go 43 = .ok (.iload_n 3, 1) := by decide +kernel
theorem dX8_go_44 : decode cX8_go 44 = .ok (.ifCond .lt 12, 3) := by decide +kernel
theorem dX8_go_47 : decode cX8_go 47 = .ok (.iload_n 3, 1) := by decide +kernel
theorem dX8_go_48 : decode cX8_go 48 = .ok (.iload_n 1, 1) := by decide +kernel
theorem dX8_go_49 : decode cX8_go 49 = .ok (.if_icmp .eq 7, 3) := by decide +kernel
theorem dX8_go_52 : decode cX8_go 52 = .ok (.ldc_w 300, 3) := by decide +kernel
theorem dX8_go_55 : decode cX8_go 55 = .ok (.ireturn, 1) := by decide +kernel
theorem dX8_go_56 : decode cX8_go 56 = .ok (.aload_n 0, 1) := by decide +kernel
theorem dX8_go_57 : decode cX8_go 57 = .ok (.getfield 38, 3) := by decide +kernel
theorem dX8_go_60 : decode cX8_go 60 = .ok (.iload_n 1, 1) := by decide +kernel
theorem dX8_go_61 : decode cX8_go 61 = .ok (.iaload, 1) := by decide +kernel
theorem dX8_go_62 : decode cX8_go 62 = .ok (.istore 4, 2) := by decide +kernel
theorem dX8_go_64 : decode cX8_go 64 = .ok (.aload_n 0, 1) := by decide +kernel
theorem dX8_go_65 : decode cX8_go 65 = .ok (.getfield 38, 3) := by decide +kernel
theorem dX8_go_68 : decode cX8_go 68 = .ok (.iload_n 1, 1) := by decide +kernel
theorem dX8_go_69 : decode cX8_go 69 = .ok (.iload_n 2, 1) := by decide +kernel
theorem dX8_go_70 : decode cX8_go 70 = .ok (.iastore, 1) := by decide +kernel
theorem dX8_go_71 : decode cX8_go 71 = .ok (.iload 4, 2) := by decide +kernel
theorem dX8_go_73 : decode cX8_go 73 = .ok (.ireturn, 1) := by decide +kernel
theorem dX8_lend_0 : decode cX8_lend 0 = .ok (.aload_n 0, 1) := by decide +kernel
theorem dX8_lend_1 : decode cX8_lend 1 = .ok (.iload_n 1, 1) := by decide +kernel
theorem dX8_lend_2 : decode cX8_lend 2 = .ok (.invokevirtual 274, 3) := by decide +kernel
theorem dX8_lend_5 : decode cX8_lend 5 = .ok (.ifCond .eq 16, 3) := by decide +kernel
theorem dX8_lend_8 : decode cX8_lend 8 = .ok (.iload_n 2, 1) := by decide +kernel
theorem dX8_lend_9 : decode cX8_lend 9 = .ok (.iconst (-1), 1) := by decide +kernel
theorem dX8_lend_10 : decode cX8_lend 10 = .ok (.if_icmp .eq 14, 3) := by decide +kernel
theorem dX8_lend_13 : decode cX8_lend 13 = .ok (.aload_n 0, 1) := by decide +kernel
theorem dX8_lend_14 : decode cX8_lend 14 = .ok (.iload_n 2, 1) := by decide +kernel
theorem dX8_lend_15 : decode cX8_lend 15 = .ok (.invokevirtual 267, 3) := by decide +kernel
theorem dX8_lend_18 : decode cX8_lend 18 = .ok (.ifCond .ne 6, 3) := by decide +kernel
theorem dX8_lend_21 : decode cX8_lend 21 = .ok (.ldc 255, 2) := by decide +kernel
theorem dX8_lend_23 : decode cX8_lend 23 = .ok (.ireturn, 1) := by decide +kernel
theorem dX8_lend_24 : decode cX8_lend 24 = .ok (.iload_n 2, 1) := by decide +kernel
theorem dX8_lend_25 : decode cX8_lend 25 = .ok (.iconst (-1), 1) := by decide +kernel
theorem dX8_lend_26 : decode cX8_lend 26 = .ok (.if_icmp .eq 26, 3) := by decide +kernel
theorem dX8_lend_29 : decode cX8_lend 29 = .ok (.aload_n 0, 1) := by decide +kernel
theorem dX8_lend_30 : decode cX8_lend 30 = .ok (.getfield 41, 3) := by decide +kernel
theorem dX8_lend_33 : decode cX8_lend 33 = .ok (.iload_n 2, 1) := by decide +kernel
theorem dX8_lend_34 : decode cX8_lend 34 = .ok (.iaload, 1) := by decide +kernel
theorem dX8_lend_35 : decode cX8_lend 35 = .ok (.ifCond .lt 17, 3) := by decide +kernel
theorem dX8_lend_38 : decode cX8_lend 38 = .ok (.aload_n 0, 1) := by decide +kernel
theorem dX8_lend_39 : decode cX8_lend 39 = .ok (.getfield 41, 3) := by decide +kernel
theorem dX8_lend_42 : decode cX8_lend 42 = .ok (.iload_n 2, 1) := by decide +kernel
theorem dX8_lend_43 : decode cX8_lend 43 = .ok (.iaload, 1) := by decide +kernel
theorem dX8_lend_44 : decode cX8_lend 44 = .ok (.iload_n 1, 1) := by decide +kernel
theorem dX8_lend_45 : decode cX8_lend 45 = .ok (.if_icmp .eq 7, 3) := by decide +kernel
theorem dX8_lend_48 : decode cX8_lend 48 = .ok (.ldc_w 300, 3) := by decide +kernel
theorem dX8_lend_51 : decode cX8_lend 51 = .ok (.ireturn, 1) := by decide +kernel
theorem dX8_lend_52 : decode cX8_lend 52 = .ok (.aload_n 0, 1) := by decide +kernel
theorem dX8_lend_53 : decode cX8_lend 53 = .ok (.iload_n 1, 1) := by decide +kernel
theorem dX8_lend_54 : decode cX8_lend 54 = .ok (.invokevirtual 277, 3) := by decide +kernel
theorem dX8_lend_57 : decode cX8_lend 57 = .ok (.istore_n 3, 1) := by decide +kernel
theorem dX8_lend_58 : decode cX8_lend 58 = .ok (.iload_n 3, 1) := by decide +kernel
theorem dX8_lend_59 : decode cX8_lend 59 = .ok (.ifCond .lt 10, 3) := by decide +kernel
theorem dX8_lend_62 : decode cX8_lend 62 = .ok (.aload_n 0, 1) := by decide +kernel
theorem dX8_lend_63 : decode cX8_lend 63 = .ok (.getfield 41, 3) := by decide +kernel
theorem dX8_lend_66 : decode cX8_lend 66 = .ok (.iload_n 3, 1) := by decide +kernel
theorem dX8_lend_67 : decode cX8_lend 67 = .ok (.iconst (-1), 1) := by decide +kernel
theorem dX8_lend_68 : decode cX8_lend 68 = .ok (.iastore, 1) := by decide +kernel
theorem dX8_lend_69 : decode cX8_lend 69 = .ok (.iload_n 2, 1) := by decide +kernel
theorem dX8_lend_70 : decode cX8_lend 70 = .ok (.iconst (-1), 1) := by decide +kernel
theorem dX8_lend_71 : decode cX8_lend 71 = .ok (.if_icmp .eq 10, 3) := by decide +kernel
theorem dX8_lend_74 : decode cX8_lend 74 = .ok (.aload_n 0, 1) := by decide +kernel
theorem dX8_lend_75 : decode cX8_lend 75 = .ok (.getfield 41, 3) := by decide +kernel
theorem dX8_lend_78 : decode cX8_lend 78 = .ok (.iload_n 2, 1) := by decide +kernel
theorem dX8_lend_79 : decode cX8_lend 79 = .ok (.iload_n 1, 1) := by decide +kernel
theorem dX8_lend_80 : decode cX8_lend 80 = .ok (.iastore, 1) := by decide +kernel
theorem dX8_lend_81 : decode cX8_lend 81 = .ok (.iload_n 3, 1) := by decide +kernel
theorem dX8_lend_82 : decode cX8_lend 82 = .ok (.ireturn, 1) := by decide +kernel
theorem dX8_law_0 : decode cX8_law 0 = .ok (.iload_n 1, 1) := by decide +kernel
theorem dX8_law_1 : decode cX8_law 1 = .ok (.i2l, 1) := by decide +kernel
theorem dX8_law_2 : decode cX8_law 2 = .ok (.lconst 0, 1) := by decide +kernel
theorem dX8_law_3 : decode cX8_law 3 = .ok (.ldc2_w 301, 3) := by decide +kernel
theorem dX8_law_6 : decode cX8_law 6 = .ok (.invokestatic 123, 3) := by decide +kernel
theorem dX8_law_9 : decode cX8_law 9 = .ok (.ifCond .ne 6, 3) := by decide +kernel
theorem dX8_law_12 : decode cX8_law 12 = .ok (.ldc 135, 2) := by decide +kernel
theorem dX8_law_14 : decode cX8_law 14 = .ok (.ireturn, 1) := by decide +kernel
theorem dX8_law_15 : decode cX8_law 15 = .ok (.aload_n 0, 1) := by decide +kernel
theorem dX8_law_16 : decode cX8_law 16 = .ok (.getfield 248, 3) := by decide +kernel
theorem dX8_law_19 : decode cX8_law 19 = .ok (.istore_n 2, 1) := by decide +kernel
theorem dX8_law_20 : decode cX8_law 20 = .ok (.aload_n 0, 1) := by decide +kernel
theorem dX8_law_21 : decode cX8_law 21 = .ok (.iload_n 1, 1) := by decide +kernel
theorem dX8_law_22 : decode cX8_law 22 = .ok (.putfield 248, 3) := by decide +kernel
theorem dX8_law_25 : decode cX8_law 25 = .ok (.iload_n 2, 1) := by decide +kernel
theorem dX8_law_26 : decode cX8_law 26 = .ok (.ireturn, 1) := by decide +kernel
theorem dX8_held_0 : decode cX8_held 0 = .ok (.iload_n 0, 1) := by decide +kernel
theorem dX8_held_1 : decode cX8_held 1 = .ok (.ldc_w 303, 3) := by decide +kernel
theorem dX8_held_4 : decode cX8_held 4 = .ok (.if_icmp .le 9, 3) := by decide +kernel
theorem dX8_held_7 : decode cX8_held 7 = .ok (.ldc_w 303, 3) := by decide +kernel
theorem dX8_held_10 : decode cX8_held 10 = .ok (.goto 4, 3) := by decide +kernel
theorem dX8_held_13 : decode cX8_held 13 = .ok (.iload_n 0, 1) := by decide +kernel
theorem dX8_held_14 : decode cX8_held 14 = .ok (.ireturn, 1) := by decide +kernel
theorem dX8_ringNow_0 : decode cX8_ringNow 0 = .ok (.aload_n 0, 1) := by decide +kernel
theorem dX8_ringNow_1 : decode cX8_ringNow 1 = .ok (.aload_n 0, 1) := by decide +kernel
theorem dX8_ringNow_2 : decode cX8_ringNow 2 = .ok (.getfield 127, 3) := by decide +kernel
theorem dX8_ringNow_5 : decode cX8_ringNow 5 = .ok (.aload_n 0, 1) := by decide +kernel
theorem dX8_ringNow_6 : decode cX8_ringNow 6 = .ok (.iload_n 1, 1) := by decide +kernel
theorem dX8_ringNow_7 : decode cX8_ringNow 7 = .ok (.invokevirtual 293, 3) := by decide +kernel
theorem dX8_ringNow_10 : decode cX8_ringNow 10 = .ok (.invokevirtual 296, 3) := by decide +kernel
theorem dX8_ringNow_13 : decode cX8_ringNow 13 = .ok (.iconst 0, 1) := by decide +kernel
theorem dX8_ringNow_14 : decode cX8_ringNow 14 = .ok (.istore_n 2, 1) := by decide +kernel
theorem dX8_ringNow_15 : decode cX8_ringNow 15 = .ok (.iconst 0, 1) := by decide +kernel
theorem dX8_ringNow_16 : decode cX8_ringNow 16 = .ok (.istore_n 3, 1) := by decide +kernel
theorem dX8_ringNow_17 : decode cX8_ringNow 17 = .ok (.iload_n 3, 1) := by decide +kernel
theorem dX8_ringNow_18 : decode cX8_ringNow 18 = .ok (.aload_n 0, 1) := by decide +kernel
theorem dX8_ringNow_19 : decode cX8_ringNow 19 = .ok (.getfield 127, 3) := by decide +kernel
theorem dX8_ringNow_22 : decode cX8_ringNow 22 = .ok (.if_icmp .ge 39, 3) := by decide +kernel
theorem dX8_ringNow_25 : decode cX8_ringNow 25 = .ok (.iload_n 2, 1) := by decide +kernel
theorem dX8_ringNow_26 : decode cX8_ringNow 26 = .ok (.aload_n 0, 1) := by decide +kernel
theorem dX8_ringNow_27 : decode cX8_ringNow 27 = .ok (.getfield 80, 3) := by decide +kernel
theorem dX8_ringNow_30 : decode cX8_ringNow 30 = .ok (.iload_n 3, 1) := by decide +kernel
theorem dX8_ringNow_31 : decode cX8_ringNow 31 = .ok (.iaload, 1) := by decide +kernel
theorem dX8_ringNow_32 : decode cX8_ringNow 32 = .ok (.iadd, 1) := by decide +kernel
theorem dX8_ringNow_33 : decode cX8_ringNow 33 = .ok (.istore_n 2, 1) := by decide +kernel
theorem dX8_ringNow_34 : decode cX8_ringNow 34 = .ok (.aload_n 0, 1) := by decide +kernel
theorem dX8_ringNow_35 : decode cX8_ringNow 35 = .ok (.getfield 44, 3) := by decide +kernel
theorem dX8_ringNow_38 : decode cX8_ringNow 38 = .ok (.iload_n 3, 1) := by decide +kernel
theorem dX8_ringNow_39 : decode cX8_ringNow 39 = .ok (.aload_n 0, 1) := by decide +kernel
theorem dX8_ringNow_40 : decode cX8_ringNow 40 = .ok (.getfield 44, 3) := by decide +kernel
theorem dX8_ringNow_43 : decode cX8_ringNow 43 = .ok (.iload_n 3, 1) := by decide +kernel
theorem dX8_ringNow_44 : decode cX8_ringNow 44 = .ok (.iaload, 1) := by decide +kernel
theorem dX8_ringNow_45 : decode cX8_ringNow 45 = .ok (.aload_n 0, 1) := by decide +kernel
theorem dX8_ringNow_46 : decode cX8_ringNow 46 = .ok (.iload_n 3, 1) := by decide +kernel
theorem dX8_ringNow_47 : decode cX8_ringNow 47 = .ok (.invokevirtual 290, 3) := by decide +kernel
theorem dX8_ringNow_50 : decode cX8_ringNow 50 = .ok (.iadd, 1) := by decide +kernel
theorem dX8_ringNow_51 : decode cX8_ringNow 51 = .ok (.invokestatic 304, 3) := by decide +kernel
theorem dX8_ringNow_54 : decode cX8_ringNow 54 = .ok (.iastore, 1) := by decide +kernel
theorem dX8_ringNow_55 : decode cX8_ringNow 55 = .ok (.iinc 3 1, 3) := by decide +kernel
theorem dX8_ringNow_58 : decode cX8_ringNow 58 = .ok (.goto (-41), 3) := by decide +kernel
theorem dX8_ringNow_61 : decode cX8_ringNow 61 = .ok (.aload_n 0, 1) := by decide +kernel
theorem dX8_ringNow_62 : decode cX8_ringNow 62 = .ok (.aload_n 0, 1) := by decide +kernel
theorem dX8_ringNow_63 : decode cX8_ringNow 63 = .ok (.getfield 239, 3) := by decide +kernel
theorem dX8_ringNow_66 : decode cX8_ringNow 66 = .ok (.iload_n 2, 1) := by decide +kernel
theorem dX8_ringNow_67 : decode cX8_ringNow 67 = .ok (.iadd, 1) := by decide +kernel
theorem dX8_ringNow_68 : decode cX8_ringNow 68 = .ok (.invokestatic 304, 3) := by decide +kernel
theorem dX8_ringNow_71 : decode cX8_ringNow 71 = .ok (.putfield 239, 3) := by decide +kernel
theorem dX8_ringNow_74 : decode cX8_ringNow 74 = .ok (.iload_n 2, 1) := by decide +kernel
theorem dX8_ringNow_75 : decode cX8_ringNow 75 = .ok (.ireturn, 1) := by decide +kernel
theorem dX8_ring_0 : decode cX8_ring 0 = .ok (.aload_n 0, 1) := by decide +kernel
theorem dX8_ring_1 : decode cX8_ring 1 = .ok (.iload_n 1, 1) := by decide +kernel
theorem dX8_ring_2 : decode cX8_ring 2 = .ok (.invokevirtual 251, 3) := by decide +kernel
theorem dX8_ring_5 : decode cX8_ring 5 = .ok (.ifCond .eq 11, 3) := by decide +kernel
theorem dX8_ring_8 : decode cX8_ring 8 = .ok (.aload_n 0, 1) := by decide +kernel
theorem dX8_ring_9 : decode cX8_ring 9 = .ok (.iload_n 1, 1) := by decide +kernel
theorem dX8_ring_10 : decode cX8_ring 10 = .ok (.invokevirtual 307, 3) := by decide +kernel
theorem dX8_ring_13 : decode cX8_ring 13 = .ok (.goto 5, 3) := by decide +kernel
theorem dX8_ring_16 : decode cX8_ring 16 = .ok (.ldc 255, 2) := by decide +kernel
theorem dX8_ring_18 : decode cX8_ring 18 = .ok (.ireturn, 1) := by decide +kernel
theorem dX8_day_0 : decode cX8_day 0 = .ok (.iload_n 1, 1) := by decide +kernel
theorem dX8_day_1 : decode cX8_day 1 = .ok (.i2l, 1) := by decide +kernel
theorem dX8_day_2 : decode cX8_day 2 = .ok (.lconst 1, 1) := by decide +kernel
theorem dX8_day_3 : decode cX8_day 3 = .ok (.ldc2_w 310, 3) := by decide +kernel
theorem dX8_day_6 : decode cX8_day 6 = .ok (.invokestatic 123, 3) := by decide +kernel
theorem dX8_day_9 : decode cX8_day 9 = .ok (.ifCond .ne 6, 3) := by decide +kernel
theorem dX8_day_12 : decode cX8_day 12 = .ok (.ldc 135, 2) := by decide +kernel
theorem dX8_day_14 : decode cX8_day 14 = .ok (.ireturn, 1) := by decide +kernel
theorem dX8_day_15 : decode cX8_day 15 = .ok (.aload_n 0, 1) := by decide +kernel
theorem dX8_day_16 : decode cX8_day 16 = .ok (.dup, 1) := by decide +kernel
theorem dX8_day_17 : decode cX8_day 17 = .ok (.getfield 236, 3) := by decide +kernel
theorem dX8_day_20 : decode cX8_day 20 = .ok (.iload_n 1, 1) := by decide +kernel
theorem dX8_day_21 : decode cX8_day 21 = .ok (.iadd, 1) := by decide +kernel
theorem dX8_day_22 : decode cX8_day 22 = .ok (.putfield 236, 3) := by decide +kernel
theorem dX8_day_25 : decode cX8_day 25 = .ok (.aload_n 0, 1) := by decide +kernel
theorem dX8_day_26 : decode cX8_day 26 = .ok (.getfield 236, 3) := by decide +kernel
theorem dX8_day_29 : decode cX8_day 29 = .ok (.ireturn, 1) := by decide +kernel
theorem dX8_draw_0 : decode cX8_draw 0 = .ok (.aload_n 0, 1) := by decide +kernel
theorem dX8_draw_1 : decode cX8_draw 1 = .ok (.aload_n 0, 1) := by decide +kernel
theorem dX8_draw_2 : decode cX8_draw 2 = .ok (.getfield 312, 3) := by decide +kernel
theorem dX8_draw_5 : decode cX8_draw 5 = .ok (.i2l, 1) := by decide +kernel
theorem dX8_draw_6 : decode cX8_draw 6 = .ok (.ldc2_w 315, 3) := by decide +kernel
theorem dX8_draw_9 : decode cX8_draw 9 = .ok (.lmul, 1) := by decide +kernel
theorem dX8_draw_10 : decode cX8_draw 10 = .ok (.ldc2_w 317, 3) := by decide +kernel
theorem dX8_draw_13 : decode cX8_draw 13 = .ok (.ladd, 1) := by decide +kernel
theorem dX8_draw_14 : decode cX8_draw 14 = .ok (.ldc2_w 319, 3) := by decide +kernel
theorem dX8_draw_17 : decode cX8_draw 17 = .ok (.lrem, 1) := by decide +kernel
theorem dX8_draw_18 : decode cX8_draw 18 = .ok (.l2i, 1) := by decide +kernel
theorem dX8_draw_19 : decode cX8_draw 19 = .ok (.putfield 312, 3) := by decide +kernel
theorem dX8_draw_22 : decode cX8_draw 22 = .ok (.aload_n 0, 1) := by decide +kernel
theorem dX8_draw_23 : decode cX8_draw 23 = .ok (.getfield 312, 3) := by decide +kernel
theorem dX8_draw_26 : decode cX8_draw 26 = .ok (.ldc_w 321, 3) := by decide +kernel
theorem dX8_draw_29 : decode cX8_draw 29 = .ok (.idiv, 1) := by decide +kernel
theorem dX8_draw_30 : decode cX8_draw 30 = .ok (.iload_n 1, 1) := by decide +kernel
theorem dX8_draw_31 : decode cX8_draw 31 = .ok (.irem, 1) := by decide +kernel
theorem dX8_draw_32 : decode cX8_draw 32 = .ok (.ireturn, 1) := by decide +kernel
theorem dX8_dayNow_0 : decode cX8_dayNow 0 = .ok (.iconst 0, 1) := by decide +kernel
theorem dX8_dayNow_1 : decode cX8_dayNow 1 = .ok (.istore_n 1, 1) := by decide +kernel
theorem dX8_dayNow_2 : decode cX8_dayNow 2 = .ok (.iconst 0, 1) := by decide +kernel
theorem dX8_dayNow_3 : decode cX8_dayNow 3 = .ok (.istore_n 2, 1) := by decide +kernel
theorem dX8_dayNow_4 : decode cX8_dayNow 4 = .ok (.iload_n 2, 1) := by decide +kernel
theorem dX8_dayNow_5 : decode cX8_dayNow 5 = .ok (.aload_n 0, 1) := by decide +kernel
theorem dX8_dayNow_6 : decode cX8_dayNow 6 = .ok (.getfield 120, 3) := by decide +kernel
theorem dX8_dayNow_9 : decode cX8_dayNow 9 = .ok (.if_icmp .ge 31, 3) := by decide +kernel
theorem dX8_dayNow_12 : decode cX8_dayNow 12 = .ok (.aload_n 0, 1) := by decide +kernel
theorem dX8_dayNow_13 : decode cX8_dayNow 13 = .ok (.iconst 4, 1) := by decide +kernel
theorem dX8_dayNow_14 : decode cX8_dayNow 14 = .ok (.invokevirtual 322, 3) := by decide +kernel
theorem dX8_dayNow_17 : decode cX8_dayNow 17 = .ok (.ifCond .ne 7, 3) := by decide +kernel
theorem dX8_dayNow_20 : decode cX8_dayNow 20 = .ok (.iconst 0, 1) := by decide +kernel
theorem dX8_dayNow_21 : decode cX8_dayNow 21 = .ok (.goto 8, 3) := by decide +kernel
theorem dX8_dayNow_24 : decode cX8_dayNow 24 = .ok (.aload_n 0, 1) := by decide +kernel
theorem dX8_dayNow_25 : decode cX8_dayNow 25 = .ok (.iload_n 2, 1) := by decide +kernel
theorem dX8_dayNow_26 : decode cX8_dayNow 26 = .ok (.invokevirtual 307, 3) := by decide +kernel
theorem dX8_dayNow_29 : decode cX8_dayNow 29 = .ok (.istore_n 3, 1) := by decide +kernel
theorem dX8_dayNow_30 : decode cX8_dayNow 30 = .ok (.iload_n 1, 1) := by decide +kernel
theorem dX8_dayNow_31 : decode cX8_dayNow 31 = .ok (.iload_n 3, 1) := by decide +kernel
theorem dX8_dayNow_32 : decode cX8_dayNow 32 = .ok (.iadd, 1) := by decide +kernel
theorem dX8_dayNow_33 : decode cX8_dayNow 33 = .ok (.istore_n 1, 1) := by decide +kernel
theorem dX8_dayNow_34 : decode cX8_dayNow 34 = .ok (.iinc 2 1, 3) := by decide +kernel
theorem dX8_dayNow_37 : decode cX8_dayNow 37 = .ok (.goto (-33), 3) := by decide +kernel
theorem dX8_dayNow_40 : decode cX8_dayNow 40 = .ok (.aload_n 0, 1) := by decide +kernel
theorem dX8_dayNow_41 : decode cX8_dayNow 41 = .ok (.dup, 1) := by decide +kernel
theorem dX8_dayNow_42 : decode cX8_dayNow 42 = .ok (.getfield 236, 3) := by decide +kernel
theorem dX8_dayNow_45 : decode cX8_dayNow 45 = .ok (.iconst 1, 1) := by decide +kernel
theorem dX8_dayNow_46 : decode cX8_dayNow 46 = .ok (.iadd, 1) := by decide +kernel
theorem dX8_dayNow_47 : decode cX8_dayNow 47 = .ok (.putfield 236, 3) := by decide +kernel
theorem dX8_dayNow_50 : decode cX8_dayNow 50 = .ok (.aload_n 0, 1) := by decide +kernel
theorem dX8_dayNow_51 : decode cX8_dayNow 51 = .ok (.aload_n 0, 1) := by decide +kernel
theorem dX8_dayNow_52 : decode cX8_dayNow 52 = .ok (.getfield 127, 3) := by decide +kernel
theorem dX8_dayNow_55 : decode cX8_dayNow 55 = .ok (.invokevirtual 322, 3) := by decide +kernel
theorem dX8_dayNow_58 : decode cX8_dayNow 58 = .ok (.istore_n 2, 1) := by decide +kernel
theorem dX8_dayNow_59 : decode cX8_dayNow 59 = .ok (.aload_n 0, 1) := by decide +kernel
theorem dX8_dayNow_60 : decode cX8_dayNow 60 = .ok (.aload_n 0, 1) := by decide +kernel
theorem dX8_dayNow_61 : decode cX8_dayNow 61 = .ok (.getfield 117, 3) := by decide +kernel
theorem dX8_dayNow_64 : decode cX8_dayNow 64 = .ok (.invokevirtual 322, 3) := by decide +kernel
theorem dX8_dayNow_67 : decode cX8_dayNow 67 = .ok (.istore_n 3, 1) := by decide +kernel
theorem dX8_dayNow_68 : decode cX8_dayNow 68 = .ok (.aload_n 0, 1) := by decide +kernel
theorem dX8_dayNow_69 : decode cX8_dayNow 69 = .ok (.getfield 38, 3) := by decide +kernel
theorem dX8_dayNow_72 : decode cX8_dayNow 72 = .ok (.iload_n 2, 1) := by decide +kernel
theorem dX8_dayNow_73 : decode cX8_dayNow 73 = .ok (.aload_n 0, 1) := by decide +kernel
theorem dX8_dayNow_74 : decode cX8_dayNow 74 = .ok (.iload_n 3, 1) := by decide +kernel
theorem dX8_dayNow_75 : decode cX8_dayNow 75 = .ok (.aload_n 0, 1) := by decide +kernel
theorem dX8_dayNow_76 : decode cX8_dayNow 76 = .ok (.getfield 127, 3) := by decide +kernel
theorem dX8_dayNow_79 : decode cX8_dayNow 79 = .ok (.invokevirtual 264, 3) := by decide +kernel
theorem dX8_dayNow_82 : decode cX8_dayNow 82 = .ok (.ifCond .ge 7, 3) := by decide +kernel
theorem dX8_dayNow_85 : decode cX8_dayNow 85 = .ok (.iload_n 3, 1) := by decide +kernel
theorem dX8_dayNow_86 : decode cX8_dayNow 86 = .ok (.goto 9, 3) := by decide +kernel
theorem dX8_dayNow_89 : decode cX8_dayNow 89 = .ok (.aload_n 0, 1) := by decide +kernel
theorem dX8_dayNow_90 : decode cX8_dayNow 90 = .ok (.getfield 38, 3) := by decide +kernel
theorem dX8_dayNow_93 : decode cX8_dayNow 93 = .ok (.iload_n 2, 1) := by decide +kernel
theorem dX8_dayNow_94 : decode cX8_dayNow 94 = .ok (.iaload, 1) := by decide +kernel
theorem dX8_dayNow_95 : decode cX8_dayNow 95 = .ok (.iastore, 1) := by decide +kernel
theorem dX8_dayNow_96 : decode cX8_dayNow 96 = .ok (.iload_n 1, 1) := by decide +kernel
theorem dX8_dayNow_97 : decode cX8_dayNow 97 = .ok (.ireturn, 1) := by decide +kernel
theorem dX8_drift_0 : decode cX8_drift 0 = .ok (.iload_n 1, 1) := by decide +kernel
theorem dX8_drift_1 : decode cX8_drift 1 = .ok (.i2l, 1) := by decide +kernel
theorem dX8_drift_2 : decode cX8_drift 2 = .ok (.lconst 1, 1) := by decide +kernel
theorem dX8_drift_3 : decode cX8_drift 3 = .ok (.ldc2_w 310, 3) := by decide +kernel
theorem dX8_drift_6 : decode cX8_drift 6 = .ok (.invokestatic 123, 3) := by decide +kernel
theorem dX8_drift_9 : decode cX8_drift 9 = .ok (.ifCond .ne 6, 3) := by decide +kernel
theorem dX8_drift_12 : decode cX8_drift 12 = .ok (.ldc 135, 2) := by decide +kernel
theorem dX8_drift_14 : decode cX8_drift 14 = .ok (.ireturn, 1) := by decide +kernel
theorem dX8_drift_15 : decode cX8_drift 15 = .ok (.aload_n 0, 1) := by decide +kernel
theorem dX8_drift_16 : decode cX8_drift 16 = .ok (.getfield 127, 3) := by decide +kernel
theorem dX8_drift_19 : decode cX8_drift 19 = .ok (.ifCond .eq 10, 3) := by decide +kernel
theorem dX8_drift_22 : decode cX8_drift 22 = .ok (.aload_n 0, 1) := by decide +kernel
theorem dX8_drift_23 : decode cX8_drift 23 = .ok (.getfield 117, 3) := by decide +kernel
theorem dX8_drift_26 : decode cX8_drift 26 = .ok (.ifCond .ne 7, 3) := by decide +kernel
theorem dX8_drift_29 : decode cX8_drift 29 = .ok (.ldc_w 300, 3) := by decide +kernel
theorem dX8_drift_32 : decode cX8_drift 32 = .ok (.ireturn, 1) := by decide +kernel
theorem dX8_drift_33 : decode cX8_drift 33 = .ok (.iconst 0, 1) := by decide +kernel
theorem dX8_drift_34 : decode cX8_drift 34 = .ok (.istore_n 2, 1) := by decide +kernel
theorem dX8_drift_35 : decode cX8_drift 35 = .ok (.iconst 0, 1) := by decide +kernel
theorem dX8_drift_36 : decode cX8_drift 36 = .ok (.istore_n 3, 1) := by decide +kernel
theorem dX8_drift_37 : decode cX8_drift 37 = .ok (.iload_n 3, 1) := by decide +kernel
theorem dX8_drift_38 : decode cX8_drift 38 = .ok (.iload_n 1, 1) := by decide +kernel
theorem dX8_drift_39 : decode cX8_drift 39 = .ok (.if_icmp .ge 20, 3) := by decide +kernel
theorem dX8_drift_42 : decode cX8_drift 42 = .ok (.aload_n 0, 1) := by decide +kernel
theorem dX8_drift_43 : decode cX8_drift 43 = .ok (.invokevirtual 325, 3) := by decide +kernel
theorem dX8_drift_46 : decode cX8_drift 46 = .ok (.istore 4, 2) := by decide +kernel
theorem dX8_drift_48 : decode cX8_drift 48 = .ok (.iload_n 2, 1) := by decide +kernel
theorem dX8_drift_49 : decode cX8_drift 49 = .ok (.iload 4, 2) := by decide +kernel
theorem dX8_drift_51 : decode cX8_drift 51 = .ok (.iadd, 1) := by decide +kernel
theorem dX8_drift_52 : decode cX8_drift 52 = .ok (.istore_n 2, 1) := by decide +kernel
theorem dX8_drift_53 : decode cX8_drift 53 = .ok (.iinc 3 1, 3) := by decide +kernel
theorem dX8_drift_56 : decode cX8_drift 56 = .ok (.goto (-19), 3) := by decide +kernel
theorem dX8_drift_59 : decode cX8_drift 59 = .ok (.iload_n 2, 1) := by decide +kernel
theorem dX8_drift_60 : decode cX8_drift 60 = .ok (.ireturn, 1) := by decide +kernel
theorem dX8_saveAll_0 : decode cX8_saveAll 0 = .ok (.iconst 0, 1) := by decide +kernel
theorem dX8_saveAll_1 : decode cX8_saveAll 1 = .ok (.istore_n 1, 1) := by decide +kernel
theorem dX8_saveAll_2 : decode cX8_saveAll 2 = .ok (.iload_n 1, 1) := by decide +kernel
theorem dX8_saveAll_3 : decode cX8_saveAll 3 = .ok (.aload_n 0, 1) := by decide +kernel
theorem dX8_saveAll_4 : decode cX8_saveAll 4 = .ok (.getfield 127, 3) := by decide +kernel
theorem dX8_saveAll_7 : decode cX8_saveAll 7 = .ok (.if_icmp .ge 33, 3) := by decide +kernel
theorem dX8_saveAll_10 : decode cX8_saveAll 10 = .ok (.aload_n 0, 1) := by decide +kernel
theorem dX8_saveAll_11 : decode cX8_saveAll 11 = .ok (.getfield 83, 3) := by decide +kernel
theorem dX8_saveAll_14 : decode cX8_saveAll 14 = .ok (.iload_n 1, 1) := by decide +kernel
theorem dX8_saveAll_15 : decode cX8_saveAll 15 = .ok (.aload_n 0, 1) := by decide +kernel
theorem dX8_saveAll_16 : decode cX8_saveAll 16 = .ok (.getfield 38, 3) := by decide +kernel
theorem dX8_saveAll_19 : decode cX8_saveAll 19 = .ok (.iload_n 1, 1) := by decide +kernel
theorem dX8_saveAll_20 : decode cX8_saveAll 20 = .ok (.iaload, 1) := by decide +kernel
theorem dX8_saveAll_21 : decode cX8_saveAll 21 = .ok (.iastore, 1) := by decide +kernel
theorem dX8_saveAll_22 : decode cX8_saveAll 22 = .ok (.aload_n 0, 1) := by decide +kernel
theorem dX8_saveAll_23 : decode cX8_saveAll 23 = .ok (.getfield 86, 3) := by decide +kernel
theorem dX8_saveAll_26 : decode cX8_saveAll 26 = .ok (.iload_n 1, 1) := by decide +kernel
theorem dX8_saveAll_27 : decode cX8_saveAll 27 = .ok (.aload_n 0, 1) := by decide +kernel
theorem dX8_saveAll_28 : decode cX8_saveAll 28 = .ok (.getfield 41, 3) := by decide +kernel
theorem dX8_saveAll_31 : decode cX8_saveAll 31 = .ok (.iload_n 1, 1) := by decide +kernel
theorem dX8_saveAll_32 : decode cX8_saveAll 32 = .ok (.iaload, 1) := by decide +kernel
theorem dX8_saveAll_33 : decode cX8_saveAll 33 = .ok (.iastore, 1) := by decide +kernel
theorem dX8_saveAll_34 : decode cX8_saveAll 34 = .ok (.iinc 1 1, 3) := by decide +kernel
theorem dX8_saveAll_37 : decode cX8_saveAll 37 = .ok (.goto (-35), 3) := by decide +kernel
theorem dX8_saveAll_40 : decode cX8_saveAll 40 = .ok (.return_, 1) := by decide +kernel
theorem dX8_putBack_0 : decode cX8_putBack 0 = .ok (.iconst 0, 1) := by decide +kernel
theorem dX8_putBack_1 : decode cX8_putBack 1 = .ok (.istore_n 1, 1) := by decide +kernel
theorem dX8_putBack_2 : decode cX8_putBack 2 = .ok (.iload_n 1, 1) := by decide +kernel
theorem dX8_putBack_3 : decode cX8_putBack 3 = .ok (.aload_n 0, 1) := by decide +kernel
theorem dX8_putBack_4 : decode cX8_putBack 4 = .ok (.getfield 127, 3) := by decide +kernel
theorem dX8_putBack_7 : decode cX8_putBack 7 = .ok (.if_icmp .ge 33, 3) := by decide +kernel
theorem dX8_putBack_10 : decode cX8_putBack 10 = .ok (.aload_n 0, 1) := by decide +kernel
theorem dX8_putBack_11 : decode cX8_putBack 11 = .ok (.getfield 38, 3) := by decide +kernel
theorem dX8_putBack_14 : decode cX8_putBack 14 = .ok (.iload_n 1, 1) := by decide +kernel
theorem dX8_putBack_15 : decode cX8_putBack 15 = .ok (.aload_n 0, 1) := by decide +kernel
theorem dX8_putBack_16 : decode cX8_putBack 16 = .ok (.getfield 83, 3) := by decide +kernel
theorem dX8_putBack_19 : decode cX8_putBack 19 = .ok (.iload_n 1, 1) := by decide +kernel
theorem dX8_putBack_20 : decode cX8_putBack 20 = .ok (.iaload, 1) := by decide +kernel
theorem dX8_putBack_21 : decode cX8_putBack 21 = .ok (.iastore, 1) := by decide +kernel
theorem dX8_putBack_22 : decode cX8_putBack 22 = .ok (.aload_n 0, 1) := by decide +kernel
theorem dX8_putBack_23 : decode cX8_putBack 23 = .ok (.getfield 41, 3) := by decide +kernel
theorem dX8_putBack_26 : decode cX8_putBack 26 = .ok (.iload_n 1, 1) := by decide +kernel
theorem dX8_putBack_27 : decode cX8_putBack 27 = .ok (.aload_n 0, 1) := by decide +kernel
theorem dX8_putBack_28 : decode cX8_putBack 28 = .ok (.getfield 86, 3) := by decide +kernel
theorem dX8_putBack_31 : decode cX8_putBack 31 = .ok (.iload_n 1, 1) := by decide +kernel
theorem dX8_putBack_32 : decode cX8_putBack 32 = .ok (.iaload, 1) := by decide +kernel
theorem dX8_putBack_33 : decode cX8_putBack 33 = .ok (.iastore, 1) := by decide +kernel
theorem dX8_putBack_34 : decode cX8_putBack 34 = .ok (.iinc 1 1, 3) := by decide +kernel
theorem dX8_putBack_37 : decode cX8_putBack 37 = .ok (.goto (-35), 3) := by decide +kernel
theorem dX8_putBack_40 : decode cX8_putBack 40 = .ok (.return_, 1) := by decide +kernel
theorem dX8_standBy_0 : decode cX8_standBy 0 = .ok (.iload_n 1, 1) := by decide +kernel
theorem dX8_standBy_1 : decode cX8_standBy 1 = .ok (.istore_n 3, 1) := by decide +kernel
theorem dX8_standBy_2 : decode cX8_standBy 2 = .ok (.iconst 0, 1) := by decide +kernel
theorem dX8_standBy_3 : decode cX8_standBy 3 = .ok (.istore 4, 2) := by decide +kernel
theorem dX8_standBy_5 : decode cX8_standBy 5 = .ok (.iconst 1, 1) := by decide +kernel
theorem dX8_standBy_6 : decode cX8_standBy 6 = .ok (.istore 5, 2) := by decide +kernel
theorem dX8_standBy_8 : decode cX8_standBy 8 = .ok (.iconst 0, 1) := by decide +kernel
theorem dX8_standBy_9 : decode cX8_standBy 9 = .ok (.istore 6, 2) := by decide +kernel
theorem dX8_standBy_11 : decode cX8_standBy 11 = .ok (.iload 6, 2) := by decide +kernel
theorem dX8_standBy_13 : decode cX8_standBy 13 = .ok (.aload_n 0, 1) := by decide +kernel
theorem dX8_standBy_14 : decode cX8_standBy 14 = .ok (.getfield 127, 3) := by decide +kernel
theorem dX8_standBy_17 : decode cX8_standBy 17 = .ok (.if_icmp .ge 17, 3) := by decide +kernel
theorem dX8_standBy_20 : decode cX8_standBy 20 = .ok (.aload_n 0, 1) := by decide +kernel
theorem dX8_standBy_21 : decode cX8_standBy 21 = .ok (.getfield 38, 3) := by decide +kernel
theorem dX8_standBy_24 : decode cX8_standBy 24 = .ok (.iload 6, 2) := by decide +kernel
theorem dX8_standBy_26 : decode cX8_standBy 26 = .ok (.iconst (-1), 1) := by decide +kernel
theorem dX8_standBy_27 : decode cX8_standBy 27 = .ok (.iastore, 1) := by decide +kernel
theorem dX8_standBy_28 : decode cX8_standBy 28 = .ok (.iinc 6 1, 3) := by decide +kernel
theorem dX8_standBy_31 : decode cX8_standBy 31 = .ok (.goto (-20), 3) := by decide +kernel
theorem dX8_standBy_34 : decode cX8_standBy 34 = .ok (.aload_n 0, 1) := by decide +kernel
theorem dX8_standBy_35 : decode cX8_standBy 35 = .ok (.getfield 117, 3) := by decide +kernel
theorem dX8_standBy_38 : decode cX8_standBy 38 = .ok (.iconst 1, 1) := by decide +kernel
theorem dX8_standBy_39 : decode cX8_standBy 39 = .ok (.isub, 1) := by decide +kernel
theorem dX8_standBy_40 : decode cX8_standBy 40 = .ok (.istore 6, 2) := by decide +kernel
theorem dX8_standBy_42 : decode cX8_standBy 42 = .ok (.iload 6, 2) := by decide +kernel
theorem dX8_standBy_44 : decode cX8_standBy 44 = .ok (.ifCond .lt 71, 3) := by decide +kernel
theorem dX8_standBy_47 : decode cX8_standBy 47 = .ok (.iload_n 3, 1) := by decide +kernel
theorem dX8_standBy_48 : decode cX8_standBy 48 = .ok (.aload_n 0, 1) := by decide +kernel
theorem dX8_standBy_49 : decode cX8_standBy 49 = .ok (.getfield 127, 3) := by decide +kernel
theorem dX8_standBy_52 : decode cX8_standBy 52 = .ok (.iconst 1, 1) := by decide +kernel
theorem dX8_standBy_53 : decode cX8_standBy 53 = .ok (.iadd, 1) := by decide +kernel
theorem dX8_standBy_54 : decode cX8_standBy 54 = .ok (.irem, 1) := by decide +kernel
theorem dX8_standBy_55 : decode cX8_standBy 55 = .ok (.istore 7, 2) := by decide +kernel
theorem dX8_standBy_57 : decode cX8_standBy 57 = .ok (.iload_n 3, 1) := by decide +kernel
theorem dX8_standBy_58 : decode cX8_standBy 58 = .ok (.aload_n 0, 1) := by decide +kernel
theorem dX8_standBy_59 : decode cX8_standBy 59 = .ok (.getfield 127, 3) := by decide +kernel
theorem dX8_standBy_62 : decode cX8_standBy 62 = .ok (.iconst 1, 1) := by decide +kernel
theorem dX8_standBy_63 : decode cX8_standBy 63 = .ok (.iadd, 1) := by decide +kernel
theorem dX8_standBy_64 : decode cX8_standBy 64 = .ok (.idiv, 1) := by decide +kernel
theorem dX8_standBy_65 : decode cX8_standBy 65 = .ok (.istore_n 3, 1) := by decide +kernel
theorem dX8_standBy_66 : decode cX8_standBy 66 = .ok (.iload 7, 2) := by decide +kernel
theorem dX8_standBy_68 : decode cX8_standBy 68 = .ok (.aload_n 0, 1) := by decide +kernel
theorem dX8_standBy_69 : decode cX8_standBy 69 = .ok (.getfield 127, 3) := by decide +kernel
theorem dX8_standBy_72 : decode cX8_standBy 72 = .ok (.if_icmp .ge 37, 3) := by decide +kernel
theorem dX8_standBy_75 : decode cX8_standBy 75 = .ok (.iload 5, 2) := by decide +kernel
theorem dX8_standBy_77 : decode cX8_standBy 77 = .ok (.ifCond .eq 17, 3) := by decide +kernel
theorem dX8_standBy_80 : decode cX8_standBy 80 = .ok (.aload_n 0, 1) := by decide +kernel
theorem dX8_standBy_81 : decode cX8_standBy 81 = .ok (.getfield 38, 3) := by decide +kernel
theorem dX8_standBy_84 : decode cX8_standBy 84 = .ok (.iload 7, 2) := by decide +kernel
theorem dX8_standBy_86 : decode cX8_standBy 86 = .ok (.iaload, 1) := by decide +kernel
theorem dX8_standBy_87 : decode cX8_standBy 87 = .ok (.ifCond .ge 7, 3) := by decide +kernel
theorem dX8_standBy_90 : decode cX8_standBy 90 = .ok (.iconst 1, 1) := by decide +kernel
theorem dX8_standBy_91 : decode cX8_standBy 91 = .ok (.goto 4, 3) := by decide +kernel
theorem dX8_standBy_94 : decode cX8_standBy 94 = .ok (.iconst 0, 1) := by decide +kernel
theorem dX8_standBy_95 : decode cX8_standBy 95 = .ok (.istore 5, 2) := by decide +kernel
theorem dX8_standBy_97 : decode cX8_standBy 97 = .ok (.aload_n 0, 1) := by decide +kernel
theorem dX8_standBy_98 : decode cX8_standBy 98 = .ok (.getfield 38, 3) := by decide +kernel
theorem dX8_standBy_101 : decode cX8_standBy 101 = .ok (.iload 7, 2) := by decide +kernel
theorem dX8_standBy_103 : decode cX8_standBy 103 = .ok (.iload 6, 2) := by decide +kernel
theorem dX8_standBy_105 : decode cX8_standBy 105 = .ok (.iastore, 1) := by decide +kernel
theorem dX8_standBy_106 : decode cX8_standBy 106 = .ok (.iinc 4 1, 3) := by decide +kernel
theorem dX8_standBy_109 : decode cX8_standBy 109 = .ok (.iinc 6 (-1), 3) := by decide +kernel
theorem dX8_standBy_112 : decode cX8_standBy 112 = .ok (.goto (-70), 3) := by decide +kernel
theorem dX8_standBy_115 : decode cX8_standBy 115 = .ok (.iload 5, 2) := by decide +kernel
theorem dX8_standBy_117 : decode cX8_standBy 117 = .ok (.ifCond .eq 13, 3) := by decide +kernel
theorem dX8_standBy_120 : decode cX8_standBy 120 = .ok (.iload 4, 2) := by decide +kernel
theorem dX8_standBy_122 : decode cX8_standBy 122 = .ok (.iload_n 2, 1) := by decide +kernel
theorem dX8_standBy_123 : decode cX8_standBy 123 = .ok (.if_icmp .ne 7, 3) := by decide +kernel
theorem dX8_standBy_126 : decode cX8_standBy 126 = .ok (.iconst 1, 1) := by decide +kernel
theorem dX8_standBy_127 : decode cX8_standBy 127 = .ok (.goto 4, 3) := by decide +kernel
theorem dX8_standBy_130 : decode cX8_standBy 130 = .ok (.iconst 0, 1) := by decide +kernel
theorem dX8_standBy_131 : decode cX8_standBy 131 = .ok (.ireturn, 1) := by decide +kernel
theorem dX8_findStanding_0 : decode cX8_findStanding 0 = .ok (.iconst 1, 1) := by decide +kernel
theorem dX8_findStanding_1 : decode cX8_findStanding 1 = .ok (.istore_n 3, 1) := by decide +kernel
theorem dX8_findStanding_2 : decode cX8_findStanding 2 = .ok (.iconst 0, 1) := by decide +kernel
theorem dX8_findStanding_3 : decode cX8_findStanding 3 = .ok (.istore 4, 2) := by decide +kernel
theorem dX8_findStanding_5 : decode cX8_findStanding 5 = .ok (.iload 4, 2) := by decide +kernel
theorem dX8_findStanding_7 : decode cX8_findStanding 7 = .ok (.aload_n 0, 1) := by decide +kernel
theorem dX8_findStanding_8 : decode cX8_findStanding 8 = .ok (.getfield 117, 3) := by decide +kernel
theorem dX8_findStanding_11 : decode cX8_findStanding 11 = .ok (.if_icmp .ge 18, 3) := by decide +kernel
theorem dX8_findStanding_14 : decode cX8_findStanding 14 = .ok (.iload_n 3, 1) := by decide +kernel
theorem dX8_findStanding_15 : decode cX8_findStanding 15 = .ok (.aload_n 0, 1) := by decide +kernel
theorem dX8_findStanding_16 : decode cX8_findStanding 16 = .ok (.getfield 127, 3) := by decide +kernel
theorem dX8_findStanding_19 : decode cX8_findStanding 19 = .ok (.iconst 1, 1) := by decide +kernel
theorem dX8_findStanding_20 : decode cX8_findStanding 20 = .ok (.iadd, 1) := by decide +kernel
theorem dX8_findStanding_21 : decode cX8_findStanding 21 = .ok (.imul, 1) := by decide +kernel
theorem dX8_findStanding_22 : decode cX8_findStanding 22 = .ok (.istore_n 3, 1) := by decide +kernel
theorem dX8_findStanding_23 : decode cX8_findStanding 23 = .ok (.iinc 4 1, 3) := by decide +kernel
theorem dX8_findStanding_26 : decode cX8_findStanding 26 = .ok (.goto (-21), 3) := by decide +kernel
theorem dX8_findStanding_29 : decode cX8_findStanding 29 = .ok (.aload_n 0, 1) := by decide +kernel
theorem dX8_findStanding_30 : decode cX8_findStanding 30 = .ok (.getfield 117, 3) := by decide +kernel
theorem dX8_findStanding_33 : decode cX8_findStanding 33 = .ok (.aload_n 0, 1) := by decide +kernel
theorem dX8_findStanding_34 : decode cX8_findStanding 34 = .ok (.getfield 127, 3) := by decide +kernel
theorem dX8_findStanding_37 : decode cX8_findStanding 37 = .ok (.if_icmp .ge 10, 3) := by decide +kernel
theorem dX8_findStanding_40 : decode cX8_findStanding 40 = .ok (.aload_n 0, 1) := by decide +kernel
theorem dX8_findStanding_41 : decode cX8_findStanding 41 = .ok (.getfield 117, 3) := by decide +kernel
theorem dX8_findStanding_44 : decode cX8_findStanding 44 = .ok (.goto 7, 3) := by decide +kernel
theorem dX8_findStanding_47 : decode cX8_findStanding 47 = .ok (.aload_n 0, 1) := by decide +kernel
theorem dX8_findStanding_48 : decode cX8_findStanding 48 = .ok (.getfield 127, 3) := by decide +kernel
theorem dX8_findStanding_51 : decode cX8_findStanding 51 = .ok (.istore 4, 2) := by decide +kernel
theorem dX8_findStanding_53 : decode cX8_findStanding 53 = .ok (.aload_n 0, 1) := by decide +kernel
theorem dX8_findStanding_54 : decode cX8_findStanding 54 = .ok (.ldc_w 328, 3) := by decide +kernel
theorem dX8_findStanding_57 : decode cX8_findStanding 57 = .ok (.putfield 329, 3) := by decide +kernel
theorem dX8_findStanding_60 : decode cX8_findStanding 60 = .ok (.iconst 0, 1) := by decide +kernel
theorem dX8_findStanding_61 : decode cX8_findStanding 61 = .ok (.istore 5, 2) := by decide +kernel
theorem dX8_findStanding_63 : decode cX8_findStanding 63 = .ok (.iload 5, 2) := by decide +kernel
theorem dX8_findStanding_65 : decode cX8_findStanding 65 = .ok (.iload_n 3, 1) := by decide +kernel
theorem dX8_findStanding_66 : decode cX8_findStanding 66 = .ok (.if_icmp .ge 106, 3) := by decide +kernel
theorem dX8_findStanding_69 : decode cX8_findStanding 69 = .ok (.aload_n 0, 1) := by decide +kernel
theorem dX8_findStanding_70 : decode cX8_findStanding 70 = .ok (.iload 5, 2) := by decide +kernel
theorem dX8_findStanding_72 : decode cX8_findStanding 72 = .ok (.iload 4, 2) := by decide +kernel
theorem dX8_findStanding_74 : decode cX8_findStanding 74 = .ok (.invokevirtual 332, 3) := by decide +kernel
theorem dX8_findStanding_77 : decode cX8_findStanding 77 = .ok (.ifCond .eq 89, 3) := by decide +kernel
theorem dX8_findStanding_80 : decode cX8_findStanding 80 = .ok (.aload_n 0, 1) := by decide +kernel
theorem dX8_findStanding_81 : decode cX8_findStanding 81 = .ok (.aload_n 0, 1) := by decide +kernel
theorem dX8_findStanding_82 : decode cX8_findStanding 82 = .ok (.getfield 127, 3) := by decide +kernel
theorem dX8_findStanding_85 : decode cX8_findStanding 85 = .ok (.aload_n 0, 1) := by decide +kernel
theorem dX8_findStanding_86 : decode cX8_findStanding 86 = .ok (.iload_n 1, 1) := by decide +kernel
theorem dX8_findStanding_87 : decode cX8_findStanding 87 = .ok (.invokevirtual 293, 3) := by decide +kernel
theorem dX8_findStanding_90 : decode cX8_findStanding 90 = .ok (.invokevirtual 296, 3) := by decide +kernel
theorem dX8_findStanding_93 : decode cX8_findStanding 93 = .ok (.iload_n 2, 1) := by decide +kernel
theorem dX8_findStanding_94 : decode cX8_findStanding 94 = .ok (.iconst (-1), 1) := by decide +kernel
theorem dX8_findStanding_95 : decode cX8_findStanding 95 = .ok (.if_icmp .ne 14, 3) := by decide +kernel
theorem dX8_findStanding_98 : decode cX8_findStanding 98 = .ok (.aload_n 0, 1) := by decide +kernel
theorem dX8_findStanding_99 : decode cX8_findStanding 99 = .ok (.aload_n 0, 1) := by decide +kernel
theorem dX8_findStanding_100 : decode cX8_findStanding 100 = .ok (.getfield 127, 3) := by decide +kernel
theorem dX8_findStanding_103 : decode cX8_findStanding 103 = .ok (.invokevirtual 336, 3) := by decide +kernel
theorem dX8_findStanding_106 : decode cX8_findStanding 106 = .ok (.goto 8, 3) := by decide +kernel
theorem dX8_findStanding_109 : decode cX8_findStanding 109 = .ok (.aload_n 0, 1) := by decide +kernel
theorem dX8_findStanding_110 : decode cX8_findStanding 110 = .ok (.iload_n 2, 1) := by decide +kernel
theorem dX8_findStanding_111 : decode cX8_findStanding 111 = .ok (.invokevirtual 290, 3) := by decide +kernel
theorem dX8_findStanding_114 : decode cX8_findStanding 114 = .ok (.istore 6, 2) := by decide +kernel
theorem dX8_findStanding_116 : decode cX8_findStanding 116 = .ok (.iload 6, 2) := by decide +kernel
theorem dX8_findStanding_118 : decode cX8_findStanding 118 = .ok (.aload_n 0, 1) := by decide +kernel
theorem dX8_findStanding_119 : decode cX8_findStanding 119 = .ok (.getfield 329, 3) := by decide +kernel
theorem dX8_findStanding_122 : decode cX8_findStanding 122 = .ok (.if_icmp .le 44, 3) := by decide +kernel
theorem dX8_findStanding_125 : decode cX8_findStanding 125 = .ok (.aload_n 0, 1) := by decide +kernel
theorem dX8_findStanding_126 : decode cX8_findStanding 126 = .ok (.iload 6, 2) := by decide +kernel
theorem dX8_findStanding_128 : decode cX8_findStanding 128 = .ok (.putfield 329, 3) := by decide +kernel
theorem dX8_findStanding_131 : decode cX8_findStanding 131 = .ok (.iconst 0, 1) := by decide +kernel
theorem dX8_findStanding_132 : decode cX8_findStanding 132 = .ok (.istore 7, 2) := by decide +kernel
theorem dX8_findStanding_134 : decode cX8_findStanding 134 = .ok (.iload 7, 2) := by decide +kernel
theorem dX8_findStanding_136 : decode cX8_findStanding 136 = .ok (.aload_n 0, 1) := by decide +kernel
theorem dX8_findStanding_137 : decode cX8_findStanding 137 = .ok (.getfield 117, 3) := by decide +kernel
theorem dX8_findStanding_140 : decode cX8_findStanding 140 = .ok (.if_icmp .ge 26, 3) := by decide +kernel
theorem dX8_findStanding_143 : decode cX8_findStanding 143 = .ok (.aload_n 0, 1) := by decide +kernel
theorem dX8_findStanding_144 : decode cX8_findStanding 144 = .ok (.getfield 89, 3) := by decide +kernel
theorem dX8_findStanding_147 : decode cX8_findStanding 147 = .ok (.iload 7, 2) := by decide +kernel
theorem dX8_findStanding_149 : decode cX8_findStanding 149 = .ok (.aload_n 0, 1) := by decide +kernel
theorem dX8_findStanding_150 : decode cX8_findStanding 150 = .ok (.iload 7, 2) := by decide +kernel
theorem dX8_findStanding_152 : decode cX8_findStanding 152 = .ok (.aload_n 0, 1) := by decide +kernel
theorem dX8_findStanding_153 : decode cX8_findStanding 153 = .ok (.getfield 127, 3) := by decide +kernel
theorem dX8_findStanding_156 : decode cX8_findStanding 156 = .ok (.invokevirtual 264, 3) := by decide +kernel
theorem dX8_findStanding_159 : decode cX8_findStanding 159 = .ok (.iastore, 1) := by decide +kernel
theorem dX8_findStanding_160 : decode cX8_findStanding 160 = .ok (.iinc 7 1, 3) := by decide +kernel
theorem dX8_findStanding_163 : decode cX8_findStanding 163 = .ok (.goto (-29), 3) := by decide +kernel
theorem dX8_findStanding_166 : decode cX8_findStanding 166 = .ok (.iinc 5 1, 3) := by decide +kernel
theorem dX8_findStanding_169 : decode cX8_findStanding 169 = .ok (.goto (-106), 3) := by decide +kernel
theorem dX8_findStanding_172 : decode cX8_findStanding 172 = .ok (.return_, 1) := by decide +kernel
theorem dX8_standing_0 : decode cX8_standing 0 = .ok (.aload_n 0, 1) := by decide +kernel
theorem dX8_standing_1 : decode cX8_standing 1 = .ok (.iload_n 1, 1) := by decide +kernel
theorem dX8_standing_2 : decode cX8_standing 2 = .ok (.invokevirtual 251, 3) := by decide +kernel
theorem dX8_standing_5 : decode cX8_standing 5 = .ok (.ifCond .eq 29, 3) := by decide +kernel
theorem dX8_standing_8 : decode cX8_standing 8 = .ok (.iload_n 2, 1) := by decide +kernel
theorem dX8_standing_9 : decode cX8_standing 9 = .ok (.iconst (-1), 1) := by decide +kernel
theorem dX8_standing_10 : decode cX8_standing 10 = .ok (.if_icmp .eq 11, 3) := by decide +kernel
theorem dX8_standing_13 : decode cX8_standing 13 = .ok (.aload_n 0, 1) := by decide +kernel
theorem dX8_standing_14 : decode cX8_standing 14 = .ok (.iload_n 2, 1) := by decide +kernel
theorem dX8_standing_15 : decode cX8_standing 15 = .ok (.invokevirtual 267, 3) := by decide +kernel
theorem dX8_standing_18 : decode cX8_standing 18 = .ok (.ifCond .eq 16, 3) := by decide +kernel
theorem dX8_standing_21 : decode cX8_standing 21 = .ok (.iload_n 3, 1) := by decide +kernel
theorem dX8_standing_22 : decode cX8_standing 22 = .ok (.iconst (-1), 1) := by decide +kernel
theorem dX8_standing_23 : decode cX8_standing 23 = .ok (.if_icmp .eq 14, 3) := by decide +kernel
theorem dX8_standing_26 : decode cX8_standing 26 = .ok (.aload_n 0, 1) := by decide +kernel
theorem dX8_standing_27 : decode cX8_standing 27 = .ok (.iload_n 3, 1) := by decide +kernel
theorem dX8_standing_28 : decode cX8_standing 28 = .ok (.invokevirtual 261, 3) := by decide +kernel
theorem dX8_standing_31 : decode cX8_standing 31 = .ok (.ifCond .ne 6, 3) := by decide +kernel
theorem dX8_standing_34 : decode cX8_standing 34 = .ok (.ldc 255, 2) := by decide +kernel
theorem dX8_standing_36 : decode cX8_standing 36 = .ok (.ireturn, 1) := by decide +kernel
theorem dX8_standing_37 : decode cX8_standing 37 = .ok (.aload_n 0, 1) := by decide +kernel
theorem dX8_standing_38 : decode cX8_standing 38 = .ok (.invokevirtual 339, 3) := by decide +kernel
theorem dX8_standing_41 : decode cX8_standing 41 = .ok (.aload_n 0, 1) := by decide +kernel
theorem dX8_standing_42 : decode cX8_standing 42 = .ok (.iload_n 1, 1) := by decide +kernel
theorem dX8_standing_43 : decode cX8_standing 43 = .ok (.iload_n 2, 1) := by decide +kernel
theorem dX8_standing_44 : decode cX8_standing 44 = .ok (.invokevirtual 342, 3) := by decide +kernel
theorem dX8_standing_47 : decode cX8_standing 47 = .ok (.aload_n 0, 1) := by decide +kernel
theorem dX8_standing_48 : decode cX8_standing 48 = .ok (.invokevirtual 345, 3) := by decide +kernel
theorem dX8_standing_51 : decode cX8_standing 51 = .ok (.iload_n 3, 1) := by decide +kernel
theorem dX8_standing_52 : decode cX8_standing 52 = .ok (.iconst (-1), 1) := by decide +kernel
theorem dX8_standing_53 : decode cX8_standing 53 = .ok (.if_icmp .ne 10, 3) := by decide +kernel
theorem dX8_standing_56 : decode cX8_standing 56 = .ok (.aload_n 0, 1) := by decide +kernel
theorem dX8_standing_57 : decode cX8_standing 57 = .ok (.getfield 329, 3) := by decide +kernel
theorem dX8_standing_60 : decode cX8_standing 60 = .ok (.goto 9, 3) := by decide +kernel
theorem dX8_standing_63 : decode cX8_standing 63 = .ok (.aload_n 0, 1) := by decide +kernel
theorem dX8_standing_64 : decode cX8_standing 64 = .ok (.getfield 89, 3) := by decide +kernel
theorem dX8_standing_67 : decode cX8_standing 67 = .ok (.iload_n 3, 1) := by decide +kernel
theorem dX8_standing_68 : decode cX8_standing 68 = .ok (.iaload, 1) := by decide +kernel
theorem dX8_standing_69 : decode cX8_standing 69 = .ok (.ireturn, 1) := by decide +kernel
theorem dX8_lendBy_0 : decode cX8_lendBy 0 = .ok (.iload_n 1, 1) := by decide +kernel
theorem dX8_lendBy_1 : decode cX8_lendBy 1 = .ok (.istore_n 2, 1) := by decide +kernel
theorem dX8_lendBy_2 : decode cX8_lendBy 2 = .ok (.iconst 1, 1) := by decide +kernel
theorem dX8_lendBy_3 : decode cX8_lendBy 3 = .ok (.istore_n 3, 1) := by decide +kernel
theorem dX8_lendBy_4 : decode cX8_lendBy 4 = .ok (.iconst 0, 1) := by decide +kernel
theorem dX8_lendBy_5 : decode cX8_lendBy 5 = .ok (.istore 4, 2) := by decide +kernel
theorem dX8_lendBy_7 : decode cX8_lendBy 7 = .ok (.iload 4, 2) := by decide +kernel
theorem dX8_lendBy_9 : decode cX8_lendBy 9 = .ok (.aload_n 0, 1) := by decide +kernel
theorem dX8_lendBy_10 : decode cX8_lendBy 10 = .ok (.getfield 127, 3) := by decide +kernel
theorem dX8_lendBy_13 : decode cX8_lendBy 13 = .ok (.if_icmp .ge 17, 3) := by decide +kernel
theorem dX8_lendBy_16 : decode cX8_lendBy 16 = .ok (.aload_n 0, 1) := by decide +kernel
theorem dX8_lendBy_17 : decode cX8_lendBy 17 = .ok (.getfield 41, 3) := by decide +kernel
theorem dX8_lendBy_20 : decode cX8_lendBy 20 = .ok (.iload 4, 2) := by decide +kernel
theorem dX8_lendBy_22 : decode cX8_lendBy 22 = .ok (.iconst (-1), 1) := by decide +kernel
theorem dX8_lendBy_23 : decode cX8_lendBy 23 = .ok (.iastore, 1) := by decide +kernel
theorem dX8_lendBy_24 : decode cX8_lendBy 24 = .ok (.iinc 4 1, 3) := by decide +kernel
theorem dX8_lendBy_27 : decode cX8_lendBy 27 = .ok (.goto (-20), 3) := by decide +kernel
theorem dX8_lendBy_30 : decode cX8_lendBy 30 = .ok (.aload_n 0, 1) := by decide +kernel
theorem dX8_lendBy_31 : decode cX8_lendBy 31 = .ok (.getfield 130, 3) := by decide +kernel
theorem dX8_lendBy_34 : decode cX8_lendBy 34 = .ok (.iconst 1, 1) := by decide +kernel
theorem dX8_lendBy_35 : decode cX8_lendBy 35 = .ok (.isub, 1) := by decide +kernel
theorem dX8_lendBy_36 : decode cX8_lendBy 36 = .ok (.istore 4, 2) := by decide +kernel
theorem dX8_lendBy_38 : decode cX8_lendBy 38 = .ok (.iload 4, 2) := by decide +kernel
theorem dX8_lendBy_40 : decode cX8_lendBy 40 = .ok (.ifCond .lt 74, 3) := by decide +kernel
theorem dX8_lendBy_43 : decode cX8_lendBy 43 = .ok (.iload_n 2, 1) := by decide +kernel
theorem dX8_lendBy_44 : decode cX8_lendBy 44 = .ok (.aload_n 0, 1) := by decide +kernel
theorem dX8_lendBy_45 : decode cX8_lendBy 45 = .ok (.getfield 127, 3) := by decide +kernel
theorem dX8_lendBy_48 : decode cX8_lendBy 48 = .ok (.iconst 1, 1) := by decide +kernel
theorem dX8_lendBy_49 : decode cX8_lendBy 49 = .ok (.iadd, 1) := by decide +kernel
theorem dX8_lendBy_50 : decode cX8_lendBy 50 = .ok (.irem, 1) := by decide +kernel
theorem dX8_lendBy_51 : decode cX8_lendBy 51 = .ok (.iconst 1, 1) := by decide +kernel
theorem dX8_lendBy_52 : decode cX8_lendBy 52 = .ok (.isub, 1) := by decide +kernel
theorem dX8_lendBy_53 : decode cX8_lendBy 53 = .ok (.istore 5, 2) := by decide +kernel
theorem dX8_lendBy_55 : decode cX8_lendBy 55 = .ok (.iload_n 2, 1) := by decide +kernel
theorem dX8_lendBy_56 : decode cX8_lendBy 56 = .ok (.aload_n 0, 1) := by decide +kernel
theorem dX8_lendBy_57 : decode cX8_lendBy 57 = .ok (.getfield 127, 3) := by decide +kernel
theorem dX8_lendBy_60 : decode cX8_lendBy 60 = .ok (.iconst 1, 1) := by decide +kernel
theorem dX8_lendBy_61 : decode cX8_lendBy 61 = .ok (.iadd, 1) := by decide +kernel
theorem dX8_lendBy_62 : decode cX8_lendBy 62 = .ok (.idiv, 1) := by decide +kernel
theorem dX8_lendBy_63 : decode cX8_lendBy 63 = .ok (.istore_n 2, 1) := by decide +kernel
theorem dX8_lendBy_64 : decode cX8_lendBy 64 = .ok (.iload 5, 2) := by decide +kernel
theorem dX8_lendBy_66 : decode cX8_lendBy 66 = .ok (.ifCond .lt 42, 3) := by decide +kernel
theorem dX8_lendBy_69 : decode cX8_lendBy 69 = .ok (.iload_n 3, 1) := by decide +kernel
theorem dX8_lendBy_70 : decode cX8_lendBy 70 = .ok (.ifCond .eq 27, 3) := by decide +kernel
theorem dX8_lendBy_73 : decode cX8_lendBy 73 = .ok (.aload_n 0, 1) := by decide +kernel
theorem dX8_lendBy_74 : decode cX8_lendBy 74 = .ok (.getfield 38, 3) := by decide +kernel
theorem dX8_lendBy_77 : decode cX8_lendBy 77 = .ok (.iload 5, 2) := by decide +kernel
theorem dX8_lendBy_79 : decode cX8_lendBy 79 = .ok (.iaload, 1) := by decide +kernel
theorem dX8_lendBy_80 : decode cX8_lendBy 80 = .ok (.ifCond .lt 17, 3) := by decide +kernel
theorem dX8_lendBy_83 : decode cX8_lendBy 83 = .ok (.aload_n 0, 1) := by decide +kernel
theorem dX8_lendBy_84 : decode cX8_lendBy 84 = .ok (.getfield 41, 3) := by decide +kernel
theorem dX8_lendBy_87 : decode cX8_lendBy 87 = .ok (.iload 5, 2) := by decide +kernel
theorem dX8_lendBy_89 : decode cX8_lendBy 89 = .ok (.iaload, 1) := by decide +kernel
theorem dX8_lendBy_90 : decode cX8_lendBy 90 = .ok (.ifCond .ge 7, 3) := by decide +kernel
theorem dX8_lendBy_93 : decode cX8_lendBy 93 = .ok (.iconst 1, 1) := by decide +kernel
theorem dX8_lendBy_94 : decode cX8_lendBy 94 = .ok (.goto 4, 3) := by decide +kernel
theorem dX8_lendBy_97 : decode cX8_lendBy 97 = .ok (.iconst 0, 1) := by decide +kernel
theorem dX8_lendBy_98 : decode cX8_lendBy 98 = .ok (.istore_n 3, 1) := by decide +kernel
theorem dX8_lendBy_99 : decode cX8_lendBy 99 = .ok (.aload_n 0, 1) := by decide +kernel
theorem dX8_lendBy_100 : decode cX8_lendBy 100 = .ok (.getfield 41, 3) := by decide +kernel
theorem dX8_lendBy_103 : decode cX8_lendBy 103 = .ok (.iload 5, 2) := by decide +kernel
theorem dX8_lendBy_105 : decode cX8_lendBy 105 = .ok (.iload 4, 2) := by decide +kernel
theorem dX8_lendBy_107 : decode cX8_lendBy 107 = .ok (.iastore, 1) := by decide +kernel
theorem dX8_lendBy_108 : decode cX8_lendBy 108 = .ok (.iinc 4 (-1), 3) := by decide +kernel
theorem dX8_lendBy_111 : decode cX8_lendBy 111 = .ok (.goto (-73), 3) := by decide +kernel
theorem dX8_lendBy_114 : decode cX8_lendBy 114 = .ok (.iload_n 3, 1) := by decide +kernel
theorem dX8_lendBy_115 : decode cX8_lendBy 115 = .ok (.ireturn, 1) := by decide +kernel
theorem dX8_hats_0 : decode cX8_hats 0 = .ok (.aload_n 0, 1) := by decide +kernel
theorem dX8_hats_1 : decode cX8_hats 1 = .ok (.iload_n 1, 1) := by decide +kernel
theorem dX8_hats_2 : decode cX8_hats 2 = .ok (.invokevirtual 251, 3) := by decide +kernel
theorem dX8_hats_5 : decode cX8_hats 5 = .ok (.ifCond .eq 16, 3) := by decide +kernel
theorem dX8_hats_8 : decode cX8_hats 8 = .ok (.iload_n 2, 1) := by decide +kernel
theorem dX8_hats_9 : decode cX8_hats 9 = .ok (.iconst (-1), 1) := by decide +kernel
theorem dX8_hats_10 : decode cX8_hats 10 = .ok (.if_icmp .eq 14, 3) := by decide +kernel
theorem dX8_hats_13 : decode cX8_hats 13 = .ok (.aload_n 0, 1) := by decide +kernel
theorem dX8_hats_14 : decode cX8_hats 14 = .ok (.iload_n 2, 1) := by decide +kernel
theorem dX8_hats_15 : decode cX8_hats 15 = .ok (.invokevirtual 274, 3) := by decide +kernel
theorem dX8_hats_18 : decode cX8_hats 18 = .ok (.ifCond .ne 6, 3) := by decide +kernel
theorem dX8_hats_21 : decode cX8_hats 21 = .ok (.ldc 255, 2) := by decide +kernel
theorem dX8_hats_23 : decode cX8_hats 23 = .ok (.ireturn, 1) := by decide +kernel
theorem dX8_hats_24 : decode cX8_hats 24 = .ok (.aload_n 0, 1) := by decide +kernel
theorem dX8_hats_25 : decode cX8_hats 25 = .ok (.invokevirtual 339, 3) := by decide +kernel
theorem dX8_hats_28 : decode cX8_hats 28 = .ok (.iconst 1, 1) := by decide +kernel
theorem dX8_hats_29 : decode cX8_hats 29 = .ok (.istore_n 3, 1) := by decide +kernel
theorem dX8_hats_30 : decode cX8_hats 30 = .ok (.iconst 0, 1) := by decide +kernel
theorem dX8_hats_31 : decode cX8_hats 31 = .ok (.istore 4, 2) := by decide +kernel
theorem dX8_hats_33 : decode cX8_hats 33 = .ok (.iload 4, 2) := by decide +kernel
theorem dX8_hats_35 : decode cX8_hats 35 = .ok (.aload_n 0, 1) := by decide +kernel
theorem dX8_hats_36 : decode cX8_hats 36 = .ok (.getfield 130, 3) := by decide +kernel
theorem dX8_hats_39 : decode cX8_hats 39 = .ok (.if_icmp .ge 18, 3) := by decide +kernel
theorem dX8_hats_42 : decode cX8_hats 42 = .ok (.iload_n 3, 1) := by decide +kernel
theorem dX8_hats_43 : decode cX8_hats 43 = .ok (.aload_n 0, 1) := by decide +kernel
theorem dX8_hats_44 : decode cX8_hats 44 = .ok (.getfield 127, 3) := by decide +kernel
theorem dX8_hats_47 : decode cX8_hats 47 = .ok (.iconst 1, 1) := by decide +kernel
theorem dX8_hats_48 : decode cX8_hats 48 = .ok (.iadd, 1) := by decide +kernel
theorem dX8_hats_49 : decode cX8_hats 49 = .ok (.imul, 1) := by decide +kernel
theorem dX8_hats_50 : decode cX8_hats 50 = .ok (.istore_n 3, 1) := by decide +kernel
theorem dX8_hats_51 : decode cX8_hats 51 = .ok (.iinc 4 1, 3) := by decide +kernel
theorem dX8_hats_54 : decode cX8_hats 54 = .ok (.goto (-21), 3) := by decide +kernel
theorem dX8_hats_57 : decode cX8_hats 57 = .ok (.aload_n 0, 1) := by decide +kernel
theorem dX8_hats_58 : decode cX8_hats 58 = .ok (.ldc_w 328, 3) := by decide +kernel
theorem dX8_hats_61 : decode cX8_hats 61 = .ok (.putfield 329, 3) := by decide +kernel
theorem dX8_hats_64 : decode cX8_hats 64 = .ok (.iconst 0, 1) := by decide +kernel
theorem dX8_hats_65 : decode cX8_hats 65 = .ok (.istore 4, 2) := by decide +kernel
theorem dX8_hats_67 : decode cX8_hats 67 = .ok (.iload 4, 2) := by decide +kernel
theorem dX8_hats_69 : decode cX8_hats 69 = .ok (.iload_n 3, 1) := by decide +kernel
theorem dX8_hats_70 : decode cX8_hats 70 = .ok (.if_icmp .ge 87, 3) := by decide +kernel
theorem dX8_hats_73 : decode cX8_hats 73 = .ok (.aload_n 0, 1) := by decide +kernel
theorem dX8_hats_74 : decode cX8_hats 74 = .ok (.iload 4, 2) := by decide +kernel
theorem dX8_hats_76 : decode cX8_hats 76 = .ok (.invokevirtual 348, 3) := by decide +kernel
theorem dX8_hats_79 : decode cX8_hats 79 = .ok (.ifCond .eq 72, 3) := by decide +kernel
theorem dX8_hats_82 : decode cX8_hats 82 = .ok (.aload_n 0, 1) := by decide +kernel
theorem dX8_hats_83 : decode cX8_hats 83 = .ok (.aload_n 0, 1) := by decide +kernel
theorem dX8_hats_84 : decode cX8_hats 84 = .ok (.getfield 127, 3) := by decide +kernel
theorem dX8_hats_87 : decode cX8_hats 87 = .ok (.aload_n 0, 1) := by decide +kernel
theorem dX8_hats_88 : decode cX8_hats 88 = .ok (.iload_n 1, 1) := by decide +kernel
theorem dX8_hats_89 : decode cX8_hats 89 = .ok (.invokevirtual 293, 3) := by decide +kernel
theorem dX8_hats_92 : decode cX8_hats 92 = .ok (.invokevirtual 296, 3) := by decide +kernel
theorem dX8_hats_95 : decode cX8_hats 95 = .ok (.aload_n 0, 1) := by decide +kernel
theorem dX8_hats_96 : decode cX8_hats 96 = .ok (.aload_n 0, 1) := by decide +kernel
theorem dX8_hats_97 : decode cX8_hats 97 = .ok (.getfield 127, 3) := by decide +kernel
theorem dX8_hats_100 : decode cX8_hats 100 = .ok (.invokevirtual 336, 3) := by decide +kernel
theorem dX8_hats_103 : decode cX8_hats 103 = .ok (.istore 5, 2) := by decide +kernel
theorem dX8_hats_105 : decode cX8_hats 105 = .ok (.iload 5, 2) := by decide +kernel
theorem dX8_hats_107 : decode cX8_hats 107 = .ok (.aload_n 0, 1) := by decide +kernel
theorem dX8_hats_108 : decode cX8_hats 108 = .ok (.getfield 329, 3) := by decide +kernel
theorem dX8_hats_111 : decode cX8_hats 111 = .ok (.if_icmp .le 40, 3) := by decide +kernel
theorem dX8_hats_114 : decode cX8_hats 114 = .ok (.aload_n 0, 1) := by decide +kernel
theorem dX8_hats_115 : decode cX8_hats 115 = .ok (.iload 5, 2) := by decide +kernel
theorem dX8_hats_117 : decode cX8_hats 117 = .ok (.putfield 329, 3) := by decide +kernel
theorem dX8_hats_120 : decode cX8_hats 120 = .ok (.iconst 0, 1) := by decide +kernel
theorem dX8_hats_121 : decode cX8_hats 121 = .ok (.istore 6, 2) := by decide +kernel
theorem dX8_hats_123 : decode cX8_hats 123 = .ok (.iload 6, 2) := by decide +kernel
theorem dX8_hats_125 : decode cX8_hats 125 = .ok (.aload_n 0, 1) := by decide +kernel
theorem dX8_hats_126 : decode cX8_hats 126 = .ok (.getfield 130, 3) := by decide +kernel
theorem dX8_hats_129 : decode cX8_hats 129 = .ok (.if_icmp .ge 22, 3) := by decide +kernel
theorem dX8_hats_132 : decode cX8_hats 132 = .ok (.aload_n 0, 1) := by decide +kernel
theorem dX8_hats_133 : decode cX8_hats 133 = .ok (.getfield 89, 3) := by decide +kernel
theorem dX8_hats_136 : decode cX8_hats 136 = .ok (.iload 6, 2) := by decide +kernel
theorem dX8_hats_138 : decode cX8_hats 138 = .ok (.aload_n 0, 1) := by decide +kernel
theorem dX8_hats_139 : decode cX8_hats 139 = .ok (.iload 6, 2) := by decide +kernel
theorem dX8_hats_141 : decode cX8_hats 141 = .ok (.invokevirtual 277, 3) := by decide +kernel
theorem dX8_hats_144 : decode cX8_hats 144 = .ok (.iastore, 1) := by decide +kernel
theorem dX8_hats_145 : decode cX8_hats 145 = .ok (.iinc 6 1, 3) := by decide +kernel
theorem dX8_hats_148 : decode cX8_hats 148 = .ok (.goto (-25), 3) := by decide +kernel
theorem dX8_hats_151 : decode cX8_hats 151 = .ok (.iinc 4 1, 3) := by decide +kernel
theorem dX8_hats_154 : decode cX8_hats 154 = .ok (.goto (-87), 3) := by decide +kernel
theorem dX8_hats_157 : decode cX8_hats 157 = .ok (.aload_n 0, 1) := by decide +kernel
theorem dX8_hats_158 : decode cX8_hats 158 = .ok (.invokevirtual 345, 3) := by decide +kernel
theorem dX8_hats_161 : decode cX8_hats 161 = .ok (.iload_n 2, 1) := by decide +kernel
theorem dX8_hats_162 : decode cX8_hats 162 = .ok (.iconst (-1), 1) := by decide +kernel
theorem dX8_hats_163 : decode cX8_hats 163 = .ok (.if_icmp .ne 10, 3) := by decide +kernel
theorem dX8_hats_166 : decode cX8_hats 166 = .ok (.aload_n 0, 1) := by decide +kernel
theorem dX8_hats_167 : decode cX8_hats 167 = .ok (.getfield 329, 3) := by decide +kernel
theorem dX8_hats_170 : decode cX8_hats 170 = .ok (.goto 9, 3) := by decide +kernel
theorem dX8_hats_173 : decode cX8_hats 173 = .ok (.aload_n 0, 1) := by decide +kernel
theorem dX8_hats_174 : decode cX8_hats 174 = .ok (.getfield 89, 3) := by decide +kernel
theorem dX8_hats_177 : decode cX8_hats 177 = .ok (.iload_n 2, 1) := by decide +kernel
theorem dX8_hats_178 : decode cX8_hats 178 = .ok (.iaload, 1) := by decide +kernel
theorem dX8_hats_179 : decode cX8_hats 179 = .ok (.ireturn, 1) := by decide +kernel
theorem dX8_giant_0 : decode cX8_giant 0 = .ok (.aload_n 0, 1) := by decide +kernel
theorem dX8_giant_1 : decode cX8_giant 1 = .ok (.iload_n 1, 1) := by decide +kernel
theorem dX8_giant_2 : decode cX8_giant 2 = .ok (.invokevirtual 251, 3) := by decide +kernel
theorem dX8_giant_5 : decode cX8_giant 5 = .ok (.ifCond .ne 6, 3) := by decide +kernel
theorem dX8_giant_8 : decode cX8_giant 8 = .ok (.ldc 255, 2) := by decide +kernel
theorem dX8_giant_10 : decode cX8_giant 10 = .ok (.ireturn, 1) := by decide +kernel
theorem dX8_giant_11 : decode cX8_giant 11 = .ok (.iload_n 2, 1) := by decide +kernel
theorem dX8_giant_12 : decode cX8_giant 12 = .ok (.i2l, 1) := by decide +kernel
theorem dX8_giant_13 : decode cX8_giant 13 = .ok (.lconst 1, 1) := by decide +kernel
theorem dX8_giant_14 : decode cX8_giant 14 = .ok (.ldc2_w 351, 3) := by decide +kernel
theorem dX8_giant_17 : decode cX8_giant 17 = .ok (.invokestatic 123, 3) := by decide +kernel
theorem dX8_giant_20 : decode cX8_giant 20 = .ok (.ifCond .eq 26, 3) := by decide +kernel
theorem dX8_giant_23 : decode cX8_giant 23 = .ok (.iload_n 3, 1) := by decide +kernel
theorem dX8_giant_24 : decode cX8_giant 24 = .ok (.i2l, 1) := by decide +kernel
theorem dX8_giant_25 : decode cX8_giant 25 = .ok (.lconst 0, 1) := by decide +kernel
theorem dX8_giant_26 : decode cX8_giant 26 = .ok (.ldc2_w 353, 3) := by decide +kernel
theorem dX8_giant_29 : decode cX8_giant 29 = .ok (.invokestatic 123, 3) := by decide +kernel
theorem dX8_giant_32 : decode cX8_giant 32 = .ok (.ifCond .eq 14, 3) := by decide +kernel
theorem dX8_giant_35 : decode cX8_giant 35 = .ok (.iload 4, 2) := by decide +kernel
theorem dX8_giant_37 : decode cX8_giant 37 = .ok (.i2l, 1) := by decide +kernel
theorem dX8_giant_38 : decode cX8_giant 38 = .ok (.lconst 0, 1) := by decide +kernel
theorem dX8_giant_39 : decode cX8_giant 39 = .ok (.lconst 1, 1) := by decide +kernel
theorem dX8_giant_40 : decode cX8_giant 40 = .ok (.invokestatic 123, 3) := by decide +kernel
theorem dX8_giant_43 : decode cX8_giant 43 = .ok (.ifCond .ne 6, 3) := by decide +kernel
theorem dX8_giant_46 : decode cX8_giant 46 = .ok (.ldc 135, 2) := by decide +kernel
theorem dX8_giant_48 : decode cX8_giant 48 = .ok (.ireturn, 1) := by decide +kernel
theorem dX8_giant_49 : decode cX8_giant 49 = .ok (.aload_n 0, 1) := by decide +kernel
theorem dX8_giant_50 : decode cX8_giant 50 = .ok (.aload_n 0, 1) := by decide +kernel
theorem dX8_giant_51 : decode cX8_giant 51 = .ok (.getfield 127, 3) := by decide +kernel
theorem dX8_giant_54 : decode cX8_giant 54 = .ok (.aload_n 0, 1) := by decide +kernel
theorem dX8_giant_55 : decode cX8_giant 55 = .ok (.iload_n 1, 1) := by decide +kernel
theorem dX8_giant_56 : decode cX8_giant 56 = .ok (.invokevirtual 293, 3) := by decide +kernel
theorem dX8_giant_59 : decode cX8_giant 59 = .ok (.invokevirtual 296, 3) := by decide +kernel
theorem dX8_giant_62 : decode cX8_giant 62 = .ok (.aload_n 0, 1) := by decide +kernel
theorem dX8_giant_63 : decode cX8_giant 63 = .ok (.aload_n 0, 1) := by decide +kernel
theorem dX8_giant_64 : decode cX8_giant 64 = .ok (.getfield 127, 3) := by decide +kernel
theorem dX8_giant_67 : decode cX8_giant 67 = .ok (.invokevirtual 336, 3) := by decide +kernel
theorem dX8_giant_70 : decode cX8_giant 70 = .ok (.istore 5, 2) := by decide +kernel
theorem dX8_giant_72 : decode cX8_giant 72 = .ok (.iconst (-1), 1) := by decide +kernel
theorem dX8_giant_73 : decode cX8_giant 73 = .ok (.istore 6, 2) := by decide +kernel
theorem dX8_giant_75 : decode cX8_giant 75 = .ok (.iconst 0, 1) := by decide +kernel
theorem dX8_giant_76 : decode cX8_giant 76 = .ok (.istore 7, 2) := by decide +kernel
theorem dX8_giant_78 : decode cX8_giant 78 = .ok (.aload_n 0, 1) := by decide +kernel
theorem dX8_giant_79 : decode cX8_giant 79 = .ok (.getfield 29, 3) := by decide +kernel
theorem dX8_giant_82 : decode cX8_giant 82 = .ok (.aload_n 0, 1) := by decide +kernel
theorem dX8_giant_83 : decode cX8_giant 83 = .ok (.getfield 127, 3) := by decide +kernel
theorem dX8_giant_86 : decode cX8_giant 86 = .ok (.iaload, 1) := by decide +kernel
theorem dX8_giant_87 : decode cX8_giant 87 = .ok (.istore 8, 2) := by decide +kernel
theorem dX8_giant_89 : decode cX8_giant 89 = .ok (.aload_n 0, 1) := by decide +kernel
theorem dX8_giant_90 : decode cX8_giant 90 = .ok (.getfield 29, 3) := by decide +kernel
theorem dX8_giant_93 : decode cX8_giant 93 = .ok (.aload_n 0, 1) := by decide +kernel
theorem dX8_giant_94 : decode cX8_giant 94 = .ok (.getfield 127, 3) := by decide +kernel
theorem dX8_giant_97 : decode cX8_giant 97 = .ok (.iload_n 2, 1) := by decide +kernel
theorem dX8_giant_98 : decode cX8_giant 98 = .ok (.iastore, 1) := by decide +kernel
theorem dX8_giant_99 : decode cX8_giant 99 = .ok (.aload_n 0, 1) := by decide +kernel
theorem dX8_giant_100 : decode cX8_giant 100 = .ok (.getfield 41, 3) := by decide +kernel
theorem dX8_giant_103 : decode cX8_giant 103 = .ok (.aload_n 0, 1) := by decide +kernel
theorem dX8_giant_104 : decode cX8_giant 104 = .ok (.getfield 127, 3) := by decide +kernel
theorem dX8_giant_107 : decode cX8_giant 107 = .ok (.iconst (-1), 1) := by decide +kernel
theorem dX8_giant_108 : decode cX8_giant 108 = .ok (.iastore, 1) := by decide +kernel
theorem dX8_giant_109 : decode cX8_giant 109 = .ok (.iconst 0, 1) := by decide +kernel
theorem dX8_giant_110 : decode cX8_giant 110 = .ok (.istore 9, 2) := by decide +kernel
theorem dX8_giant_112 : decode cX8_giant 112 = .ok (.iload 9, 2) := by decide +kernel
theorem dX8_giant_114 : decode cX8_giant 114 = .ok (.aload_n 0, 1) := by decide +kernel
theorem dX8_giant_115 : decode cX8_giant 115 = .ok (.getfield 117, 3) := by decide +kernel
theorem dX8_giant_118 : decode cX8_giant 118 = .ok (.if_icmp .ge 112, 3) := by decide +kernel
theorem dX8_giant_121 : decode cX8_giant 121 = .ok (.aload_n 0, 1) := by decide +kernel
theorem dX8_giant_122 : decode cX8_giant 122 = .ok (.iload 9, 2) := by decide +kernel
theorem dX8_giant_124 : decode cX8_giant 124 = .ok (.aload_n 0, 1) := by decide +kernel
theorem dX8_giant_125 : decode cX8_giant 125 = .ok (.getfield 127, 3) := by decide +kernel
theorem dX8_giant_128 : decode cX8_giant 128 = .ok (.invokevirtual 264, 3) := by decide +kernel
theorem dX8_giant_131 : decode cX8_giant 131 = .ok (.ifCond .ge 93, 3) := by decide +kernel
theorem dX8_giant_134 : decode cX8_giant 134 = .ok (.aload_n 0, 1) := by decide +kernel
theorem dX8_giant_135 : decode cX8_giant 135 = .ok (.getfield 38, 3) := by decide +kernel
theorem dX8_giant_138 : decode cX8_giant 138 = .ok (.aload_n 0, 1) := by decide +kernel
theorem dX8_giant_139 : decode cX8_giant 139 = .ok (.getfield 127, 3) := by decide +kernel
theorem dX8_giant_142 : decode cX8_giant 142 = .ok (.iload 9, 2) := by decide +kernel
theorem dX8_giant_144 : decode cX8_giant 144 = .ok (.iastore, 1) := by decide +kernel
theorem dX8_giant_145 : decode cX8_giant 145 = .ok (.aload_n 0, 1) := by decide +kernel
theorem dX8_giant_146 : decode cX8_giant 146 = .ok (.aload_n 0, 1) := by decide +kernel
theorem dX8_giant_147 : decode cX8_giant 147 = .ok (.getfield 127, 3) := by decide +kernel
theorem dX8_giant_150 : decode cX8_giant 150 = .ok (.iconst 1, 1) := by decide +kernel
theorem dX8_giant_151 : decode cX8_giant 151 = .ok (.iadd, 1) := by decide +kernel
theorem dX8_giant_152 : decode cX8_giant 152 = .ok (.aload_n 0, 1) := by decide +kernel
theorem dX8_giant_153 : decode cX8_giant 153 = .ok (.iload_n 1, 1) := by decide +kernel
theorem dX8_giant_154 : decode cX8_giant 154 = .ok (.invokevirtual 293, 3) := by decide +kernel
theorem dX8_giant_157 : decode cX8_giant 157 = .ok (.invokevirtual 296, 3) := by decide +kernel
theorem dX8_giant_160 : decode cX8_giant 160 = .ok (.aload_n 0, 1) := by decide +kernel
theorem dX8_giant_161 : decode cX8_giant 161 = .ok (.aload_n 0, 1) := by decide +kernel
theorem dX8_giant_162 : decode cX8_giant 162 = .ok (.getfield 127, 3) := by decide +kernel
theorem dX8_giant_165 : decode cX8_giant 165 = .ok (.iconst 1, 1) := by decide +kernel
theorem dX8_giant_166 : decode cX8_giant 166 = .ok (.iadd, 1) := by decide +kernel
theorem dX8_giant_167 : decode cX8_giant 167 = .ok (.invokevirtual 336, 3) := by decide +kernel
theorem dX8_giant_170 : decode cX8_giant 170 = .ok (.iload 5, 2) := by decide +kernel
theorem dX8_giant_172 : decode cX8_giant 172 = .ok (.isub, 1) := by decide +kernel
theorem dX8_giant_173 : decode cX8_giant 173 = .ok (.iload_n 3, 1) := by decide +kernel
theorem dX8_giant_174 : decode cX8_giant 174 = .ok (.isub, 1) := by decide +kernel
theorem dX8_giant_175 : decode cX8_giant 175 = .ok (.istore 10, 2) := by decide +kernel
theorem dX8_giant_177 : decode cX8_giant 177 = .ok (.iload 6, 2) := by decide +kernel
theorem dX8_giant_179 : decode cX8_giant 179 = .ok (.ifCond .lt 10, 3) := by decide +kernel
theorem dX8_giant_182 : decode cX8_giant 182 = .ok (.iload 10, 2) := by decide +kernel
theorem dX8_giant_184 : decode cX8_giant 184 = .ok (.iload 7, 2) := by decide +kernel
theorem dX8_giant_186 : decode cX8_giant 186 = .ok (.if_icmp .le 7, 3) := by decide +kernel
theorem dX8_giant_189 : decode cX8_giant 189 = .ok (.iconst 1, 1) := by decide +kernel
theorem dX8_giant_190 : decode cX8_giant 190 = .ok (.goto 4, 3) := by decide +kernel
theorem dX8_giant_193 : decode cX8_giant 193 = .ok (.iconst 0, 1) := by decide +kernel
theorem dX8_giant_194 : decode cX8_giant 194 = .ok (.istore 11, 2) := by decide +kernel
theorem dX8_giant_196 : decode cX8_giant 196 = .ok (.iload 11, 2) := by decide +kernel
theorem dX8_giant_198 : decode cX8_giant 198 = .ok (.ifCond .eq 8, 3) := by decide +kernel
theorem dX8_giant_201 : decode cX8_giant 201 = .ok (.iload 9, 2) := by decide +kernel
theorem dX8_giant_203 : decode cX8_giant 203 = .ok (.goto 5, 3) := by decide +kernel
theorem dX8_giant_206 : decode cX8_giant 206 = .ok (.iload 6, 2) := by decide +kernel
theorem dX8_giant_208 : decode cX8_giant 208 = .ok (.istore 6, 2) := by decide +kernel
theorem dX8_giant_210 : decode cX8_giant 210 = .ok (.iload 11, 2) := by decide +kernel
theorem dX8_giant_212 : decode cX8_giant 212 = .ok (.ifCond .eq 8, 3) := by decide +kernel
theorem dX8_giant_215 : decode cX8_giant 215 = .ok (.iload 10, 2) := by decide +kernel
theorem dX8_giant_217 : decode cX8_giant 217 = .ok (.goto 5, 3) := by decide +kernel
theorem dX8_giant_220 : decode cX8_giant 220 = .ok (.iload 7, 2) := by decide +kernel
theorem dX8_giant_222 : decode cX8_giant 222 = .ok (.istore 7, 2) := by decide +kernel
theorem dX8_giant_224 : decode cX8_giant 224 = .ok (.iinc 9 1, 3) := by decide +kernel
theorem dX8_giant_227 : decode cX8_giant 227 = .ok (.goto (-115), 3) := by decide +kernel
theorem dX8_giant_230 : decode cX8_giant 230 = .ok (.aload_n 0, 1) := by decide +kernel
theorem dX8_giant_231 : decode cX8_giant 231 = .ok (.getfield 38, 3) := by decide +kernel
theorem dX8_giant_234 : decode cX8_giant 234 = .ok (.aload_n 0, 1) := by decide +kernel
theorem dX8_giant_235 : decode cX8_giant 235 = .ok (.getfield 127, 3) := by decide +kernel
theorem dX8_giant_238 : decode cX8_giant 238 = .ok (.iconst (-1), 1) := by decide +kernel
theorem dX8_giant_239 : decode cX8_giant 239 = .ok (.iastore, 1) := by decide +kernel
theorem dX8_giant_240 : decode cX8_giant 240 = .ok (.aload_n 0, 1) := by decide +kernel
theorem dX8_giant_241 : decode cX8_giant 241 = .ok (.getfield 29, 3) := by decide +kernel
theorem dX8_giant_244 : decode cX8_giant 244 = .ok (.aload_n 0, 1) := by decide +kernel
theorem dX8_giant_245 : decode cX8_giant 245 = .ok (.getfield 127, 3) := by decide +kernel
theorem dX8_giant_248 : decode cX8_giant 248 = .ok (.iload 8, 2) := by decide +kernel
theorem dX8_giant_250 : decode cX8_giant 250 = .ok (.iastore, 1) := by decide +kernel
theorem dX8_giant_251 : decode cX8_giant 251 = .ok (.iload 4, 2) := by decide +kernel
theorem dX8_giant_253 : decode cX8_giant 253 = .ok (.ifCond .ne 8, 3) := by decide +kernel
theorem dX8_giant_256 : decode cX8_giant 256 = .ok (.iload 6, 2) := by decide +kernel
theorem dX8_giant_258 : decode cX8_giant 258 = .ok (.goto 5, 3) := by decide +kernel
theorem dX8_giant_261 : decode cX8_giant 261 = .ok (.iload 7, 2) := by decide +kernel
theorem dX8_giant_263 : decode cX8_giant 263 = .ok (.ireturn, 1) := by decide +kernel
theorem dX8_lacksFor_0 : decode cX8_lacksFor 0 = .ok (.iconst 0, 1) := by decide +kernel
theorem dX8_lacksFor_1 : decode cX8_lacksFor 1 = .ok (.istore_n 2, 1) := by decide +kernel
theorem dX8_lacksFor_2 : decode cX8_lacksFor 2 = .ok (.iconst 0, 1) := by decide +kernel
theorem dX8_lacksFor_3 : decode cX8_lacksFor 3 = .ok (.istore_n 3, 1) := by decide +kernel
theorem dX8_lacksFor_4 : decode cX8_lacksFor 4 = .ok (.iload_n 3, 1) := by decide +kernel
theorem dX8_lacksFor_5 : decode cX8_lacksFor 5 = .ok (.aload_n 0, 1) := by decide +kernel
theorem dX8_lacksFor_6 : decode cX8_lacksFor 6 = .ok (.getfield 127, 3) := by decide +kernel
theorem dX8_lacksFor_9 : decode cX8_lacksFor 9 = .ok (.if_icmp .ge 32, 3) := by decide +kernel
theorem dX8_lacksFor_12 : decode cX8_lacksFor 12 = .ok (.iload_n 2, 1) := by decide +kernel
theorem dX8_lacksFor_13 : decode cX8_lacksFor 13 = .ok (.aload_n 0, 1) := by decide +kernel
theorem dX8_lacksFor_14 : decode cX8_lacksFor 14 = .ok (.iload_n 3, 1) := by decide +kernel
theorem dX8_lacksFor_15 : decode cX8_lacksFor 15 = .ok (.invokevirtual 290, 3) := by decide +kernel
theorem dX8_lacksFor_18 : decode cX8_lacksFor 18 = .ok (.iload_n 1, 1) := by decide +kernel
theorem dX8_lacksFor_19 : decode cX8_lacksFor 19 = .ok (.if_icmp .ge 13, 3) := by decide +kernel
theorem dX8_lacksFor_22 : decode cX8_lacksFor 22 = .ok (.iload_n 1, 1) := by decide +kernel
theorem dX8_lacksFor_23 : decode cX8_lacksFor 23 = .ok (.aload_n 0, 1) := by decide +kernel
theorem dX8_lacksFor_24 : decode cX8_lacksFor 24 = .ok (.iload_n 3, 1) := by decide +kernel
theorem dX8_lacksFor_25 : decode cX8_lacksFor 25 = .ok (.invokevirtual 290, 3) := by decide +kernel
theorem dX8_lacksFor_28 : decode cX8_lacksFor 28 = .ok (.isub, 1) := by decide +kernel
theorem dX8_lacksFor_29 : decode cX8_lacksFor 29 = .ok (.goto 4, 3) := by decide +kernel
theorem dX8_lacksFor_32 : decode cX8_lacksFor 32 = .ok (.iconst 0, 1) := by decide +kernel
theorem dX8_lacksFor_33 : decode cX8_lacksFor 33 = .ok (.iadd, 1) := by decide +kernel
theorem dX8_lacksFor_34 : decode cX8_lacksFor 34 = .ok (.istore_n 2, 1) := by decide +kernel
theorem dX8_lacksFor_35 : decode cX8_lacksFor 35 = .ok (.iinc 3 1, 3) := by decide +kernel
theorem dX8_lacksFor_38 : decode cX8_lacksFor 38 = .ok (.goto (-34), 3) := by decide +kernel
theorem dX8_lacksFor_41 : decode cX8_lacksFor 41 = .ok (.iload_n 2, 1) := by decide +kernel
theorem dX8_lacksFor_42 : decode cX8_lacksFor 42 = .ok (.ireturn, 1) := by decide +kernel
theorem dX8_peace_0 : decode cX8_peace 0 = .ok (.aload_n 0, 1) := by decide +kernel
theorem dX8_peace_1 : decode cX8_peace 1 = .ok (.iload_n 1, 1) := by decide +kernel
theorem dX8_peace_2 : decode cX8_peace 2 = .ok (.invokevirtual 251, 3) := by decide +kernel
theorem dX8_peace_5 : decode cX8_peace 5 = .ok (.ifCond .ne 6, 3) := by decide +kernel
theorem dX8_peace_8 : decode cX8_peace 8 = .ok (.ldc 255, 2) := by decide +kernel
theorem dX8_peace_10 : decode cX8_peace 10 = .ok (.ireturn, 1) := by decide +kernel
theorem dX8_peace_11 : decode cX8_peace 11 = .ok (.iload_n 2, 1) := by decide +kernel
theorem dX8_peace_12 : decode cX8_peace 12 = .ok (.i2l, 1) := by decide +kernel
theorem dX8_peace_13 : decode cX8_peace 13 = .ok (.lconst 0, 1) := by decide +kernel
theorem dX8_peace_14 : decode cX8_peace 14 = .ok (.ldc2_w 353, 3) := by decide +kernel
theorem dX8_peace_17 : decode cX8_peace 17 = .ok (.invokestatic 123, 3) := by decide +kernel
theorem dX8_peace_20 : decode cX8_peace 20 = .ok (.ifCond .ne 6, 3) := by decide +kernel
theorem dX8_peace_23 : decode cX8_peace 23 = .ok (.ldc 135, 2) := by decide +kernel
theorem dX8_peace_25 : decode cX8_peace 25 = .ok (.ireturn, 1) := by decide +kernel
theorem dX8_peace_26 : decode cX8_peace 26 = .ok (.aload_n 0, 1) := by decide +kernel
theorem dX8_peace_27 : decode cX8_peace 27 = .ok (.aload_n 0, 1) := by decide +kernel
theorem dX8_peace_28 : decode cX8_peace 28 = .ok (.getfield 127, 3) := by decide +kernel
theorem dX8_peace_31 : decode cX8_peace 31 = .ok (.aload_n 0, 1) := by decide +kernel
theorem dX8_peace_32 : decode cX8_peace 32 = .ok (.iload_n 1, 1) := by decide +kernel
theorem dX8_peace_33 : decode cX8_peace 33 = .ok (.invokevirtual 293, 3) := by decide +kernel
theorem dX8_peace_36 : decode cX8_peace 36 = .ok (.invokevirtual 296, 3) := by decide +kernel
theorem dX8_peace_39 : decode cX8_peace 39 = .ok (.aload_n 0, 1) := by decide +kernel
theorem dX8_peace_40 : decode cX8_peace 40 = .ok (.iload_n 2, 1) := by decide +kernel
theorem dX8_peace_41 : decode cX8_peace 41 = .ok (.invokevirtual 355, 3) := by decide +kernel
theorem dX8_peace_44 : decode cX8_peace 44 = .ok (.ireturn, 1) := by decide +kernel
theorem dX8_bread_0 : decode cX8_bread 0 = .ok (.aload_n 0, 1) := by decide +kernel
theorem dX8_bread_1 : decode cX8_bread 1 = .ok (.iload_n 1, 1) := by decide +kernel
theorem dX8_bread_2 : decode cX8_bread 2 = .ok (.invokevirtual 251, 3) := by decide +kernel
theorem dX8_bread_5 : decode cX8_bread 5 = .ok (.ifCond .ne 6, 3) := by decide +kernel
theorem dX8_bread_8 : decode cX8_bread 8 = .ok (.ldc 255, 2) := by decide +kernel
theorem dX8_bread_10 : decode cX8_bread 10 = .ok (.ireturn, 1) := by decide +kernel
theorem dX8_bread_11 : decode cX8_bread 11 = .ok (.iload_n 2, 1) := by decide +kernel
theorem dX8_bread_12 : decode cX8_bread 12 = .ok (.i2l, 1) := by decide +kernel
theorem dX8_bread_13 : decode cX8_bread 13 = .ok (.lconst 0, 1) := by decide +kernel
theorem dX8_bread_14 : decode cX8_bread 14 = .ok (.ldc2_w 358, 3) := by decide +kernel
theorem dX8_bread_17 : decode cX8_bread 17 = .ok (.invokestatic 123, 3) := by decide +kernel
theorem dX8_bread_20 : decode cX8_bread 20 = .ok (.ifCond .ne 6, 3) := by decide +kernel
theorem dX8_bread_23 : decode cX8_bread 23 = .ok (.ldc 135, 2) := by decide +kernel
theorem dX8_bread_25 : decode cX8_bread 25 = .ok (.ireturn, 1) := by decide +kernel
theorem dX8_bread_26 : decode cX8_bread 26 = .ok (.aload_n 0, 1) := by decide +kernel
theorem dX8_bread_27 : decode cX8_bread 27 = .ok (.aload_n 0, 1) := by decide +kernel
theorem dX8_bread_28 : decode cX8_bread 28 = .ok (.getfield 127, 3) := by decide +kernel
theorem dX8_bread_31 : decode cX8_bread 31 = .ok (.aload_n 0, 1) := by decide +kernel
theorem dX8_bread_32 : decode cX8_bread 32 = .ok (.iload_n 1, 1) := by decide +kernel
theorem dX8_bread_33 : decode cX8_bread 33 = .ok (.invokevirtual 293, 3) := by decide +kernel
theorem dX8_bread_36 : decode cX8_bread 36 = .ok (.invokevirtual 296, 3) := by decide +kernel
theorem dX8_bread_39 : decode cX8_bread 39 = .ok (.sipush 999, 3) := by decide +kernel
theorem dX8_bread_42 : decode cX8_bread 42 = .ok (.istore_n 3, 1) := by decide +kernel
theorem dX8_bread_43 : decode cX8_bread 43 = .ok (.iload_n 3, 1) := by decide +kernel
theorem dX8_bread_44 : decode cX8_bread 44 = .ok (.ifCond .lt 18, 3) := by decide +kernel
theorem dX8_bread_47 : decode cX8_bread 47 = .ok (.aload_n 0, 1) := by decide +kernel
theorem dX8_bread_48 : decode cX8_bread 48 = .ok (.iload_n 3, 1) := by decide +kernel
theorem dX8_bread_49 : decode cX8_bread 49 = .ok (.invokevirtual 355, 3) := by decide +kernel
theorem dX8_bread_52 : decode cX8_bread 52 = .ok (.iload_n 2, 1) := by decide +kernel
theorem dX8_bread_53 : decode cX8_bread 53 = .ok (.if_icmp .le 9, 3) := by decide +kernel
theorem dX8_bread_56 : decode cX8_bread 56 = .ok (.iinc 3 (-1), 3) := by decide +kernel
theorem dX8_bread_59 : decode cX8_bread 59 = .ok (.goto (-16), 3) := by decide +kernel
theorem dX8_bread_62 : decode cX8_bread 62 = .ok (.iload_n 3, 1) := by decide +kernel
theorem dX8_bread_63 : decode cX8_bread 63 = .ok (.ireturn, 1) := by decide +kernel
theorem dX8_best_0 : decode cX8_best 0 = .ok (.aload_n 0, 1) := by decide +kernel
theorem dX8_best_1 : decode cX8_best 1 = .ok (.iload_n 1, 1) := by decide +kernel
theorem dX8_best_2 : decode cX8_best 2 = .ok (.invokevirtual 267, 3) := by decide +kernel
theorem dX8_best_5 : decode cX8_best 5 = .ok (.ifCond .ne 6, 3) := by decide +kernel
theorem dX8_best_8 : decode cX8_best 8 = .ok (.ldc 255, 2) := by decide +kernel
theorem dX8_best_10 : decode cX8_best 10 = .ok (.ireturn, 1) := by decide +kernel
theorem dX8_best_11 : decode cX8_best 11 = .ok (.iload_n 2, 1) := by decide +kernel
theorem dX8_best_12 : decode cX8_best 12 = .ok (.i2l, 1) := by decide +kernel
theorem dX8_best_13 : decode cX8_best 13 = .ok (.lconst 0, 1) := by decide +kernel
theorem dX8_best_14 : decode cX8_best 14 = .ok (.lconst 1, 1) := by decide +kernel
theorem dX8_best_15 : decode cX8_best 15 = .ok (.invokestatic 123, 3) := by decide +kernel
theorem dX8_best_18 : decode cX8_best 18 = .ok (.ifCond .ne 6, 3) := by decide +kernel
theorem dX8_best_21 : decode cX8_best 21 = .ok (.ldc 135, 2) := by decide +kernel
theorem dX8_best_23 : decode cX8_best 23 = .ok (.ireturn, 1) := by decide +kernel
theorem dX8_best_24 : decode cX8_best 24 = .ok (.iconst (-1), 1) := by decide +kernel
theorem dX8_best_25 : decode cX8_best 25 = .ok (.istore_n 3, 1) := by decide +kernel
theorem dX8_best_26 : decode cX8_best 26 = .ok (.iconst 0, 1) := by decide +kernel
theorem dX8_best_27 : decode cX8_best 27 = .ok (.istore 4, 2) := by decide +kernel
theorem dX8_best_29 : decode cX8_best 29 = .ok (.iconst 0, 1) := by decide +kernel
theorem dX8_best_30 : decode cX8_best 30 = .ok (.istore 5, 2) := by decide +kernel
theorem dX8_best_32 : decode cX8_best 32 = .ok (.iload 5, 2) := by decide +kernel
theorem dX8_best_34 : decode cX8_best 34 = .ok (.aload_n 0, 1) := by decide +kernel
theorem dX8_best_35 : decode cX8_best 35 = .ok (.getfield 7, 3) := by decide +kernel
theorem dX8_best_38 : decode cX8_best 38 = .ok (.if_icmp .ge 100, 3) := by decide +kernel
theorem dX8_best_41 : decode cX8_best 41 = .ok (.iconst 0, 1) := by decide +kernel
theorem dX8_best_42 : decode cX8_best 42 = .ok (.istore 6, 2) := by decide +kernel
theorem dX8_best_44 : decode cX8_best 44 = .ok (.iconst 0, 1) := by decide +kernel
theorem dX8_best_45 : decode cX8_best 45 = .ok (.istore 7, 2) := by decide +kernel
theorem dX8_best_47 : decode cX8_best 47 = .ok (.iload 7, 2) := by decide +kernel
theorem dX8_best_49 : decode cX8_best 49 = .ok (.aload_n 0, 1) := by decide +kernel
theorem dX8_best_50 : decode cX8_best 50 = .ok (.getfield 120, 3) := by decide +kernel
theorem dX8_best_53 : decode cX8_best 53 = .ok (.if_icmp .ge 35, 3) := by decide +kernel
theorem dX8_best_56 : decode cX8_best 56 = .ok (.aload_n 0, 1) := by decide +kernel
theorem dX8_best_57 : decode cX8_best 57 = .ok (.aload_n 0, 1) := by decide +kernel
theorem dX8_best_58 : decode cX8_best 58 = .ok (.getfield 127, 3) := by decide +kernel
theorem dX8_best_61 : decode cX8_best 61 = .ok (.aload_n 0, 1) := by decide +kernel
theorem dX8_best_62 : decode cX8_best 62 = .ok (.iload 7, 2) := by decide +kernel
theorem dX8_best_64 : decode cX8_best 64 = .ok (.iload 5, 2) := by decide +kernel
theorem dX8_best_66 : decode cX8_best 66 = .ok (.invokevirtual 258, 3) := by decide +kernel
theorem dX8_best_69 : decode cX8_best 69 = .ok (.invokevirtual 296, 3) := by decide +kernel
theorem dX8_best_72 : decode cX8_best 72 = .ok (.iload 6, 2) := by decide +kernel
theorem dX8_best_74 : decode cX8_best 74 = .ok (.aload_n 0, 1) := by decide +kernel
theorem dX8_best_75 : decode cX8_best 75 = .ok (.iload_n 1, 1) := by decide +kernel
theorem dX8_best_76 : decode cX8_best 76 = .ok (.invokevirtual 290, 3) := by decide +kernel
theorem dX8_best_79 : decode cX8_best 79 = .ok (.iadd, 1) := by decide +kernel
theorem dX8_best_80 : decode cX8_best 80 = .ok (.istore 6, 2) := by decide +kernel
theorem dX8_best_82 : decode cX8_best 82 = .ok (.iinc 7 1, 3) := by decide +kernel
theorem dX8_best_85 : decode cX8_best 85 = .ok (.goto (-38), 3) := by decide +kernel
theorem dX8_best_88 : decode cX8_best 88 = .ok (.iload_n 3, 1) := by decide +kernel
theorem dX8_best_89 : decode cX8_best 89 = .ok (.ifCond .lt 10, 3) := by decide +kernel
theorem dX8_best_92 : decode cX8_best 92 = .ok (.iload 6, 2) := by decide +kernel
theorem dX8_best_94 : decode cX8_best 94 = .ok (.iload 4, 2) := by decide +kernel
theorem dX8_best_96 : decode cX8_best 96 = .ok (.if_icmp .le 7, 3) := by decide +kernel
theorem dX8_best_99 : decode cX8_best 99 = .ok (.iconst 1, 1) := by decide +kernel
theorem dX8_best_100 : decode cX8_best 100 = .ok (.goto 4, 3) := by decide +kernel
theorem dX8_best_103 : decode cX8_best 103 = .ok (.iconst 0, 1) := by decide +kernel
theorem dX8_best_104 : decode cX8_best 104 = .ok (.istore 7, 2) := by decide +kernel
theorem dX8_best_106 : decode cX8_best 106 = .ok (.iload 7, 2) := by decide +kernel
theorem dX8_best_108 : decode cX8_best 108 = .ok (.ifCond .eq 8, 3) := by decide +kernel
theorem dX8_best_111 : decode cX8_best 111 = .ok (.iload 5, 2) := by decide +kernel
theorem dX8_best_113 : decode cX8_best 113 = .ok (.goto 4, 3) := by decide +kernel
theorem dX8_best_116 : decode cX8_best 116 = .ok (.iload_n 3, 1) := by decide +kernel
theorem dX8_best_117 : decode cX8_best 117 = .ok (.istore_n 3, 1) := by decide +kernel
theorem dX8_best_118 : decode cX8_best 118 = .ok (.iload 7, 2) := by decide +kernel
theorem dX8_best_120 : decode cX8_best 120 = .ok (.ifCond .eq 8, 3) := by decide +kernel
theorem dX8_best_123 : decode cX8_best 123 = .ok (.iload 6, 2) := by decide +kernel
theorem dX8_best_125 : decode cX8_best 125 = .ok (.goto 5, 3) := by decide +kernel
theorem dX8_best_128 : decode cX8_best 128 = .ok (.iload 4, 2) := by decide +kernel
theorem dX8_best_130 : decode cX8_best 130 = .ok (.istore 4, 2) := by decide +kernel
theorem dX8_best_132 : decode cX8_best 132 = .ok (.iinc 5 1, 3) := by decide +kernel
theorem dX8_best_135 : decode cX8_best 135 = .ok (.goto (-103), 3) := by decide +kernel
theorem dX8_best_138 : decode cX8_best 138 = .ok (.iload_n 2, 1) := by decide +kernel
theorem dX8_best_139 : decode cX8_best 139 = .ok (.ifCond .ne 7, 3) := by decide +kernel
theorem dX8_best_142 : decode cX8_best 142 = .ok (.iload_n 3, 1) := by decide +kernel
theorem dX8_best_143 : decode cX8_best 143 = .ok (.goto 5, 3) := by decide +kernel
theorem dX8_best_146 : decode cX8_best 146 = .ok (.iload 4, 2) := by decide +kernel
theorem dX8_best_148 : decode cX8_best 148 = .ok (.ireturn, 1) := by decide +kernel
theorem dX8_tell_0 : decode cX8_tell 0 = .ok (.aload_n 0, 1) := by decide +kernel
theorem dX8_tell_1 : decode cX8_tell 1 = .ok (.iload_n 1, 1) := by decide +kernel
theorem dX8_tell_2 : decode cX8_tell 2 = .ok (.invokevirtual 251, 3) := by decide +kernel
theorem dX8_tell_5 : decode cX8_tell 5 = .ok (.ifCond .eq 11, 3) := by decide +kernel
theorem dX8_tell_8 : decode cX8_tell 8 = .ok (.aload_n 0, 1) := by decide +kernel
theorem dX8_tell_9 : decode cX8_tell 9 = .ok (.iload_n 3, 1) := by decide +kernel
theorem dX8_tell_10 : decode cX8_tell 10 = .ok (.invokevirtual 261, 3) := by decide +kernel
theorem dX8_tell_13 : decode cX8_tell 13 = .ok (.ifCond .ne 6, 3) := by decide +kernel
theorem dX8_tell_16 : decode cX8_tell 16 = .ok (.ldc 255, 2) := by decide +kernel
theorem dX8_tell_18 : decode cX8_tell 18 = .ok (.ireturn, 1) := by decide +kernel
theorem dX8_tell_19 : decode cX8_tell 19 = .ok (.iload_n 2, 1) := by decide +kernel
theorem dX8_tell_20 : decode cX8_tell 20 = .ok (.i2l, 1) := by decide +kernel
theorem dX8_tell_21 : decode cX8_tell 21 = .ok (.lconst 0, 1) := by decide +kernel
theorem dX8_tell_22 : decode cX8_tell 22 = .ok (.ldc2_w 353, 3) := by decide +kernel
theorem dX8_tell_25 : decode cX8_tell 25 = .ok (.invokestatic 123, 3) := by decide +kernel
theorem dX8_tell_28 : decode cX8_tell 28 = .ok (.ifCond .eq 16, 3) := by decide +kernel
theorem dX8_tell_31 : decode cX8_tell 31 = .ok (.iload 4, 2) := by decide +kernel
theorem dX8_tell_33 : decode cX8_tell 33 = .ok (.i2l, 1) := by decide +kernel
theorem dX8_tell_34 : decode cX8_tell 34 = .ok (.lconst 0, 1) := by decide +kernel
theorem dX8_tell_35 : decode cX8_tell 35 = .ok (.ldc2_w 353, 3) := by decide +kernel
theorem dX8_tell_38 : decode cX8_tell 38 = .ok (.invokestatic 123, 3) := by decide +kernel
theorem dX8_tell_41 : decode cX8_tell 41 = .ok (.ifCond .ne 6, 3) := by decide +kernel
theorem dX8_tell_44 : decode cX8_tell 44 = .ok (.ldc 135, 2) := by decide +kernel
theorem dX8_tell_46 : decode cX8_tell 46 = .ok (.ireturn, 1) := by decide +kernel
theorem dX8_tell_47 : decode cX8_tell 47 = .ok (.aload_n 0, 1) := by decide +kernel
theorem dX8_tell_48 : decode cX8_tell 48 = .ok (.getfield 242, 3) := by decide +kernel
theorem dX8_tell_51 : decode cX8_tell 51 = .ok (.bipush 10, 2) := by decide +kernel
theorem dX8_tell_53 : decode cX8_tell 53 = .ok (.if_icmp .ne 6, 3) := by decide +kernel
theorem dX8_tell_56 : decode cX8_tell 56 = .ok (.ldc 139, 2) := by decide +kernel
theorem dX8_tell_58 : decode cX8_tell 58 = .ok (.ireturn, 1) := by decide +kernel
theorem dX8_tell_59 : decode cX8_tell 59 = .ok (.aload_n 0, 1) := by decide +kernel
theorem dX8_tell_60 : decode cX8_tell 60 = .ok (.getfield 92, 3) := by decide +kernel
theorem dX8_tell_63 : decode cX8_tell 63 = .ok (.aload_n 0, 1) := by decide +kernel
theorem dX8_tell_64 : decode cX8_tell 64 = .ok (.getfield 242, 3) := by decide +kernel
theorem dX8_tell_67 : decode cX8_tell 67 = .ok (.aload_n 0, 1) := by decide +kernel
theorem dX8_tell_68 : decode cX8_tell 68 = .ok (.iload_n 1, 1) := by decide +kernel
theorem dX8_tell_69 : decode cX8_tell 69 = .ok (.iload_n 2, 1) := by decide +kernel
theorem dX8_tell_70 : decode cX8_tell 70 = .ok (.invokevirtual 258, 3) := by decide +kernel
theorem dX8_tell_73 : decode cX8_tell 73 = .ok (.iastore, 1) := by decide +kernel
theorem dX8_tell_74 : decode cX8_tell 74 = .ok (.aload_n 0, 1) := by decide +kernel
theorem dX8_tell_75 : decode cX8_tell 75 = .ok (.getfield 95, 3) := by decide +kernel
theorem dX8_tell_78 : decode cX8_tell 78 = .ok (.aload_n 0, 1) := by decide +kernel
theorem dX8_tell_79 : decode cX8_tell 79 = .ok (.getfield 242, 3) := by decide +kernel
theorem dX8_tell_82 : decode cX8_tell 82 = .ok (.iload_n 3, 1) := by decide +kernel
theorem dX8_tell_83 : decode cX8_tell 83 = .ok (.iastore, 1) := by decide +kernel
theorem dX8_tell_84 : decode cX8_tell 84 = .ok (.aload_n 0, 1) := by decide +kernel
theorem dX8_tell_85 : decode cX8_tell 85 = .ok (.getfield 98, 3) := by decide +kernel
theorem dX8_tell_88 : decode cX8_tell 88 = .ok (.aload_n 0, 1) := by decide +kernel
theorem dX8_tell_89 : decode cX8_tell 89 = .ok (.getfield 242, 3) := by decide +kernel
theorem dX8_tell_92 : decode cX8_tell 92 = .ok (.iload 4, 2) := by decide +kernel
theorem dX8_tell_94 : decode cX8_tell 94 = .ok (.iastore, 1) := by decide +kernel
theorem dX8_tell_95 : decode cX8_tell 95 = .ok (.aload_n 0, 1) := by decide +kernel
theorem dX8_tell_96 : decode cX8_tell 96 = .ok (.dup, 1) := by decide +kernel
theorem dX8_tell_97 : decode cX8_tell 97 = .ok (.getfield 242, 3) := by decide +kernel
theorem dX8_tell_100 : decode cX8_tell 100 = .ok (.iconst 1, 1) := by decide +kernel
theorem dX8_tell_101 : decode cX8_tell 101 = .ok (.iadd, 1) := by decide +kernel
theorem dX8_tell_102 : decode cX8_tell 102 = .ok (.putfield 242, 3) := by decide +kernel
theorem dX8_tell_105 : decode cX8_tell 105 = .ok (.aload_n 0, 1) := by decide +kernel
theorem dX8_tell_106 : decode cX8_tell 106 = .ok (.getfield 242, 3) := by decide +kernel
theorem dX8_tell_109 : decode cX8_tell 109 = .ok (.ireturn, 1) := by decide +kernel
theorem dX8_isAsTold_0 : decode cX8_isAsTold 0 = .ok (.iconst 1, 1) := by decide +kernel
theorem dX8_isAsTold_1 : decode cX8_isAsTold 1 = .ok (.istore_n 2, 1) := by decide +kernel
theorem dX8_isAsTold_2 : decode cX8_isAsTold 2 = .ok (.iconst 0, 1) := by decide +kernel
theorem dX8_isAsTold_3 : decode cX8_isAsTold 3 = .ok (.istore_n 3, 1) := by decide +kernel
theorem dX8_isAsTold_4 : decode cX8_isAsTold 4 = .ok (.iload_n 3, 1) := by decide +kernel
theorem dX8_isAsTold_5 : decode cX8_isAsTold 5 = .ok (.aload_n 0, 1) := by decide +kernel
theorem dX8_isAsTold_6 : decode cX8_isAsTold 6 = .ok (.getfield 242, 3) := by decide +kernel
theorem dX8_isAsTold_9 : decode cX8_isAsTold 9 = .ok (.if_icmp .ge 57, 3) := by decide +kernel
theorem dX8_isAsTold_12 : decode cX8_isAsTold 12 = .ok (.iload_n 2, 1) := by decide +kernel
theorem dX8_isAsTold_13 : decode cX8_isAsTold 13 = .ok (.ifCond .eq 45, 3) := by decide +kernel
theorem dX8_isAsTold_16 : decode cX8_isAsTold 16 = .ok (.aload_n 0, 1) := by decide +kernel
theorem dX8_isAsTold_17 : decode cX8_isAsTold 17 = .ok (.iload_n 1, 1) := by decide +kernel
theorem dX8_isAsTold_18 : decode cX8_isAsTold 18 = .ok (.aload_n 0, 1) := by decide +kernel
theorem dX8_isAsTold_19 : decode cX8_isAsTold 19 = .ok (.getfield 20, 3) := by decide +kernel
theorem dX8_isAsTold_22 : decode cX8_isAsTold 22 = .ok (.aload_n 0, 1) := by decide +kernel
theorem dX8_isAsTold_23 : decode cX8_isAsTold 23 = .ok (.getfield 95, 3) := by decide +kernel
theorem dX8_isAsTold_26 : decode cX8_isAsTold 26 = .ok (.iload_n 3, 1) := by decide +kernel
theorem dX8_isAsTold_27 : decode cX8_isAsTold 27 = .ok (.iaload, 1) := by decide +kernel
theorem dX8_isAsTold_28 : decode cX8_isAsTold 28 = .ok (.iaload, 1) := by decide +kernel
theorem dX8_isAsTold_29 : decode cX8_isAsTold 29 = .ok (.iadd, 1) := by decide +kernel
theorem dX8_isAsTold_30 : decode cX8_isAsTold 30 = .ok (.aload_n 0, 1) := by decide +kernel
theorem dX8_isAsTold_31 : decode cX8_isAsTold 31 = .ok (.getfield 95, 3) := by decide +kernel
theorem dX8_isAsTold_34 : decode cX8_isAsTold 34 = .ok (.iload_n 3, 1) := by decide +kernel
theorem dX8_isAsTold_35 : decode cX8_isAsTold 35 = .ok (.iaload, 1) := by decide +kernel
theorem dX8_isAsTold_36 : decode cX8_isAsTold 36 = .ok (.aload_n 0, 1) := by decide +kernel
theorem dX8_isAsTold_37 : decode cX8_isAsTold 37 = .ok (.getfield 92, 3) := by decide +kernel
theorem dX8_isAsTold_40 : decode cX8_isAsTold 40 = .ok (.iload_n 3, 1) := by decide +kernel
theorem dX8_isAsTold_41 : decode cX8_isAsTold 41 = .ok (.iaload, 1) := by decide +kernel
theorem dX8_isAsTold_42 : decode cX8_isAsTold 42 = .ok (.invokevirtual 280, 3) := by decide +kernel
theorem dX8_isAsTold_45 : decode cX8_isAsTold 45 = .ok (.aload_n 0, 1) := by decide +kernel
theorem dX8_isAsTold_46 : decode cX8_isAsTold 46 = .ok (.getfield 98, 3) := by decide +kernel
theorem dX8_isAsTold_49 : decode cX8_isAsTold 49 = .ok (.iload_n 3, 1) := by decide +kernel
theorem dX8_isAsTold_50 : decode cX8_isAsTold 50 = .ok (.iaload, 1) := by decide +kernel
theorem dX8_isAsTold_51 : decode cX8_isAsTold 51 = .ok (.if_icmp .ne 7, 3) := by decide +kernel
theorem dX8_isAsTold_54 : decode cX8_isAsTold 54 = .ok (.iconst 1, 1) := by decide +kernel
theorem dX8_isAsTold_55 : decode cX8_isAsTold 55 = .ok (.goto 4, 3) := by decide +kernel
theorem dX8_isAsTold_58 : decode cX8_isAsTold 58 = .ok (.iconst 0, 1) := by decide +kernel
theorem dX8_isAsTold_59 : decode cX8_isAsTold 59 = .ok (.istore_n 2, 1) := by decide +kernel
theorem dX8_isAsTold_60 : decode cX8_isAsTold 60 = .ok (.iinc 3 1, 3) := by decide +kernel
theorem dX8_isAsTold_63 : decode cX8_isAsTold 63 = .ok (.goto (-59), 3) := by decide +kernel
theorem dX8_isAsTold_66 : decode cX8_isAsTold 66 = .ok (.iload_n 2, 1) := by decide +kernel
theorem dX8_isAsTold_67 : decode cX8_isAsTold 67 = .ok (.ireturn, 1) := by decide +kernel
theorem dX8_fits_0 : decode cX8_fits 0 = .ok (.iload_n 1, 1) := by decide +kernel
theorem dX8_fits_1 : decode cX8_fits 1 = .ok (.i2l, 1) := by decide +kernel
theorem dX8_fits_2 : decode cX8_fits 2 = .ok (.lconst 0, 1) := by decide +kernel
theorem dX8_fits_3 : decode cX8_fits 3 = .ok (.ldc2_w 301, 3) := by decide +kernel
theorem dX8_fits_6 : decode cX8_fits 6 = .ok (.invokestatic 123, 3) := by decide +kernel
theorem dX8_fits_9 : decode cX8_fits 9 = .ok (.ifCond .ne 6, 3) := by decide +kernel
theorem dX8_fits_12 : decode cX8_fits 12 = .ok (.ldc 135, 2) := by decide +kernel
theorem dX8_fits_14 : decode cX8_fits 14 = .ok (.ireturn, 1) := by decide +kernel
theorem dX8_fits_15 : decode cX8_fits 15 = .ok (.iconst 0, 1) := by decide +kernel
theorem dX8_fits_16 : decode cX8_fits 16 = .ok (.istore_n 2, 1) := by decide +kernel
theorem dX8_fits_17 : decode cX8_fits 17 = .ok (.iconst (-1), 1) := by decide +kernel
theorem dX8_fits_18 : decode cX8_fits 18 = .ok (.istore_n 3, 1) := by decide +kernel
theorem dX8_fits_19 : decode cX8_fits 19 = .ok (.iconst (-1), 1) := by decide +kernel
theorem dX8_fits_20 : decode cX8_fits 20 = .ok (.istore 4, 2) := by decide +kernel
theorem dX8_fits_22 : decode cX8_fits 22 = .ok (.iconst 1, 1) := by decide +kernel
theorem dX8_fits_23 : decode cX8_fits 23 = .ok (.istore 5, 2) := by decide +kernel
theorem dX8_fits_25 : decode cX8_fits 25 = .ok (.iload 5, 2) := by decide +kernel
theorem dX8_fits_27 : decode cX8_fits 27 = .ok (.bipush 110, 2) := by decide +kernel
theorem dX8_fits_29 : decode cX8_fits 29 = .ok (.if_icmp .gt 36, 3) := by decide +kernel
theorem dX8_fits_32 : decode cX8_fits 32 = .ok (.aload_n 0, 1) := by decide +kernel
theorem dX8_fits_33 : decode cX8_fits 33 = .ok (.iload 5, 2) := by decide +kernel
theorem dX8_fits_35 : decode cX8_fits 35 = .ok (.invokevirtual 360, 3) := by decide +kernel
theorem dX8_fits_38 : decode cX8_fits 38 = .ok (.ifCond .eq 21, 3) := by decide +kernel
theorem dX8_fits_41 : decode cX8_fits 41 = .ok (.iinc 2 1, 3) := by decide +kernel
theorem dX8_fits_44 : decode cX8_fits 44 = .ok (.iload_n 3, 1) := by decide +kernel
theorem dX8_fits_45 : decode cX8_fits 45 = .ok (.ifCond .ge 8, 3) := by decide +kernel
theorem dX8_fits_48 : decode cX8_fits 48 = .ok (.iload 5, 2) := by decide +kernel
theorem dX8_fits_50 : decode cX8_fits 50 = .ok (.goto 4, 3) := by decide +kernel
theorem dX8_fits_53 : decode cX8_fits 53 = .ok (.iload_n 3, 1) := by decide +kernel
theorem dX8_fits_54 : decode cX8_fits 54 = .ok (.istore_n 3, 1) := by decide +kernel
theorem dX8_fits_55 : decode cX8_fits 55 = .ok (.iload 5, 2) := by decide +kernel
theorem dX8_fits_57 : decode cX8_fits 57 = .ok (.istore 4, 2) := by decide +kernel
theorem dX8_fits_59 : decode cX8_fits 59 = .ok (.iinc 5 1, 3) := by decide +kernel
theorem dX8_fits_62 : decode cX8_fits 62 = .ok (.goto (-37), 3) := by decide +kernel
theorem dX8_fits_65 : decode cX8_fits 65 = .ok (.iload_n 1, 1) := by decide +kernel
theorem dX8_fits_66 : decode cX8_fits 66 = .ok (.ifCond .ne 7, 3) := by decide +kernel
theorem dX8_fits_69 : decode cX8_fits 69 = .ok (.iload_n 2, 1) := by decide +kernel
theorem dX8_fits_70 : decode cX8_fits 70 = .ok (.goto 14, 3) := by decide +kernel
theorem dX8_fits_73 : decode cX8_fits 73 = .ok (.iload_n 1, 1) := by decide +kernel
theorem dX8_fits_74 : decode cX8_fits 74 = .ok (.iconst 1, 1) := by decide +kernel
theorem dX8_fits_75 : decode cX8_fits 75 = .ok (.if_icmp .ne 7, 3) := by decide +kernel
theorem dX8_fits_78 : decode cX8_fits 78 = .ok (.iload_n 3, 1) := by decide +kernel
theorem dX8_fits_79 : decode cX8_fits 79 = .ok (.goto 5, 3) := by decide +kernel
theorem dX8_fits_82 : decode cX8_fits 82 = .ok (.iload 4, 2) := by decide +kernel
theorem dX8_fits_84 : decode cX8_fits 84 = .ok (.ireturn, 1) := by decide +kernel
theorem dX8_write_0 : decode cX8_write 0 = .ok (.aload_n 0, 1) := by decide +kernel
theorem dX8_write_1 : decode cX8_write 1 = .ok (.iload_n 1, 1) := by decide +kernel
theorem dX8_write_2 : decode cX8_write 2 = .ok (.invokevirtual 251, 3) := by decide +kernel
theorem dX8_write_5 : decode cX8_write 5 = .ok (.ifCond .eq 11, 3) := by decide +kernel
theorem dX8_write_8 : decode cX8_write 8 = .ok (.aload_n 0, 1) := by decide +kernel
theorem dX8_write_9 : decode cX8_write 9 = .ok (.iload_n 2, 1) := by decide +kernel
theorem dX8_write_10 : decode cX8_write 10 = .ok (.invokevirtual 267, 3) := by decide +kernel
theorem dX8_write_13 : decode cX8_write 13 = .ok (.ifCond .ne 6, 3) := by decide +kernel
theorem dX8_write_16 : decode cX8_write 16 = .ok (.ldc 255, 2) := by decide +kernel
theorem dX8_write_18 : decode cX8_write 18 = .ok (.ireturn, 1) := by decide +kernel
theorem dX8_write_19 : decode cX8_write 19 = .ok (.iload_n 3, 1) := by decide +kernel
theorem dX8_write_20 : decode cX8_write 20 = .ok (.i2l, 1) := by decide +kernel
theorem dX8_write_21 : decode cX8_write 21 = .ok (.ldc2_w 363, 3) := by decide +kernel
theorem dX8_write_24 : decode cX8_write 24 = .ok (.ldc2_w 256, 3) := by decide +kernel
theorem dX8_write_27 : decode cX8_write 27 = .ok (.invokestatic 123, 3) := by decide +kernel
theorem dX8_write_30 : decode cX8_write 30 = .ok (.ifCond .ne 6, 3) := by decide +kernel
theorem dX8_write_33 : decode cX8_write 33 = .ok (.ldc 135, 2) := by decide +kernel
theorem dX8_write_35 : decode cX8_write 35 = .ok (.ireturn, 1) := by decide +kernel
theorem dX8_write_36 : decode cX8_write 36 = .ok (.aload_n 0, 1) := by decide +kernel
theorem dX8_write_37 : decode cX8_write 37 = .ok (.getfield 245, 3) := by decide +kernel
theorem dX8_write_40 : decode cX8_write 40 = .ok (.bipush 30, 2) := by decide +kernel
theorem dX8_write_42 : decode cX8_write 42 = .ok (.if_icmp .ne 6, 3) := by decide +kernel
theorem dX8_write_45 : decode cX8_write 45 = .ok (.ldc 139, 2) := by decide +kernel
theorem dX8_write_47 : decode cX8_write 47 = .ok (.ireturn, 1) := by decide +kernel
theorem dX8_write_48 : decode cX8_write 48 = .ok (.aload_n 0, 1) := by decide +kernel
theorem dX8_write_49 : decode cX8_write 49 = .ok (.getfield 101, 3) := by decide +kernel
theorem dX8_write_52 : decode cX8_write 52 = .ok (.aload_n 0, 1) := by decide +kernel
theorem dX8_write_53 : decode cX8_write 53 = .ok (.getfield 245, 3) := by decide +kernel
theorem dX8_write_56 : decode cX8_write 56 = .ok (.iload_n 1, 1) := by decide +kernel
theorem dX8_write_57 : decode cX8_write 57 = .ok (.iastore, 1) := by decide +kernel
theorem dX8_write_58 : decode cX8_write 58 = .ok (.aload_n 0, 1) := by decide +kernel
theorem dX8_write_59 : decode cX8_write 59 = .ok (.getfield 104, 3) := by decide +kernel
theorem dX8_write_62 : decode cX8_write 62 = .ok (.aload_n 0, 1) := by decide +kernel
theorem dX8_write_63 : decode cX8_write 63 = .ok (.getfield 245, 3) := by decide +kernel
theorem dX8_write_66 : decode cX8_write 66 = .ok (.iload_n 2, 1) := by decide +kernel
theorem dX8_write_67 : decode cX8_write 67 = .ok (.iastore, 1) := by decide +kernel
theorem dX8_write_68 : decode cX8_write 68 = .ok (.aload_n 0, 1) := by decide +kernel
theorem dX8_write_69 : decode cX8_write 69 = .ok (.getfield 107, 3) := by decide +kernel
theorem dX8_write_72 : decode cX8_write 72 = .ok (.aload_n 0, 1) := by decide +kernel
theorem dX8_write_73 : decode cX8_write 73 = .ok (.getfield 245, 3) := by decide +kernel
theorem dX8_write_76 : decode cX8_write 76 = .ok (.iload_n 3, 1) := by decide +kernel
theorem dX8_write_77 : decode cX8_write 77 = .ok (.iastore, 1) := by decide +kernel
theorem dX8_write_78 : decode cX8_write 78 = .ok (.aload_n 0, 1) := by decide +kernel
theorem dX8_write_79 : decode cX8_write 79 = .ok (.dup, 1) := by decide +kernel
theorem dX8_write_80 : decode cX8_write 80 = .ok (.getfield 245, 3) := by decide +kernel
theorem dX8_write_83 : decode cX8_write 83 = .ok (.iconst 1, 1) := by decide +kernel
theorem dX8_write_84 : decode cX8_write 84 = .ok (.iadd, 1) := by decide +kernel
theorem dX8_write_85 : decode cX8_write 85 = .ok (.putfield 245, 3) := by decide +kernel
theorem dX8_write_88 : decode cX8_write 88 = .ok (.aload_n 0, 1) := by decide +kernel
theorem dX8_write_89 : decode cX8_write 89 = .ok (.getfield 245, 3) := by decide +kernel
theorem dX8_write_92 : decode cX8_write 92 = .ok (.ireturn, 1) := by decide +kernel
theorem dX8_tear_0 : decode cX8_tear 0 = .ok (.aload_n 0, 1) := by decide +kernel
theorem dX8_tear_1 : decode cX8_tear 1 = .ok (.getfield 245, 3) := by decide +kernel
theorem dX8_tear_4 : decode cX8_tear 4 = .ok (.aload_n 0, 1) := by decide +kernel
theorem dX8_tear_5 : decode cX8_tear 5 = .ok (.getfield 242, 3) := by decide +kernel
theorem dX8_tear_8 : decode cX8_tear 8 = .ok (.iadd, 1) := by decide +kernel
theorem dX8_tear_9 : decode cX8_tear 9 = .ok (.istore_n 1, 1) := by decide +kernel
theorem dX8_tear_10 : decode cX8_tear 10 = .ok (.aload_n 0, 1) := by decide +kernel
theorem dX8_tear_11 : decode cX8_tear 11 = .ok (.iconst 0, 1) := by decide +kernel
theorem dX8_tear_12 : decode cX8_tear 12 = .ok (.putfield 245, 3) := by decide +kernel
theorem dX8_tear_15 : decode cX8_tear 15 = .ok (.aload_n 0, 1) := by decide +kernel
theorem dX8_tear_16 : decode cX8_tear 16 = .ok (.iconst 0, 1) := by decide +kernel
theorem dX8_tear_17 : decode cX8_tear 17 = .ok (.putfield 242, 3) := by decide +kernel
theorem dX8_tear_20 : decode cX8_tear 20 = .ok (.iload_n 1, 1) := by decide +kernel
theorem dX8_tear_21 : decode cX8_tear 21 = .ok (.ireturn, 1) := by decide +kernel
theorem dX8_judge_0 : decode cX8_judge 0 = .ok (.iconst 0, 1) := by decide +kernel
theorem dX8_judge_1 : decode cX8_judge 1 = .ok (.istore_n 1, 1) := by decide +kernel
theorem dX8_judge_2 : decode cX8_judge 2 = .ok (.iload_n 1, 1) := by decide +kernel
theorem dX8_judge_3 : decode cX8_judge 3 = .ok (.aload_n 0, 1) := by decide +kernel
theorem dX8_judge_4 : decode cX8_judge 4 = .ok (.getfield 245, 3) := by decide +kernel
theorem dX8_judge_7 : decode cX8_judge 7 = .ok (.if_icmp .ge 48, 3) := by decide +kernel
theorem dX8_judge_10 : decode cX8_judge 10 = .ok (.aload_n 0, 1) := by decide +kernel
theorem dX8_judge_11 : decode cX8_judge 11 = .ok (.aload_n 0, 1) := by decide +kernel
theorem dX8_judge_12 : decode cX8_judge 12 = .ok (.getfield 127, 3) := by decide +kernel
theorem dX8_judge_15 : decode cX8_judge 15 = .ok (.aload_n 0, 1) := by decide +kernel
theorem dX8_judge_16 : decode cX8_judge 16 = .ok (.aload_n 0, 1) := by decide +kernel
theorem dX8_judge_17 : decode cX8_judge 17 = .ok (.getfield 101, 3) := by decide +kernel
theorem dX8_judge_20 : decode cX8_judge 20 = .ok (.iload_n 1, 1) := by decide +kernel
theorem dX8_judge_21 : decode cX8_judge 21 = .ok (.iaload, 1) := by decide +kernel
theorem dX8_judge_22 : decode cX8_judge 22 = .ok (.invokevirtual 293, 3) := by decide +kernel
theorem dX8_judge_25 : decode cX8_judge 25 = .ok (.invokevirtual 296, 3) := by decide +kernel
theorem dX8_judge_28 : decode cX8_judge 28 = .ok (.aload_n 0, 1) := by decide +kernel
theorem dX8_judge_29 : decode cX8_judge 29 = .ok (.aload_n 0, 1) := by decide +kernel
theorem dX8_judge_30 : decode cX8_judge 30 = .ok (.getfield 104, 3) := by decide +kernel
theorem dX8_judge_33 : decode cX8_judge 33 = .ok (.iload_n 1, 1) := by decide +kernel
theorem dX8_judge_34 : decode cX8_judge 34 = .ok (.iaload, 1) := by decide +kernel
theorem dX8_judge_35 : decode cX8_judge 35 = .ok (.invokevirtual 290, 3) := by decide +kernel
theorem dX8_judge_38 : decode cX8_judge 38 = .ok (.aload_n 0, 1) := by decide +kernel
theorem dX8_judge_39 : decode cX8_judge 39 = .ok (.getfield 107, 3) := by decide +kernel
theorem dX8_judge_42 : decode cX8_judge 42 = .ok (.iload_n 1, 1) := by decide +kernel
theorem dX8_judge_43 : decode cX8_judge 43 = .ok (.iaload, 1) := by decide +kernel
theorem dX8_judge_44 : decode cX8_judge 44 = .ok (.if_icmp .eq 5, 3) := by decide +kernel
theorem dX8_judge_47 : decode cX8_judge 47 = .ok (.iload_n 1, 1) := by decide +kernel
theorem dX8_judge_48 : decode cX8_judge 48 = .ok (.ireturn, 1) := by decide +kernel
theorem dX8_judge_49 : decode cX8_judge 49 = .ok (.iinc 1 1, 3) := by decide +kernel
theorem dX8_judge_52 : decode cX8_judge 52 = .ok (.goto (-50), 3) := by decide +kernel
theorem dX8_judge_55 : decode cX8_judge 55 = .ok (.iconst (-1), 1) := by decide +kernel
theorem dX8_judge_56 : decode cX8_judge 56 = .ok (.ireturn, 1) := by decide +kernel
theorem dX8_seed_0 : decode cX8_seed 0 = .ok (.iload_n 1, 1) := by decide +kernel
theorem dX8_seed_1 : decode cX8_seed 1 = .ok (.ifCond .ge 6, 3) := by decide +kernel
theorem dX8_seed_4 : decode cX8_seed 4 = .ok (.ldc 135, 2) := by decide +kernel
theorem dX8_seed_6 : decode cX8_seed 6 = .ok (.ireturn, 1) := by decide +kernel
theorem dX8_seed_7 : decode cX8_seed 7 = .ok (.aload_n 0, 1) := by decide +kernel
theorem dX8_seed_8 : decode cX8_seed 8 = .ok (.getfield 312, 3) := by decide +kernel
theorem dX8_seed_11 : decode cX8_seed 11 = .ok (.istore_n 2, 1) := by decide +kernel
theorem dX8_seed_12 : decode cX8_seed 12 = .ok (.aload_n 0, 1) := by decide +kernel
theorem dX8_seed_13 : decode cX8_seed 13 = .ok (.iload_n 1, 1) := by decide +kernel
theorem dX8_seed_14 : decode cX8_seed 14 = .ok (.putfield 312, 3) := by decide +kernel
theorem dX8_seed_17 : decode cX8_seed 17 = .ok (.iload_n 2, 1) := by decide +kernel
theorem dX8_seed_18 : decode cX8_seed 18 = .ok (.ireturn, 1) := by decide +kernel
theorem dX8_keep_0 : decode cX8_keep 0 = .ok (.iload_n 1, 1) := by decide +kernel
theorem dX8_keep_1 : decode cX8_keep 1 = .ok (.i2l, 1) := by decide +kernel
theorem dX8_keep_2 : decode cX8_keep 2 = .ok (.lconst 0, 1) := by decide +kernel
theorem dX8_keep_3 : decode cX8_keep 3 = .ok (.lconst 1, 1) := by decide +kernel
theorem dX8_keep_4 : decode cX8_keep 4 = .ok (.invokestatic 123, 3) := by decide +kernel
theorem dX8_keep_7 : decode cX8_keep 7 = .ok (.ifCond .ne 6, 3) := by decide +kernel
theorem dX8_keep_10 : decode cX8_keep 10 = .ok (.ldc 255, 2) := by decide +kernel
theorem dX8_keep_12 : decode cX8_keep 12 = .ok (.ireturn, 1) := by decide +kernel
theorem dX8_keep_13 : decode cX8_keep 13 = .ok (.bipush 25, 2) := by decide +kernel
theorem dX8_keep_15 : decode cX8_keep 15 = .ok (.iload_n 1, 1) := by decide +kernel
theorem dX8_keep_16 : decode cX8_keep 16 = .ok (.imul, 1) := by decide +kernel
theorem dX8_keep_17 : decode cX8_keep 17 = .ok (.istore_n 2, 1) := by decide +kernel
theorem dX8_keep_18 : decode cX8_keep 18 = .ok (.iconst 0, 1) := by decide +kernel
theorem dX8_keep_19 : decode cX8_keep 19 = .ok (.istore_n 3, 1) := by decide +kernel
theorem dX8_keep_20 : decode cX8_keep 20 = .ok (.iload_n 3, 1) := by decide +kernel
theorem dX8_keep_21 : decode cX8_keep 21 = .ok (.bipush 6, 2) := by decide +kernel
theorem dX8_keep_23 : decode cX8_keep 23 = .ok (.if_icmp .ge 57, 3) := by decide +kernel
theorem dX8_keep_26 : decode cX8_keep 26 = .ok (.aload_n 0, 1) := by decide +kernel
theorem dX8_keep_27 : decode cX8_keep 27 = .ok (.getfield 110, 3) := by decide +kernel
theorem dX8_keep_30 : decode cX8_keep 30 = .ok (.iload_n 2, 1) := by decide +kernel
theorem dX8_keep_31 : decode cX8_keep 31 = .ok (.iload_n 3, 1) := by decide +kernel
theorem dX8_keep_32 : decode cX8_keep 32 = .ok (.iadd, 1) := by decide +kernel
theorem dX8_keep_33 : decode cX8_keep 33 = .ok (.aload_n 0, 1) := by decide +kernel
theorem dX8_keep_34 : decode cX8_keep 34 = .ok (.getfield 38, 3) := by decide +kernel
theorem dX8_keep_37 : decode cX8_keep 37 = .ok (.iload_n 3, 1) := by decide +kernel
theorem dX8_keep_38 : decode cX8_keep 38 = .ok (.iaload, 1) := by decide +kernel
theorem dX8_keep_39 : decode cX8_keep 39 = .ok (.iastore, 1) := by decide +kernel
theorem dX8_keep_40 : decode cX8_keep 40 = .ok (.aload_n 0, 1) := by decide +kernel
theorem dX8_keep_41 : decode cX8_keep 41 = .ok (.getfield 110, 3) := by decide +kernel
theorem dX8_keep_44 : decode cX8_keep 44 = .ok (.iload_n 2, 1) := by decide +kernel
theorem dX8_keep_45 : decode cX8_keep 45 = .ok (.bipush 6, 2) := by decide +kernel
theorem dX8_keep_47 : decode cX8_keep 47 = .ok (.iadd, 1) := by decide +kernel
theorem dX8_keep_48 : decode cX8_keep 48 = .ok (.iload_n 3, 1) := by decide +kernel
theorem dX8_keep_49 : decode cX8_keep 49 = .ok (.iadd, 1) := by decide +kernel
theorem dX8_keep_50 : decode cX8_keep 50 = .ok (.aload_n 0, 1) := by decide +kernel
theorem dX8_keep_51 : decode cX8_keep 51 = .ok (.getfield 41, 3) := by decide +kernel
theorem dX8_keep_54 : decode cX8_keep 54 = .ok (.iload_n 3, 1) := by decide +kernel
theorem dX8_keep_55 : decode cX8_keep 55 = .ok (.iaload, 1) := by decide +kernel
theorem dX8_keep_56 : decode cX8_keep 56 = .ok (.iastore, 1) := by decide +kernel
theorem dX8_keep_57 : decode cX8_keep 57 = .ok (.aload_n 0, 1) := by decide +kernel
theorem dX8_keep_58 : decode cX8_keep 58 = .ok (.getfield 110, 3) := by decide +kernel
theorem dX8_keep_61 : decode cX8_keep 61 = .ok (.iload_n 2, 1) := by decide +kernel
theorem dX8_keep_62 : decode cX8_keep 62 = .ok (.bipush 12, 2) := by decide +kernel
theorem dX8_keep_64 : decode cX8_keep 64 = .ok (.iadd, 1) := by decide +kernel
theorem dX8_keep_65 : decode cX8_keep 65 = .ok (.iload_n 3, 1) := by decide +kernel
theorem dX8_keep_66 : decode cX8_keep 66 = .ok (.iadd, 1) := by decide +kernel
theorem dX8_keep_67 : decode cX8_keep 67 = .ok (.aload_n 0, 1) := by decide +kernel
theorem dX8_keep_68 : decode cX8_keep 68 = .ok (.getfield 44, 3) := by decide +kernel
theorem dX8_keep_71 : decode cX8_keep 71 = .ok (.iload_n 3, 1) := by decide +kernel
theorem dX8_keep_72 : decode cX8_keep 72 = .ok (.iaload, 1) := by decide +kernel
theorem dX8_keep_73 : decode cX8_keep 73 = .ok (.iastore, 1) := by decide +kernel
theorem dX8_keep_74 : decode cX8_keep 74 = .ok (.iinc 3 1, 3) := by decide +kernel
theorem dX8_keep_77 : decode cX8_keep 77 = .ok (.goto (-57), 3) := by decide +kernel
theorem dX8_keep_80 : decode cX8_keep 80 = .ok (.aload_n 0, 1) := by decide +kernel
theorem dX8_keep_81 : decode cX8_keep 81 = .ok (.getfield 110, 3) := by decide +kernel
theorem dX8_keep_84 : decode cX8_keep 84 = .ok (.iload_n 2, 1) := by decide +kernel
theorem dX8_keep_85 : decode cX8_keep 85 = .ok (.bipush 18, 2) := by decide +kernel
theorem dX8_keep_87 : decode cX8_keep 87 = .ok (.iadd, 1) := by decide +kernel
theorem dX8_keep_88 : decode cX8_keep 88 = .ok (.aload_n 0, 1) := by decide +kernel
theorem dX8_keep_89 : decode cX8_keep 89 = .ok (.getfield 236, 3) := by decide +kernel
theorem dX8_keep_92 : decode cX8_keep 92 = .ok (.iastore, 1) := by decide +kernel
theorem dX8_keep_93 : decode cX8_keep 93 = .ok (.aload_n 0, 1) := by decide +kernel
theorem dX8_keep_94 : decode cX8_keep 94 = .ok (.getfield 110, 3) := by decide +kernel
theorem dX8_keep_97 : decode cX8_keep 97 = .ok (.iload_n 2, 1) := by decide +kernel
theorem dX8_keep_98 : decode cX8_keep 98 = .ok (.bipush 19, 2) := by decide +kernel
theorem dX8_keep_100 : decode cX8_keep 100 = .ok (.iadd, 1) := by decide +kernel
theorem dX8_keep_101 : decode cX8_keep 101 = .ok (.aload_n 0, 1) := by decide +kernel
theorem dX8_keep_102 : decode cX8_keep 102 = .ok (.getfield 239, 3) := by decide +kernel
theorem dX8_keep_105 : decode cX8_keep 105 = .ok (.iastore, 1) := by decide +kernel
theorem dX8_keep_106 : decode cX8_keep 106 = .ok (.aload_n 0, 1) := by decide +kernel
theorem dX8_keep_107 : decode cX8_keep 107 = .ok (.getfield 110, 3) := by decide +kernel
theorem dX8_keep_110 : decode cX8_keep 110 = .ok (.iload_n 2, 1) := by decide +kernel
theorem dX8_keep_111 : decode cX8_keep 111 = .ok (.bipush 20, 2) := by decide +kernel
theorem dX8_keep_113 : decode cX8_keep 113 = .ok (.iadd, 1) := by decide +kernel
theorem dX8_keep_114 : decode cX8_keep 114 = .ok (.aload_n 0, 1) := by decide +kernel
theorem dX8_keep_115 : decode cX8_keep 115 = .ok (.getfield 248, 3) := by decide +kernel
theorem dX8_keep_118 : decode cX8_keep 118 = .ok (.iastore, 1) := by decide +kernel
theorem dX8_keep_119 : decode cX8_keep 119 = .ok (.aload_n 0, 1) := by decide +kernel
theorem dX8_keep_120 : decode cX8_keep 120 = .ok (.getfield 110, 3) := by decide +kernel
theorem dX8_keep_123 : decode cX8_keep 123 = .ok (.iload_n 2, 1) := by decide +kernel
theorem dX8_keep_124 : decode cX8_keep 124 = .ok (.bipush 21, 2) := by decide +kernel
theorem dX8_keep_126 : decode cX8_keep 126 = .ok (.iadd, 1) := by decide +kernel
theorem dX8_keep_127 : decode cX8_keep 127 = .ok (.aload_n 0, 1) := by decide +kernel
theorem dX8_keep_128 : decode cX8_keep 128 = .ok (.getfield 312, 3) := by decide +kernel
theorem dX8_keep_131 : decode cX8_keep 131 = .ok (.iastore, 1) := by decide +kernel
theorem dX8_keep_132 : decode cX8_keep 132 = .ok (.aload_n 0, 1) := by decide +kernel
theorem dX8_keep_133 : decode cX8_keep 133 = .ok (.getfield 113, 3) := by decide +kernel
theorem dX8_keep_136 : decode cX8_keep 136 = .ok (.iload_n 1, 1) := by decide +kernel
theorem dX8_keep_137 : decode cX8_keep 137 = .ok (.iconst 1, 1) := by decide +kernel
theorem dX8_keep_138 : decode cX8_keep 138 = .ok (.bastore, 1) := by decide +kernel
theorem dX8_keep_139 : decode cX8_keep 139 = .ok (.iconst 1, 1) := by decide +kernel
theorem dX8_keep_140 : decode cX8_keep 140 = .ok (.ireturn, 1) := by decide +kernel
theorem dX8_goBack_0 : decode cX8_goBack 0 = .ok (.iload_n 1, 1) := by decide +kernel
theorem dX8_goBack_1 : decode cX8_goBack 1 = .ok (.i2l, 1) := by decide +kernel
theorem dX8_goBack_2 : decode cX8_goBack 2 = .ok (.lconst 0, 1) := by decide +kernel
theorem dX8_goBack_3 : decode cX8_goBack 3 = .ok (.lconst 1, 1) := by decide +kernel
theorem dX8_goBack_4 : decode cX8_goBack 4 = .ok (.invokestatic 123, 3) := by decide +kernel
theorem dX8_goBack_7 : decode cX8_goBack 7 = .ok (.ifCond .ne 6, 3) := by decide +kernel
theorem dX8_goBack_10 : decode cX8_goBack 10 = .ok (.ldc 255, 2) := by decide +kernel
theorem dX8_goBack_12 : decode cX8_goBack 12 = .ok (.ireturn, 1) := by decide +kernel
theorem dX8_goBack_13 : decode cX8_goBack 13 = .ok (.aload_n 0, 1) := by decide +kernel
theorem dX8_goBack_14 : decode cX8_goBack 14 = .ok (.getfield 113, 3) := by decide +kernel
theorem dX8_goBack_17 : decode cX8_goBack 17 = .ok (.iload_n 1, 1) := by decide +kernel
theorem dX8_goBack_18 : decode cX8_goBack 18 = .ok (.baload, 1) := by decide +kernel
theorem dX8_goBack_19 : decode cX8_goBack 19 = .ok (.ifCond .ne 7, 3) := by decide +kernel
theorem dX8_goBack_22 : decode cX8_goBack 22 = .ok (.ldc_w 300, 3) := by decide +kernel
theorem dX8_goBack_25 : decode cX8_goBack 25 = .ok (.ireturn, 1) := by decide +kernel
theorem dX8_goBack_26 : decode cX8_goBack 26 = .ok (.bipush 25, 2) := by decide +kernel
theorem dX8_goBack_28 : decode cX8_goBack 28 = .ok (.iload_n 1, 1) := by decide +kernel
theorem dX8_goBack_29 : decode cX8_goBack 29 = .ok (.imul, 1) := by decide +kernel
theorem dX8_goBack_30 : decode cX8_goBack 30 = .ok (.istore_n 2, 1) := by decide +kernel
theorem dX8_goBack_31 : decode cX8_goBack 31 = .ok (.iconst 0, 1) := by decide +kernel
theorem dX8_goBack_32 : decode cX8_goBack 32 = .ok (.istore_n 3, 1) := by decide +kernel
theorem dX8_goBack_33 : decode cX8_goBack 33 = .ok (.iload_n 3, 1) := by decide +kernel
theorem dX8_goBack_34 : decode cX8_goBack 34 = .ok (.bipush 6, 2) := by decide +kernel
theorem dX8_goBack_36 : decode cX8_goBack 36 = .ok (.if_icmp .ge 57, 3) := by decide +kernel
theorem dX8_goBack_39 : decode cX8_goBack 39 = .ok (.aload_n 0, 1) := by decide +kernel
theorem dX8_goBack_40 : decode cX8_goBack 40 = .ok (.getfield 38, 3) := by decide +kernel
theorem dX8_goBack_43 : decode cX8_goBack 43 = .ok (.iload_n 3, 1) := by decide +kernel
theorem dX8_goBack_44 : decode cX8_goBack 44 = .ok (.aload_n 0, 1) := by decide +kernel
theorem dX8_goBack_45 : decode cX8_goBack 45 = .ok (.getfield 110, 3) := by decide +kernel
theorem dX8_goBack_48 : decode cX8_goBack 48 = .ok (.iload_n 2, 1) := by decide +kernel
theorem dX8_goBack_49 : decode cX8_goBack 49 = .ok (.iload_n 3, 1) := by decide +kernel
theorem dX8_goBack_50 : decode cX8_goBack 50 = .ok (.iadd, 1) := by decide +kernel
theorem dX8_goBack_51 : decode cX8_goBack 51 = .ok (.iaload, 1) := by decide +kernel
theorem dX8_goBack_52 : decode cX8_goBack 52 = .ok (.iastore, 1) := by decide +kernel
theorem dX8_goBack_53 : decode cX8_goBack 53 = .ok (.aload_n 0, 1) := by decide +kernel
theorem dX8_goBack_54 : decode cX8_goBack 54 = .ok (.getfield 41, 3) := by decide +kernel
theorem dX8_goBack_57 : decode cX8_goBack 57 = .ok (.iload_n 3, 1) := by decide +kernel
theorem dX8_goBack_58 : decode cX8_goBack 58 = .ok (.aload_n 0, 1) := by decide +kernel
theorem dX8_goBack_59 : decode cX8_goBack 59 = .ok (.getfield 110, 3) := by decide +kernel
theorem dX8_goBack_62 : decode cX8_goBack 62 = .ok (.iload_n 2, 1) := by decide +kernel
theorem dX8_goBack_63 : decode cX8_goBack 63 = .ok (.bipush 6, 2) := by decide +kernel
theorem dX8_goBack_65 : decode cX8_goBack 65 = .ok (.iadd, 1) := by decide +kernel
theorem dX8_goBack_66 : decode cX8_goBack 66 = .ok (.iload_n 3, 1) := by decide +kernel
theorem dX8_goBack_67 : decode cX8_goBack 67 = .ok (.iadd, 1) := by decide +kernel
theorem dX8_goBack_68 : decode cX8_goBack 68 = .ok (.iaload, 1) := by decide +kernel
theorem dX8_goBack_69 : decode cX8_goBack 69 = .ok (.iastore, 1) := by decide +kernel
theorem dX8_goBack_70 : decode cX8_goBack 70 = .ok (.aload_n 0, 1) := by decide +kernel
theorem dX8_goBack_71 : decode cX8_goBack 71 = .ok (.getfield 44, 3) := by decide +kernel
theorem dX8_goBack_74 : decode cX8_goBack 74 = .ok (.iload_n 3, 1) := by decide +kernel
theorem dX8_goBack_75 : decode cX8_goBack 75 = .ok (.aload_n 0, 1) := by decide +kernel
theorem dX8_goBack_76 : decode cX8_goBack 76 = .ok (.getfield 110, 3) := by decide +kernel
theorem dX8_goBack_79 : decode cX8_goBack 79 = .ok (.iload_n 2, 1) := by decide +kernel
theorem dX8_goBack_80 : decode cX8_goBack 80 = .ok (.bipush 12, 2) := by decide +kernel
theorem dX8_goBack_82 : decode cX8_goBack 82 = .ok (.iadd, 1) := by decide +kernel
theorem dX8_goBack_83 : decode cX8_goBack 83 = .ok (.iload_n 3, 1) := by decide +kernel
theorem dX8_goBack_84 : decode cX8_goBack 84 = .ok (.iadd, 1) := by decide +kernel
theorem dX8_goBack_85 : decode cX8_goBack 85 = .ok (.iaload, 1) := by decide +kernel
theorem dX8_goBack_86 : decode cX8_goBack 86 = .ok (.iastore, 1) := by decide +kernel
theorem dX8_goBack_87 : decode cX8_goBack 87 = .ok (.iinc 3 1, 3) := by decide +kernel
theorem dX8_goBack_90 : decode cX8_goBack 90 = .ok (.goto (-57), 3) := by decide +kernel
theorem dX8_goBack_93 : decode cX8_goBack 93 = .ok (.aload_n 0, 1) := by decide +kernel
theorem dX8_goBack_94 : decode cX8_goBack 94 = .ok (.aload_n 0, 1) := by decide +kernel
theorem dX8_goBack_95 : decode cX8_goBack 95 = .ok (.getfield 110, 3) := by decide +kernel
theorem dX8_goBack_98 : decode cX8_goBack 98 = .ok (.iload_n 2, 1) := by decide +kernel
theorem dX8_goBack_99 : decode cX8_goBack 99 = .ok (.bipush 18, 2) := by decide +kernel
theorem dX8_goBack_101 : decode cX8_goBack 101 = .ok (.iadd, 1) := by decide +kernel
theorem dX8_goBack_102 : decode cX8_goBack 102 = .ok (.iaload, 1) := by decide +kernel
theorem dX8_goBack_103 : decode cX8_goBack 103 = .ok (.putfield 236, 3) := by decide +kernel
theorem dX8_goBack_106 : decode cX8_goBack 106 = .ok (.aload_n 0, 1) := by decide +kernel
theorem dX8_goBack_107 : decode cX8_goBack 107 = .ok (.aload_n 0, 1) := by decide +kernel
theorem dX8_goBack_108 : decode cX8_goBack 108 = .ok (.getfield 110, 3) := by decide +kernel
theorem dX8_goBack_111 : decode cX8_goBack 111 = .ok (.iload_n 2, 1) := by decide +kernel
theorem dX8_goBack_112 : decode cX8_goBack 112 = .ok (.bipush 19, 2) := by decide +kernel
theorem dX8_goBack_114 : decode cX8_goBack 114 = .ok (.iadd, 1) := by decide +kernel
theorem dX8_goBack_115 : decode cX8_goBack 115 = .ok (.iaload, 1) := by decide +kernel
theorem dX8_goBack_116 : decode cX8_goBack 116 = .ok (.putfield 239, 3) := by decide +kernel
theorem dX8_goBack_119 : decode cX8_goBack 119 = .ok (.aload_n 0, 1) := by decide +kernel
theorem dX8_goBack_120 : decode cX8_goBack 120 = .ok (.aload_n 0, 1) := by decide +kernel
theorem dX8_goBack_121 : decode cX8_goBack 121 = .ok (.getfield 110, 3) := by decide +kernel
theorem dX8_goBack_124 : decode cX8_goBack 124 = .ok (.iload_n 2, 1) := by decide +kernel
theorem dX8_goBack_125 : decode cX8_goBack 125 = .ok (.bipush 20, 2) := by decide +kernel
theorem dX8_goBack_127 : decode cX8_goBack 127 = .ok (.iadd, 1) := by decide +kernel
theorem dX8_goBack_128 : decode cX8_goBack 128 = .ok (.iaload, 1) := by decide +kernel
theorem dX8_goBack_129 : decode cX8_goBack 129 = .ok (.putfield 248, 3) := by decide +kernel
theorem dX8_goBack_132 : decode cX8_goBack 132 = .ok (.aload_n 0, 1) := by decide +kernel
theorem dX8_goBack_133 : decode cX8_goBack 133 = .ok (.aload_n 0, 1) := by decide +kernel
theorem dX8_goBack_134 : decode cX8_goBack 134 = .ok (.getfield 110, 3) := by decide +kernel
theorem dX8_goBack_137 : decode cX8_goBack 137 = .ok (.iload_n 2, 1) := by decide +kernel
theorem dX8_goBack_138 : decode cX8_goBack 138 = .ok (.bipush 21, 2) := by decide +kernel
theorem dX8_goBack_140 : decode cX8_goBack 140 = .ok (.iadd, 1) := by decide +kernel
theorem dX8_goBack_141 : decode cX8_goBack 141 = .ok (.iaload, 1) := by decide +kernel
theorem dX8_goBack_142 : decode cX8_goBack 142 = .ok (.putfield 312, 3) := by decide +kernel
theorem dX8_goBack_145 : decode cX8_goBack 145 = .ok (.iconst 1, 1) := by decide +kernel
theorem dX8_goBack_146 : decode cX8_goBack 146 = .ok (.ireturn, 1) := by decide +kernel
end
section
theorem dL_law_0 : decode cL_law 0 = .ok (.new 7, 3) := by decide +kernel
theorem dL_law_3 : decode cL_law 3 = .ok (.dup, 1) := by decide +kernel
theorem dL_law_4 : decode cL_law 4 = .ok (.invokespecial 9, 3) := by decide +kernel
theorem dL_law_7 : decode cL_law 7 = .ok (.astore_n 1, 1) := by decide +kernel
theorem dL_law_8 : decode cL_law 8 = .ok (.new 10, 3) := by decide +kernel
theorem dL_law_11 : decode cL_law 11 = .ok (.dup, 1) := by decide +kernel
theorem dL_law_12 : decode cL_law 12 = .ok (.invokespecial 12, 3) := by decide +kernel
theorem dL_law_15 : decode cL_law 15 = .ok (.astore_n 2, 1) := by decide +kernel
theorem dL_law_16 : decode cL_law 16 = .ok (.iconst 0, 1) := by decide +kernel
theorem dL_law_17 : decode cL_law 17 = .ok (.istore_n 3, 1) := by decide +kernel
theorem dL_law_18 : decode cL_law 18 = .ok (.iload_n 3, 1) := by decide +kernel
theorem dL_law_19 : decode cL_law 19 = .ok (.aload_n 0, 1) := by decide +kernel
theorem dL_law_20 : decode cL_law 20 = .ok (.arraylength, 1) := by decide +kernel
theorem dL_law_21 : decode cL_law 21 = .ok (.iconst 5, 1) := by decide +kernel
theorem dL_law_22 : decode cL_law 22 = .ok (.isub, 1) := by decide +kernel
theorem dL_law_23 : decode cL_law 23 = .ok (.if_icmp .gt 1034, 3) := by decide +kernel
theorem dL_law_26 : decode cL_law 26 = .ok (.aload_n 0, 1) := by decide +kernel
theorem dL_law_27 : decode cL_law 27 = .ok (.iload_n 3, 1) := by decide +kernel
theorem dL_law_28 : decode cL_law 28 = .ok (.iaload, 1) := by decide +kernel
theorem dL_law_29 : decode cL_law 29 = .ok (.bipush 31, 2) := by decide +kernel
theorem dL_law_31 : decode cL_law 31 = .ok (.iand, 1) := by decide +kernel
theorem dL_law_32 : decode cL_law 32 = .ok (.tableswitch 1019 0 28 #[132, 195, 208, 221, 244, 277, 310, 343, 376, 419, 452, 485, 508, 531, 554, 577, 620, 653, 706, 739, 772, 805, 858, 881, 924, 937, 950, 973, 996], 132) := by decide +kernel
theorem dL_law_164 : decode cL_law 164 = .ok (.aload_n 1, 1) := by decide +kernel
theorem dL_law_165 : decode cL_law 165 = .ok (.aload_n 0, 1) := by decide +kernel
theorem dL_law_166 : decode cL_law 166 = .ok (.iload_n 3, 1) := by decide +kernel
theorem dL_law_167 : decode cL_law 167 = .ok (.iconst 1, 1) := by decide +kernel
theorem dL_law_168 : decode cL_law 168 = .ok (.iadd, 1) := by decide +kernel
theorem dL_law_169 : decode cL_law 169 = .ok (.iaload, 1) := by decide +kernel
theorem dL_law_170 : decode cL_law 170 = .ok (.aload_n 0, 1) := by decide +kernel
theorem dL_law_171 : decode cL_law 171 = .ok (.iload_n 3, 1) := by decide +kernel
theorem dL_law_172 : decode cL_law 172 = .ok (.iconst 2, 1) := by decide +kernel
theorem dL_law_173 : decode cL_law 173 = .ok (.iadd, 1) := by decide +kernel
theorem dL_law_174 : decode cL_law 174 = .ok (.iaload, 1) := by decide +kernel
theorem dL_law_175 : decode cL_law 175 = .ok (.i2l, 1) := by decide +kernel
theorem dL_law_176 : decode cL_law 176 = .ok (.bipush 32, 2) := by decide +kernel
theorem dL_law_178 : decode cL_law 178 = .ok (.lshl, 1) := by decide +kernel
theorem dL_law_179 : decode cL_law 179 = .ok (.aload_n 0, 1) := by decide +kernel
theorem dL_law_180 : decode cL_law 180 = .ok (.iload_n 3, 1) := by decide +kernel
theorem dL_law_181 : decode cL_law 181 = .ok (.iconst 3, 1) := by decide +kernel
theorem dL_law_182 : decode cL_law 182 = .ok (.iadd, 1) := by decide +kernel
theorem dL_law_183 : decode cL_law 183 = .ok (.iaload, 1) := by decide +kernel
theorem dL_law_184 : decode cL_law 184 = .ok (.i2l, 1) := by decide +kernel
theorem dL_law_185 : decode cL_law 185 = .ok (.ldc2_w 13, 3) := by decide +kernel
theorem dL_law_188 : decode cL_law 188 = .ok (.land, 1) := by decide +kernel
theorem dL_law_189 : decode cL_law 189 = .ok (.lor, 1) := by decide +kernel
theorem dL_law_190 : decode cL_law 190 = .ok (.invokevirtual 15, 3) := by decide +kernel
theorem dL_law_193 : decode cL_law 193 = .ok (.aload_n 2, 1) := by decide +kernel
theorem dL_law_194 : decode cL_law 194 = .ok (.aload_n 0, 1) := by decide +kernel
theorem dL_law_195 : decode cL_law 195 = .ok (.iload_n 3, 1) := by decide +kernel
theorem dL_law_196 : decode cL_law 196 = .ok (.iconst 1, 1) := by decide +kernel
theorem dL_law_197 : decode cL_law 197 = .ok (.iadd, 1) := by decide +kernel
theorem dL_law_198 : decode cL_law 198 = .ok (.iaload, 1) := by decide +kernel
theorem dL_law_199 : decode cL_law 199 = .ok (.aload_n 0, 1) := by decide +kernel
theorem dL_law_200 : decode cL_law 200 = .ok (.iload_n 3, 1) := by decide +kernel
theorem dL_law_201 : decode cL_law 201 = .ok (.iconst 2, 1) := by decide +kernel
theorem dL_law_202 : decode cL_law 202 = .ok (.iadd, 1) := by decide +kernel
theorem dL_law_203 : decode cL_law 203 = .ok (.iaload, 1) := by decide +kernel
theorem dL_law_204 : decode cL_law 204 = .ok (.i2l, 1) := by decide +kernel
theorem dL_law_205 : decode cL_law 205 = .ok (.bipush 32, 2) := by decide +kernel
theorem dL_law_207 : decode cL_law 207 = .ok (.lshl, 1) := by decide +kernel
theorem dL_law_208 : decode cL_law 208 = .ok (.aload_n 0, 1) := by decide +kernel
theorem dL_law_209 : decode cL_law 209 = .ok (.iload_n 3, 1) := by decide +kernel
theorem dL_law_210 : decode cL_law 210 = .ok (.iconst 3, 1) := by decide +kernel
theorem dL_law_211 : decode cL_law 211 = .ok (.iadd, 1) := by decide +kernel
theorem dL_law_212 : decode cL_law 212 = .ok (.iaload, 1) := by decide +kernel
theorem dL_law_213 : decode cL_law 213 = .ok (.i2l, 1) := by decide +kernel
theorem dL_law_214 : decode cL_law 214 = .ok (.ldc2_w 13, 3) := by decide +kernel
theorem dL_law_217 : decode cL_law 217 = .ok (.land, 1) := by decide +kernel
theorem dL_law_218 : decode cL_law 218 = .ok (.lor, 1) := by decide +kernel
theorem dL_law_219 : decode cL_law 219 = .ok (.invokevirtual 19, 3) := by decide +kernel
theorem dL_law_222 : decode cL_law 222 = .ok (.if_icmp .eq 829, 3) := by decide +kernel
theorem dL_law_225 : decode cL_law 225 = .ok (.iconst 0, 1) := by decide +kernel
theorem dL_law_226 : decode cL_law 226 = .ok (.ireturn, 1) := by decide +kernel
theorem dL_law_227 : decode cL_law 227 = .ok (.aload_n 1, 1) := by decide +kernel
theorem dL_law_228 : decode cL_law 228 = .ok (.invokevirtual 20, 3) := by decide +kernel
theorem dL_law_231 : decode cL_law 231 = .ok (.aload_n 2, 1) := by decide +kernel
theorem dL_law_232 : decode cL_law 232 = .ok (.invokevirtual 24, 3) := by decide +kernel
theorem dL_law_235 : decode cL_law 235 = .ok (.if_icmp .eq 816, 3) := by decide +kernel
theorem dL_law_238 : decode cL_law 238 = .ok (.iconst 0, 1) := by decide +kernel
theorem dL_law_239 : decode cL_law 239 = .ok (.ireturn, 1) := by decide +kernel
theorem dL_law_240 : decode cL_law 240 = .ok (.aload_n 1, 1) := by decide +kernel
theorem dL_law_241 : decode cL_law 241 = .ok (.invokevirtual 25, 3) := by decide +kernel
theorem dL_law_244 : decode cL_law 244 = .ok (.aload_n 2, 1) := by decide +kernel
theorem dL_law_245 : decode cL_law 245 = .ok (.invokevirtual 28, 3) := by decide +kernel
theorem dL_law_248 : decode cL_law 248 = .ok (.if_icmp .eq 803, 3) := by decide +kernel
theorem dL_law_251 : decode cL_law 251 = .ok (.iconst 0, 1) := by decide +kernel
theorem dL_law_252 : decode cL_law 252 = .ok (.ireturn, 1) := by decide +kernel
theorem dL_law_253 : decode cL_law 253 = .ok (.aload_n 1, 1) := by decide +kernel
theorem dL_law_254 : decode cL_law 254 = .ok (.aload_n 0, 1) := by decide +kernel
theorem dL_law_255 : decode cL_law 255 = .ok (.iload_n 3, 1) := by decide +kernel
theorem dL_law_256 : decode cL_law 256 = .ok (.iconst 1, 1) := by decide +kernel
theorem dL_law_257 : decode cL_law 257 = .ok (.iadd, 1) := by decide +kernel
theorem dL_law_258 : decode cL_law 258 = .ok (.iaload, 1) := by decide +kernel
theorem dL_law_259 : decode cL_law 259 = .ok (.invokevirtual 29, 3) := by decide +kernel
theorem dL_law_262 : decode cL_law 262 = .ok (.aload_n 2, 1) := by decide +kernel
theorem dL_law_263 : decode cL_law 263 = .ok (.aload_n 0, 1) := by decide +kernel
theorem dL_law_264 : decode cL_law 264 = .ok (.iload_n 3, 1) := by decide +kernel
theorem dL_law_265 : decode cL_law 265 = .ok (.iconst 1, 1) := by decide +kernel
theorem dL_law_266 : decode cL_law 266 = .ok (.iadd, 1) := by decide +kernel
theorem dL_law_267 : decode cL_law 267 = .ok (.iaload, 1) := by decide +kernel
theorem dL_law_268 : decode cL_law 268 = .ok (.invokevirtual 33, 3) := by decide +kernel
theorem dL_law_271 : decode cL_law 271 = .ok (.if_icmp .eq 780, 3) := by decide +kernel
theorem dL_law_274 : decode cL_law 274 = .ok (.iconst 0, 1) := by decide +kernel
theorem dL_law_275 : decode cL_law 275 = .ok (.ireturn, 1) := by decide +kernel
theorem dL_law_276 : decode cL_law 276 = .ok (.aload_n 1, 1) := by decide +kernel
theorem dL_law_277 : decode cL_law 277 = .ok (.aload_n 0, 1) := by decide +kernel
theorem dL_law_278 : decode cL_law 278 = .ok (.iload_n 3, 1) := by decide +kernel
theorem dL_law_279 : decode cL_law 279 = .ok (.iconst 1, 1) := by decide +kernel
theorem dL_law_280 : decode cL_law 280 = .ok (.iadd, 1) := by decide +kernel
theorem dL_law_281 : decode cL_law 281 = .ok (.iaload, 1) := by decide +kernel
theorem dL_law_282 : decode cL_law 282 = .ok (.aload_n 0, 1) := by decide +kernel
theorem dL_law_283 : decode cL_law 283 = .ok (.iload_n 3, 1) := by decide +kernel
theorem dL_law_284 : decode cL_law 284 = .ok (.iconst 2, 1) := by decide +kernel
theorem dL_law_285 : decode cL_law 285 = .ok (.iadd, 1) := by decide +kernel
theorem dL_law_286 : decode cL_law 286 = .ok (.iaload, 1) := by decide +kernel
theorem dL_law_287 : decode cL_law 287 = .ok (.invokevirtual 34, 3) := by decide +kernel
theorem dL_law_290 : decode cL_law 290 = .ok (.aload_n 2, 1) := by decide +kernel
theorem dL_law_291 : decode cL_law 291 = .ok (.aload_n 0, 1) := by decide +kernel
theorem dL_law_292 : decode cL_law 292 = .ok (.iload_n 3, 1) := by decide +kernel
theorem dL_law_293 : decode cL_law 293 = .ok (.iconst 1, 1) := by decide +kernel
theorem dL_law_294 : decode cL_law 294 = .ok (.iadd, 1) := by decide +kernel
theorem dL_law_295 : decode cL_law 295 = .ok (.iaload, 1) := by decide +kernel
theorem dL_law_296 : decode cL_law 296 = .ok (.aload_n 0, 1) := by decide +kernel
theorem dL_law_297 : decode cL_law 297 = .ok (.iload_n 3, 1) := by decide +kernel
theorem dL_law_298 : decode cL_law 298 = .ok (.iconst 2, 1) := by decide +kernel
theorem dL_law_299 : decode cL_law 299 = .ok (.iadd, 1) := by decide +kernel
theorem dL_law_300 : decode cL_law 300 = .ok (.iaload, 1) := by decide +kernel
theorem dL_law_301 : decode cL_law 301 = .ok (.invokevirtual 38, 3) := by decide +kernel
theorem dL_law_304 : decode cL_law 304 = .ok (.if_icmp .eq 747, 3) := by decide +kernel
theorem dL_law_307 : decode cL_law 307 = .ok (.iconst 0, 1) := by decide +kernel
theorem dL_law_308 : decode cL_law 308 = .ok (.ireturn, 1) := by decide +kernel
theorem dL_law_309 : decode cL_law 309 = .ok (.aload_n 1, 1) := by decide +kernel
theorem dL_law_310 : decode cL_law 310 = .ok (.aload_n 0, 1) := by decide +kernel
theorem dL_law_311 : decode cL_law 311 = .ok (.iload_n 3, 1) := by decide +kernel
theorem dL_law_312 : decode cL_law 312 = .ok (.iconst 1, 1) := by decide +kernel
theorem dL_law_313 : decode cL_law 313 = .ok (.iadd, 1) := by decide +kernel
theorem dL_law_314 : decode cL_law 314 = .ok (.iaload, 1) := by decide +kernel
theorem dL_law_315 : decode cL_law 315 = .ok (.aload_n 0, 1) := by decide +kernel
theorem dL_law_316 : decode cL_law 316 = .ok (.iload_n 3, 1) := by decide +kernel
theorem dL_law_317 : decode cL_law 317 = .ok (.iconst 2, 1) := by decide +kernel
theorem dL_law_318 : decode cL_law 318 = .ok (.iadd, 1) := by decide +kernel
theorem dL_law_319 : decode cL_law 319 = .ok (.iaload, 1) := by decide +kernel
theorem dL_law_320 : decode cL_law 320 = .ok (.invokevirtual 39, 3) := by decide +kernel
theorem dL_law_323 : decode cL_law 323 = .ok (.aload_n 2, 1) := by decide +kernel
theorem dL_law_324 : decode cL_law 324 = .ok (.aload_n 0, 1) := by decide +kernel
theorem dL_law_325 : decode cL_law 325 = .ok (.iload_n 3, 1) := by decide +kernel
theorem dL_law_326 : decode cL_law 326 = .ok (.iconst 1, 1) := by decide +kernel
theorem dL_law_327 : decode cL_law 327 = .ok (.iadd, 1) := by decide +kernel
theorem dL_law_328 : decode cL_law 328 = .ok (.iaload, 1) := by decide +kernel
theorem dL_law_329 : decode cL_law 329 = .ok (.aload_n 0, 1) := by decide +kernel
theorem dL_law_330 : decode cL_law 330 = .ok (.iload_n 3, 1) := by decide +kernel
theorem dL_law_331 : decode cL_law 331 = .ok (.iconst 2, 1) := by decide +kernel
theorem dL_law_332 : decode cL_law 332 = .ok (.iadd, 1) := by decide +kernel
theorem dL_law_333 : decode cL_law 333 = .ok (.iaload, 1) := by decide +kernel
theorem dL_law_334 : decode cL_law 334 = .ok (.invokevirtual 42, 3) := by decide +kernel
theorem dL_law_337 : decode cL_law 337 = .ok (.if_icmp .eq 714, 3) := by decide +kernel
theorem dL_law_340 : decode cL_law 340 = .ok (.iconst 0, 1) := by decide +kernel
theorem dL_law_341 : decode cL_law 341 = .ok (.ireturn, 1) := by decide +kernel
theorem dL_law_342 : decode cL_law 342 = .ok (.aload_n 1, 1) := by decide +kernel
theorem dL_law_343 : decode cL_law 343 = .ok (.aload_n 0, 1) := by decide +kernel
theorem dL_law_344 : decode cL_law 344 = .ok (.iload_n 3, 1) := by decide +kernel
theorem dL_law_345 : decode cL_law 345 = .ok (.iconst 1, 1) := by decide +kernel
theorem dL_law_346 : decode cL_law 346 = .ok (.iadd, 1) := by decide +kernel
theorem dL_law_347 : decode cL_law 347 = .ok (.iaload, 1) := by decide +kernel
theorem dL_law_348 : decode cL_law 348 = .ok (.aload_n 0, 1) := by decide +kernel
theorem dL_law_349 : decode cL_law 349 = .ok (.iload_n 3, 1) := by decide +kernel
theorem dL_law_350 : decode cL_law 350 = .ok (.iconst 2, 1) := by decide +kernel
theorem dL_law_351 : decode cL_law 351 = .ok (.iadd, 1) := by decide +kernel
theorem dL_law_352 : decode cL_law 352 = .ok (.iaload, 1) := by decide +kernel
theorem dL_law_353 : decode cL_law 353 = .ok (.invokevirtual 43, 3) := by decide +kernel
theorem dL_law_356 : decode cL_law 356 = .ok (.aload_n 2, 1) := by decide +kernel
theorem dL_law_357 : decode cL_law 357 = .ok (.aload_n 0, 1) := by decide +kernel
theorem dL_law_358 : decode cL_law 358 = .ok (.iload_n 3, 1) := by decide +kernel
theorem dL_law_359 : decode cL_law 359 = .ok (.iconst 1, 1) := by decide +kernel
theorem dL_law_360 : decode cL_law 360 = .ok (.iadd, 1) := by decide +kernel
theorem dL_law_361 : decode cL_law 361 = .ok (.iaload, 1) := by decide +kernel
theorem dL_law_362 : decode cL_law 362 = .ok (.aload_n 0, 1) := by decide +kernel
theorem dL_law_363 : decode cL_law 363 = .ok (.iload_n 3, 1) := by decide +kernel
theorem dL_law_364 : decode cL_law 364 = .ok (.iconst 2, 1) := by decide +kernel
theorem dL_law_365 : decode cL_law 365 = .ok (.iadd, 1) := by decide +kernel
theorem dL_law_366 : decode cL_law 366 = .ok (.iaload, 1) := by decide +kernel
theorem dL_law_367 : decode cL_law 367 = .ok (.invokevirtual 46, 3) := by decide +kernel
theorem dL_law_370 : decode cL_law 370 = .ok (.if_icmp .eq 681, 3) := by decide +kernel
theorem dL_law_373 : decode cL_law 373 = .ok (.iconst 0, 1) := by decide +kernel
theorem dL_law_374 : decode cL_law 374 = .ok (.ireturn, 1) := by decide +kernel
theorem dL_law_375 : decode cL_law 375 = .ok (.aload_n 1, 1) := by decide +kernel
theorem dL_law_376 : decode cL_law 376 = .ok (.aload_n 0, 1) := by decide +kernel
theorem dL_law_377 : decode cL_law 377 = .ok (.iload_n 3, 1) := by decide +kernel
theorem dL_law_378 : decode cL_law 378 = .ok (.iconst 1, 1) := by decide +kernel
theorem dL_law_379 : decode cL_law 379 = .ok (.iadd, 1) := by decide +kernel
theorem dL_law_380 : decode cL_law 380 = .ok (.iaload, 1) := by decide +kernel
theorem dL_law_381 : decode cL_law 381 = .ok (.aload_n 0, 1) := by decide +kernel
theorem dL_law_382 : decode cL_law 382 = .ok (.iload_n 3, 1) := by decide +kernel
theorem dL_law_383 : decode cL_law 383 = .ok (.iconst 2, 1) := by decide +kernel
theorem dL_law_384 : decode cL_law 384 = .ok (.iadd, 1) := by decide +kernel
theorem dL_law_385 : decode cL_law 385 = .ok (.iaload, 1) := by decide +kernel
theorem dL_law_386 : decode cL_law 386 = .ok (.invokevirtual 47, 3) := by decide +kernel
theorem dL_law_389 : decode cL_law 389 = .ok (.aload_n 2, 1) := by decide +kernel
theorem dL_law_390 : decode cL_law 390 = .ok (.aload_n 0, 1) := by decide +kernel
theorem dL_law_391 : decode cL_law 391 = .ok (.iload_n 3, 1) := by decide +kernel
theorem dL_law_392 : decode cL_law 392 = .ok (.iconst 1, 1) := by decide +kernel
theorem dL_law_393 : decode cL_law 393 = .ok (.iadd, 1) := by decide +kernel
theorem dL_law_394 : decode cL_law 394 = .ok (.iaload, 1) := by decide +kernel
theorem dL_law_395 : decode cL_law 395 = .ok (.aload_n 0, 1) := by decide +kernel
theorem dL_law_396 : decode cL_law 396 = .ok (.iload_n 3, 1) := by decide +kernel
theorem dL_law_397 : decode cL_law 397 = .ok (.iconst 2, 1) := by decide +kernel
theorem dL_law_398 : decode cL_law 398 = .ok (.iadd, 1) := by decide +kernel
theorem dL_law_399 : decode cL_law 399 = .ok (.iaload, 1) := by decide +kernel
theorem dL_law_400 : decode cL_law 400 = .ok (.invokevirtual 50, 3) := by decide +kernel
theorem dL_law_403 : decode cL_law 403 = .ok (.if_icmp .eq 648, 3) := by decide +kernel
theorem dL_law_406 : decode cL_law 406 = .ok (.iconst 0, 1) := by decide +kernel
theorem dL_law_407 : decode cL_law 407 = .ok (.ireturn, 1) := by decide +kernel
theorem dL_law_408 : decode cL_law 408 = .ok (.aload_n 1, 1) := by decide +kernel
theorem dL_law_409 : decode cL_law 409 = .ok (.aload_n 0, 1) := by decide +kernel
theorem dL_law_410 : decode cL_law 410 = .ok (.iload_n 3, 1) := by decide +kernel
theorem dL_law_411 : decode cL_law 411 = .ok (.iconst 1, 1) := by decide +kernel
theorem dL_law_412 : decode cL_law 412 = .ok (.iadd, 1) := by decide +kernel
theorem dL_law_413 : decode cL_law 413 = .ok (.iaload, 1) := by decide +kernel
theorem dL_law_414 : decode cL_law 414 = .ok (.aload_n 0, 1) := by decide +kernel
theorem dL_law_415 : decode cL_law 415 = .ok (.iload_n 3, 1) := by decide +kernel
theorem dL_law_416 : decode cL_law 416 = .ok (.iconst 2, 1) := by decide +kernel
theorem dL_law_417 : decode cL_law 417 = .ok (.iadd, 1) := by decide +kernel
theorem dL_law_418 : decode cL_law 418 = .ok (.iaload, 1) := by decide +kernel
theorem dL_law_419 : decode cL_law 419 = .ok (.aload_n 0, 1) := by decide +kernel
theorem dL_law_420 : decode cL_law 420 = .ok (.iload_n 3, 1) := by decide +kernel
theorem dL_law_421 : decode cL_law 421 = .ok (.iconst 3, 1) := by decide +kernel
theorem dL_law_422 : decode cL_law 422 = .ok (.iadd, 1) := by decide +kernel
theorem dL_law_423 : decode cL_law 423 = .ok (.iaload, 1) := by decide +kernel
theorem dL_law_424 : decode cL_law 424 = .ok (.invokevirtual 51, 3) := by decide +kernel
theorem dL_law_427 : decode cL_law 427 = .ok (.aload_n 2, 1) := by decide +kernel
theorem dL_law_428 : decode cL_law 428 = .ok (.aload_n 0, 1) := by decide +kernel
theorem dL_law_429 : decode cL_law 429 = .ok (.iload_n 3, 1) := by decide +kernel
theorem dL_law_430 : decode cL_law 430 = .ok (.iconst 1, 1) := by decide +kernel
theorem dL_law_431 : decode cL_law 431 = .ok (.iadd, 1) := by decide +kernel
theorem dL_law_432 : decode cL_law 432 = .ok (.iaload, 1) := by decide +kernel
theorem dL_law_433 : decode cL_law 433 = .ok (.aload_n 0, 1) := by decide +kernel
theorem dL_law_434 : decode cL_law 434 = .ok (.iload_n 3, 1) := by decide +kernel
theorem dL_law_435 : decode cL_law 435 = .ok (.iconst 2, 1) := by decide +kernel
theorem dL_law_436 : decode cL_law 436 = .ok (.iadd, 1) := by decide +kernel
theorem dL_law_437 : decode cL_law 437 = .ok (.iaload, 1) := by decide +kernel
theorem dL_law_438 : decode cL_law 438 = .ok (.aload_n 0, 1) := by decide +kernel
theorem dL_law_439 : decode cL_law 439 = .ok (.iload_n 3, 1) := by decide +kernel
theorem dL_law_440 : decode cL_law 440 = .ok (.iconst 3, 1) := by decide +kernel
theorem dL_law_441 : decode cL_law 441 = .ok (.iadd, 1) := by decide +kernel
theorem dL_law_442 : decode cL_law 442 = .ok (.iaload, 1) := by decide +kernel
theorem dL_law_443 : decode cL_law 443 = .ok (.invokevirtual 55, 3) := by decide +kernel
theorem dL_law_446 : decode cL_law 446 = .ok (.if_icmp .eq 605, 3) := by decide +kernel
theorem dL_law_449 : decode cL_law 449 = .ok (.iconst 0, 1) := by decide +kernel
theorem dL_law_450 : decode cL_law 450 = .ok (.ireturn, 1) := by decide +kernel
theorem dL_law_451 : decode cL_law 451 = .ok (.aload_n 1, 1) := by decide +kernel
theorem dL_law_452 : decode cL_law 452 = .ok (.aload_n 0, 1) := by decide +kernel
theorem dL_law_453 : decode cL_law 453 = .ok (.iload_n 3, 1) := by decide +kernel
theorem dL_law_454 : decode cL_law 454 = .ok (.iconst 1, 1) := by decide +kernel
theorem dL_law_455 : decode cL_law 455 = .ok (.iadd, 1) := by decide +kernel
theorem dL_law_456 : decode cL_law 456 = .ok (.iaload, 1) := by decide +kernel
theorem dL_law_457 : decode cL_law 457 = .ok (.aload_n 0, 1) := by decide +kernel
theorem dL_law_458 : decode cL_law 458 = .ok (.iload_n 3, 1) := by decide +kernel
theorem dL_law_459 : decode cL_law 459 = .ok (.iconst 2, 1) := by decide +kernel
theorem dL_law_460 : decode cL_law 460 = .ok (.iadd, 1) := by decide +kernel
theorem dL_law_461 : decode cL_law 461 = .ok (.iaload, 1) := by decide +kernel
theorem dL_law_462 : decode cL_law 462 = .ok (.invokevirtual 56, 3) := by decide +kernel
theorem dL_law_465 : decode cL_law 465 = .ok (.aload_n 2, 1) := by decide +kernel
theorem dL_law_466 : decode cL_law 466 = .ok (.aload_n 0, 1) := by decide +kernel
theorem dL_law_467 : decode cL_law 467 = .ok (.iload_n 3, 1) := by decide +kernel
theorem dL_law_468 : decode cL_law 468 = .ok (.iconst 1, 1) := by decide +kernel
theorem dL_law_469 : decode cL_law 469 = .ok (.iadd, 1) := by decide +kernel
theorem dL_law_470 : decode cL_law 470 = .ok (.iaload, 1) := by decide +kernel
theorem dL_law_471 : decode cL_law 471 = .ok (.aload_n 0, 1) := by decide +kernel
theorem dL_law_472 : decode cL_law 472 = .ok (.iload_n 3, 1) := by decide +kernel
theorem dL_law_473 : decode cL_law 473 = .ok (.iconst 2, 1) := by decide +kernel
theorem dL_law_474 : decode cL_law 474 = .ok (.iadd, 1) := by decide +kernel
theorem dL_law_475 : decode cL_law 475 = .ok (.iaload, 1) := by decide +kernel
theorem dL_law_476 : decode cL_law 476 = .ok (.invokevirtual 59, 3) := by decide +kernel
theorem dL_law_479 : decode cL_law 479 = .ok (.if_icmp .eq 572, 3) := by decide +kernel
theorem dL_law_482 : decode cL_law 482 = .ok (.iconst 0, 1) := by decide +kernel
theorem dL_law_483 : decode cL_law 483 = .ok (.ireturn, 1) := by decide +kernel
theorem dL_law_484 : decode cL_law 484 = .ok (.aload_n 1, 1) := by decide +kernel
theorem dL_law_485 : decode cL_law 485 = .ok (.aload_n 0, 1) := by decide +kernel
theorem dL_law_486 : decode cL_law 486 = .ok (.iload_n 3, 1) := by decide +kernel
theorem dL_law_487 : decode cL_law 487 = .ok (.iconst 1, 1) := by decide +kernel
theorem dL_law_488 : decode cL_law 488 = .ok (.iadd, 1) := by decide +kernel
theorem dL_law_489 : decode cL_law 489 = .ok (.iaload, 1) := by decide +kernel
theorem dL_law_490 : decode cL_law 490 = .ok (.aload_n 0, 1) := by decide +kernel
theorem dL_law_491 : decode cL_law 491 = .ok (.iload_n 3, 1) := by decide +kernel
theorem dL_law_492 : decode cL_law 492 = .ok (.iconst 2, 1) := by decide +kernel
theorem dL_law_493 : decode cL_law 493 = .ok (.iadd, 1) := by decide +kernel
theorem dL_law_494 : decode cL_law 494 = .ok (.iaload, 1) := by decide +kernel
theorem dL_law_495 : decode cL_law 495 = .ok (.invokevirtual 60, 3) := by decide +kernel
theorem dL_law_498 : decode cL_law 498 = .ok (.aload_n 2, 1) := by decide +kernel
theorem dL_law_499 : decode cL_law 499 = .ok (.aload_n 0, 1) := by decide +kernel
theorem dL_law_500 : decode cL_law 500 = .ok (.iload_n 3, 1) := by decide +kernel
theorem dL_law_501 : decode cL_law 501 = .ok (.iconst 1, 1) := by decide +kernel
theorem dL_law_502 : decode cL_law 502 = .ok (.iadd, 1) := by decide +kernel
theorem dL_law_503 : decode cL_law 503 = .ok (.iaload, 1) := by decide +kernel
theorem dL_law_504 : decode cL_law 504 = .ok (.aload_n 0, 1) := by decide +kernel
theorem dL_law_505 : decode cL_law 505 = .ok (.iload_n 3, 1) := by decide +kernel
theorem dL_law_506 : decode cL_law 506 = .ok (.iconst 2, 1) := by decide +kernel
theorem dL_law_507 : decode cL_law 507 = .ok (.iadd, 1) := by decide +kernel
theorem dL_law_508 : decode cL_law 508 = .ok (.iaload, 1) := by decide +kernel
theorem dL_law_509 : decode cL_law 509 = .ok (.invokevirtual 63, 3) := by decide +kernel
theorem dL_law_512 : decode cL_law 512 = .ok (.if_icmp .eq 539, 3) := by decide +kernel
theorem dL_law_515 : decode cL_law 515 = .ok (.iconst 0, 1) := by decide +kernel
theorem dL_law_516 : decode cL_law 516 = .ok (.ireturn, 1) := by decide +kernel
theorem dL_law_517 : decode cL_law 517 = .ok (.aload_n 1, 1) := by decide +kernel
theorem dL_law_518 : decode cL_law 518 = .ok (.aload_n 0, 1) := by decide +kernel
theorem dL_law_519 : decode cL_law 519 = .ok (.iload_n 3, 1) := by decide +kernel
theorem dL_law_520 : decode cL_law 520 = .ok (.iconst 1, 1) := by decide +kernel
theorem dL_law_521 : decode cL_law 521 = .ok (.iadd, 1) := by decide +kernel
theorem dL_law_522 : decode cL_law 522 = .ok (.iaload, 1) := by decide +kernel
theorem dL_law_523 : decode cL_law 523 = .ok (.invokevirtual 64, 3) := by decide +kernel
theorem dL_law_526 : decode cL_law 526 = .ok (.aload_n 2, 1) := by decide +kernel
theorem dL_law_527 : decode cL_law 527 = .ok (.aload_n 0, 1) := by decide +kernel
theorem dL_law_528 : decode cL_law 528 = .ok (.iload_n 3, 1) := by decide +kernel
theorem dL_law_529 : decode cL_law 529 = .ok (.iconst 1, 1) := by decide +kernel
theorem dL_law_530 : decode cL_law 530 = .ok (.iadd, 1) := by decide +kernel
theorem dL_law_531 : decode cL_law 531 = .ok (.iaload, 1) := by decide +kernel
theorem dL_law_532 : decode cL_law 532 = .ok (.invokevirtual 67, 3) := by decide +kernel
theorem dL_law_535 : decode cL_law 535 = .ok (.if_icmp .eq 516, 3) := by decide +kernel
theorem dL_law_538 : decode cL_law 538 = .ok (.iconst 0, 1) := by decide +kernel
theorem dL_law_539 : decode cL_law 539 = .ok (.ireturn, 1) := by decide +kernel
theorem dL_law_540 : decode cL_law 540 = .ok (.aload_n 1, 1) := by decide +kernel
theorem dL_law_541 : decode cL_law 541 = .ok (.aload_n 0, 1) := by decide +kernel
theorem dL_law_542 : decode cL_law 542 = .ok (.iload_n 3, 1) := by decide +kernel
theorem dL_law_543 : decode cL_law 543 = .ok (.iconst 1, 1) := by decide +kernel
theorem dL_law_544 : decode cL_law 544 = .ok (.iadd, 1) := by decide +kernel
theorem dL_law_545 : decode cL_law 545 = .ok (.iaload, 1) := by decide +kernel
theorem dL_law_546 : decode cL_law 546 = .ok (.invokevirtual 68, 3) := by decide +kernel
theorem dL_law_549 : decode cL_law 549 = .ok (.aload_n 2, 1) := by decide +kernel
theorem dL_law_550 : decode cL_law 550 = .ok (.aload_n 0, 1) := by decide +kernel
theorem dL_law_551 : decode cL_law 551 = .ok (.iload_n 3, 1) := by decide +kernel
theorem dL_law_552 : decode cL_law 552 = .ok (.iconst 1, 1) := by decide +kernel
theorem dL_law_553 : decode cL_law 553 = .ok (.iadd, 1) := by decide +kernel
theorem dL_law_554 : decode cL_law 554 = .ok (.iaload, 1) := by decide +kernel
theorem dL_law_555 : decode cL_law 555 = .ok (.invokevirtual 71, 3) := by decide +kernel
theorem dL_law_558 : decode cL_law 558 = .ok (.if_icmp .eq 493, 3) := by decide +kernel
theorem dL_law_561 : decode cL_law 561 = .ok (.iconst 0, 1) := by decide +kernel
theorem dL_law_562 : decode cL_law 562 = .ok (.ireturn, 1) := by decide +kernel
theorem dL_law_563 : decode cL_law 563 = .ok (.aload_n 1, 1) := by decide +kernel
theorem dL_law_564 : decode cL_law 564 = .ok (.aload_n 0, 1) := by decide +kernel
theorem dL_law_565 : decode cL_law 565 = .ok (.iload_n 3, 1) := by decide +kernel
theorem dL_law_566 : decode cL_law 566 = .ok (.iconst 1, 1) := by decide +kernel
theorem dL_law_567 : decode cL_law 567 = .ok (.iadd, 1) := by decide +kernel
theorem dL_law_568 : decode cL_law 568 = .ok (.iaload, 1) := by decide +kernel
theorem dL_law_569 : decode cL_law 569 = .ok (.invokevirtual 72, 3) := by decide +kernel
theorem dL_law_572 : decode cL_law 572 = .ok (.aload_n 2, 1) := by decide +kernel
theorem dL_law_573 : decode cL_law 573 = .ok (.aload_n 0, 1) := by decide +kernel
theorem dL_law_574 : decode cL_law 574 = .ok (.iload_n 3, 1) := by decide +kernel
theorem dL_law_575 : decode cL_law 575 = .ok (.iconst 1, 1) := by decide +kernel
theorem dL_law_576 : decode cL_law 576 = .ok (.iadd, 1) := by decide +kernel
theorem dL_law_577 : decode cL_law 577 = .ok (.iaload, 1) := by decide +kernel
theorem dL_law_578 : decode cL_law 578 = .ok (.invokevirtual 75, 3) := by decide +kernel
theorem dL_law_581 : decode cL_law 581 = .ok (.if_icmp .eq 470, 3) := by decide +kernel
theorem dL_law_584 : decode cL_law 584 = .ok (.iconst 0, 1) := by decide +kernel
theorem dL_law_585 : decode cL_law 585 = .ok (.ireturn, 1) := by decide +kernel
theorem dL_law_586 : decode cL_law 586 = .ok (.aload_n 1, 1) := by decide +kernel
theorem dL_law_587 : decode cL_law 587 = .ok (.aload_n 0, 1) := by decide +kernel
theorem dL_law_588 : decode cL_law 588 = .ok (.iload_n 3, 1) := by decide +kernel
theorem dL_law_589 : decode cL_law 589 = .ok (.iconst 1, 1) := by decide +kernel
theorem dL_law_590 : decode cL_law 590 = .ok (.iadd, 1) := by decide +kernel
theorem dL_law_591 : decode cL_law 591 = .ok (.iaload, 1) := by decide +kernel
theorem dL_law_592 : decode cL_law 592 = .ok (.invokevirtual 76, 3) := by decide +kernel
theorem dL_law_595 : decode cL_law 595 = .ok (.aload_n 2, 1) := by decide +kernel
theorem dL_law_596 : decode cL_law 596 = .ok (.aload_n 0, 1) := by decide +kernel
theorem dL_law_597 : decode cL_law 597 = .ok (.iload_n 3, 1) := by decide +kernel
theorem dL_law_598 : decode cL_law 598 = .ok (.iconst 1, 1) := by decide +kernel
theorem dL_law_599 : decode cL_law 599 = .ok (.iadd, 1) := by decide +kernel
theorem dL_law_600 : decode cL_law 600 = .ok (.iaload, 1) := by decide +kernel
theorem dL_law_601 : decode cL_law 601 = .ok (.invokevirtual 79, 3) := by decide +kernel
theorem dL_law_604 : decode cL_law 604 = .ok (.if_icmp .eq 447, 3) := by decide +kernel
theorem dL_law_607 : decode cL_law 607 = .ok (.iconst 0, 1) := by decide +kernel
theorem dL_law_608 : decode cL_law 608 = .ok (.ireturn, 1) := by decide +kernel
theorem dL_law_609 : decode cL_law 609 = .ok (.aload_n 1, 1) := by decide +kernel
theorem dL_law_610 : decode cL_law 610 = .ok (.aload_n 0, 1) := by decide +kernel
theorem dL_law_611 : decode cL_law 611 = .ok (.iload_n 3, 1) := by decide +kernel
theorem dL_law_612 : decode cL_law 612 = .ok (.iconst 1, 1) := by decide +kernel
theorem dL_law_613 : decode cL_law 613 = .ok (.iadd, 1) := by decide +kernel
theorem dL_law_614 : decode cL_law 614 = .ok (.iaload, 1) := by decide +kernel
theorem dL_law_615 : decode cL_law 615 = .ok (.aload_n 0, 1) := by decide +kernel
theorem dL_law_616 : decode cL_law 616 = .ok (.iload_n 3, 1) := by decide +kernel
theorem dL_law_617 : decode cL_law 617 = .ok (.iconst 2, 1) := by decide +kernel
theorem dL_law_618 : decode cL_law 618 = .ok (.iadd, 1) := by decide +kernel
theorem dL_law_619 : decode cL_law 619 = .ok (.iaload, 1) := by decide +kernel
theorem dL_law_620 : decode cL_law 620 = .ok (.aload_n 0, 1) := by decide +kernel
theorem dL_law_621 : decode cL_law 621 = .ok (.iload_n 3, 1) := by decide +kernel
theorem dL_law_622 : decode cL_law 622 = .ok (.iconst 3, 1) := by decide +kernel
theorem dL_law_623 : decode cL_law 623 = .ok (.iadd, 1) := by decide +kernel
theorem dL_law_624 : decode cL_law 624 = .ok (.iaload, 1) := by decide +kernel
theorem dL_law_625 : decode cL_law 625 = .ok (.invokevirtual 80, 3) := by decide +kernel
theorem dL_law_628 : decode cL_law 628 = .ok (.aload_n 2, 1) := by decide +kernel
theorem dL_law_629 : decode cL_law 629 = .ok (.aload_n 0, 1) := by decide +kernel
theorem dL_law_630 : decode cL_law 630 = .ok (.iload_n 3, 1) := by decide +kernel
theorem dL_law_631 : decode cL_law 631 = .ok (.iconst 1, 1) := by decide +kernel
theorem dL_law_632 : decode cL_law 632 = .ok (.iadd, 1) := by decide +kernel
theorem dL_law_633 : decode cL_law 633 = .ok (.iaload, 1) := by decide +kernel
theorem dL_law_634 : decode cL_law 634 = .ok (.aload_n 0, 1) := by decide +kernel
theorem dL_law_635 : decode cL_law 635 = .ok (.iload_n 3, 1) := by decide +kernel
theorem dL_law_636 : decode cL_law 636 = .ok (.iconst 2, 1) := by decide +kernel
theorem dL_law_637 : decode cL_law 637 = .ok (.iadd, 1) := by decide +kernel
theorem dL_law_638 : decode cL_law 638 = .ok (.iaload, 1) := by decide +kernel
theorem dL_law_639 : decode cL_law 639 = .ok (.aload_n 0, 1) := by decide +kernel
theorem dL_law_640 : decode cL_law 640 = .ok (.iload_n 3, 1) := by decide +kernel
theorem dL_law_641 : decode cL_law 641 = .ok (.iconst 3, 1) := by decide +kernel
theorem dL_law_642 : decode cL_law 642 = .ok (.iadd, 1) := by decide +kernel
theorem dL_law_643 : decode cL_law 643 = .ok (.iaload, 1) := by decide +kernel
theorem dL_law_644 : decode cL_law 644 = .ok (.invokevirtual 83, 3) := by decide +kernel
theorem dL_law_647 : decode cL_law 647 = .ok (.if_icmp .eq 404, 3) := by decide +kernel
theorem dL_law_650 : decode cL_law 650 = .ok (.iconst 0, 1) := by decide +kernel
theorem dL_law_651 : decode cL_law 651 = .ok (.ireturn, 1) := by decide +kernel
theorem dL_law_652 : decode cL_law 652 = .ok (.aload_n 1, 1) := by decide +kernel
theorem dL_law_653 : decode cL_law 653 = .ok (.aload_n 0, 1) := by decide +kernel
theorem dL_law_654 : decode cL_law 654 = .ok (.iload_n 3, 1) := by decide +kernel
theorem dL_law_655 : decode cL_law 655 = .ok (.iconst 1, 1) := by decide +kernel
theorem dL_law_656 : decode cL_law 656 = .ok (.iadd, 1) := by decide +kernel
theorem dL_law_657 : decode cL_law 657 = .ok (.iaload, 1) := by decide +kernel
theorem dL_law_658 : decode cL_law 658 = .ok (.aload_n 0, 1) := by decide +kernel
theorem dL_law_659 : decode cL_law 659 = .ok (.iload_n 3, 1) := by decide +kernel
theorem dL_law_660 : decode cL_law 660 = .ok (.iconst 2, 1) := by decide +kernel
theorem dL_law_661 : decode cL_law 661 = .ok (.iadd, 1) := by decide +kernel
theorem dL_law_662 : decode cL_law 662 = .ok (.iaload, 1) := by decide +kernel
theorem dL_law_663 : decode cL_law 663 = .ok (.invokevirtual 84, 3) := by decide +kernel
theorem dL_law_666 : decode cL_law 666 = .ok (.aload_n 2, 1) := by decide +kernel
theorem dL_law_667 : decode cL_law 667 = .ok (.aload_n 0, 1) := by decide +kernel
theorem dL_law_668 : decode cL_law 668 = .ok (.iload_n 3, 1) := by decide +kernel
theorem dL_law_669 : decode cL_law 669 = .ok (.iconst 1, 1) := by decide +kernel
theorem dL_law_670 : decode cL_law 670 = .ok (.iadd, 1) := by decide +kernel
theorem dL_law_671 : decode cL_law 671 = .ok (.iaload, 1) := by decide +kernel
theorem dL_law_672 : decode cL_law 672 = .ok (.aload_n 0, 1) := by decide +kernel
theorem dL_law_673 : decode cL_law 673 = .ok (.iload_n 3, 1) := by decide +kernel
theorem dL_law_674 : decode cL_law 674 = .ok (.iconst 2, 1) := by decide +kernel
theorem dL_law_675 : decode cL_law 675 = .ok (.iadd, 1) := by decide +kernel
theorem dL_law_676 : decode cL_law 676 = .ok (.iaload, 1) := by decide +kernel
theorem dL_law_677 : decode cL_law 677 = .ok (.invokevirtual 87, 3) := by decide +kernel
theorem dL_law_680 : decode cL_law 680 = .ok (.if_icmp .eq 371, 3) := by decide +kernel
theorem dL_law_683 : decode cL_law 683 = .ok (.iconst 0, 1) := by decide +kernel
theorem dL_law_684 : decode cL_law 684 = .ok (.ireturn, 1) := by decide +kernel
theorem dL_law_685 : decode cL_law 685 = .ok (.aload_n 1, 1) := by decide +kernel
theorem dL_law_686 : decode cL_law 686 = .ok (.aload_n 0, 1) := by decide +kernel
theorem dL_law_687 : decode cL_law 687 = .ok (.iload_n 3, 1) := by decide +kernel
theorem dL_law_688 : decode cL_law 688 = .ok (.iconst 1, 1) := by decide +kernel
theorem dL_law_689 : decode cL_law 689 = .ok (.iadd, 1) := by decide +kernel
theorem dL_law_690 : decode cL_law 690 = .ok (.iaload, 1) := by decide +kernel
theorem dL_law_691 : decode cL_law 691 = .ok (.aload_n 0, 1) := by decide +kernel
theorem dL_law_692 : decode cL_law 692 = .ok (.iload_n 3, 1) := by decide +kernel
theorem dL_law_693 : decode cL_law 693 = .ok (.iconst 2, 1) := by decide +kernel
theorem dL_law_694 : decode cL_law 694 = .ok (.iadd, 1) := by decide +kernel
theorem dL_law_695 : decode cL_law 695 = .ok (.iaload, 1) := by decide +kernel
theorem dL_law_696 : decode cL_law 696 = .ok (.aload_n 0, 1) := by decide +kernel
theorem dL_law_697 : decode cL_law 697 = .ok (.iload_n 3, 1) := by decide +kernel
theorem dL_law_698 : decode cL_law 698 = .ok (.iconst 3, 1) := by decide +kernel
theorem dL_law_699 : decode cL_law 699 = .ok (.iadd, 1) := by decide +kernel
theorem dL_law_700 : decode cL_law 700 = .ok (.iaload, 1) := by decide +kernel
theorem dL_law_701 : decode cL_law 701 = .ok (.aload_n 0, 1) := by decide +kernel
theorem dL_law_702 : decode cL_law 702 = .ok (.iload_n 3, 1) := by decide +kernel
theorem dL_law_703 : decode cL_law 703 = .ok (.iconst 4, 1) := by decide +kernel
theorem dL_law_704 : decode cL_law 704 = .ok (.iadd, 1) := by decide +kernel
theorem dL_law_705 : decode cL_law 705 = .ok (.iaload, 1) := by decide +kernel
theorem dL_law_706 : decode cL_law 706 = .ok (.invokevirtual 88, 3) := by decide +kernel
theorem dL_law_709 : decode cL_law 709 = .ok (.aload_n 2, 1) := by decide +kernel
theorem dL_law_710 : decode cL_law 710 = .ok (.aload_n 0, 1) := by decide +kernel
theorem dL_law_711 : decode cL_law 711 = .ok (.iload_n 3, 1) := by decide +kernel
theorem dL_law_712 : decode cL_law 712 = .ok (.iconst 1, 1) := by decide +kernel
theorem dL_law_713 : decode cL_law 713 = .ok (.iadd, 1) := by decide +kernel
theorem dL_law_714 : decode cL_law 714 = .ok (.iaload, 1) := by decide +kernel
theorem dL_law_715 : decode cL_law 715 = .ok (.aload_n 0, 1) := by decide +kernel
theorem dL_law_716 : decode cL_law 716 = .ok (.iload_n 3, 1) := by decide +kernel
theorem dL_law_717 : decode cL_law 717 = .ok (.iconst 2, 1) := by decide +kernel
theorem dL_law_718 : decode cL_law 718 = .ok (.iadd, 1) := by decide +kernel
theorem dL_law_719 : decode cL_law 719 = .ok (.iaload, 1) := by decide +kernel
theorem dL_law_720 : decode cL_law 720 = .ok (.aload_n 0, 1) := by decide +kernel
theorem dL_law_721 : decode cL_law 721 = .ok (.iload_n 3, 1) := by decide +kernel
theorem dL_law_722 : decode cL_law 722 = .ok (.iconst 3, 1) := by decide +kernel
theorem dL_law_723 : decode cL_law 723 = .ok (.iadd, 1) := by decide +kernel
theorem dL_law_724 : decode cL_law 724 = .ok (.iaload, 1) := by decide +kernel
theorem dL_law_725 : decode cL_law 725 = .ok (.aload_n 0, 1) := by decide +kernel
theorem dL_law_726 : decode cL_law 726 = .ok (.iload_n 3, 1) := by decide +kernel
theorem dL_law_727 : decode cL_law 727 = .ok (.iconst 4, 1) := by decide +kernel
theorem dL_law_728 : decode cL_law 728 = .ok (.iadd, 1) := by decide +kernel
theorem dL_law_729 : decode cL_law 729 = .ok (.iaload, 1) := by decide +kernel
theorem dL_law_730 : decode cL_law 730 = .ok (.invokevirtual 92, 3) := by decide +kernel
theorem dL_law_733 : decode cL_law 733 = .ok (.if_icmp .eq 318, 3) := by decide +kernel
theorem dL_law_736 : decode cL_law 736 = .ok (.iconst 0, 1) := by decide +kernel
theorem dL_law_737 : decode cL_law 737 = .ok (.ireturn, 1) := by decide +kernel
theorem dL_law_738 : decode cL_law 738 = .ok (.aload_n 1, 1) := by decide +kernel
theorem dL_law_739 : decode cL_law 739 = .ok (.aload_n 0, 1) := by decide +kernel
theorem dL_law_740 : decode cL_law 740 = .ok (.iload_n 3, 1) := by decide +kernel
theorem dL_law_741 : decode cL_law 741 = .ok (.iconst 1, 1) := by decide +kernel
theorem dL_law_742 : decode cL_law 742 = .ok (.iadd, 1) := by decide +kernel
theorem dL_law_743 : decode cL_law 743 = .ok (.iaload, 1) := by decide +kernel
theorem dL_law_744 : decode cL_law 744 = .ok (.aload_n 0, 1) := by decide +kernel
theorem dL_law_745 : decode cL_law 745 = .ok (.iload_n 3, 1) := by decide +kernel
theorem dL_law_746 : decode cL_law 746 = .ok (.iconst 2, 1) := by decide +kernel
theorem dL_law_747 : decode cL_law 747 = .ok (.iadd, 1) := by decide +kernel
theorem dL_law_748 : decode cL_law 748 = .ok (.iaload, 1) := by decide +kernel
theorem dL_law_749 : decode cL_law 749 = .ok (.invokevirtual 93, 3) := by decide +kernel
theorem dL_law_752 : decode cL_law 752 = .ok (.aload_n 2, 1) := by decide +kernel
theorem dL_law_753 : decode cL_law 753 = .ok (.aload_n 0, 1) := by decide +kernel
theorem dL_law_754 : decode cL_law 754 = .ok (.iload_n 3, 1) := by decide +kernel
theorem dL_law_755 : decode cL_law 755 = .ok (.iconst 1, 1) := by decide +kernel
theorem dL_law_756 : decode cL_law 756 = .ok (.iadd, 1) := by decide +kernel
theorem dL_law_757 : decode cL_law 757 = .ok (.iaload, 1) := by decide +kernel
theorem dL_law_758 : decode cL_law 758 = .ok (.aload_n 0, 1) := by decide +kernel
theorem dL_law_759 : decode cL_law 759 = .ok (.iload_n 3, 1) := by decide +kernel
theorem dL_law_760 : decode cL_law 760 = .ok (.iconst 2, 1) := by decide +kernel
theorem dL_law_761 : decode cL_law 761 = .ok (.iadd, 1) := by decide +kernel
theorem dL_law_762 : decode cL_law 762 = .ok (.iaload, 1) := by decide +kernel
theorem dL_law_763 : decode cL_law 763 = .ok (.invokevirtual 96, 3) := by decide +kernel
theorem dL_law_766 : decode cL_law 766 = .ok (.if_icmp .eq 285, 3) := by decide +kernel
theorem dL_law_769 : decode cL_law 769 = .ok (.iconst 0, 1) := by decide +kernel
theorem dL_law_770 : decode cL_law 770 = .ok (.ireturn, 1) := by decide +kernel
theorem dL_law_771 : decode cL_law 771 = .ok (.aload_n 1, 1) := by decide +kernel
theorem dL_law_772 : decode cL_law 772 = .ok (.aload_n 0, 1) := by decide +kernel
theorem dL_law_773 : decode cL_law 773 = .ok (.iload_n 3, 1) := by decide +kernel
theorem dL_law_774 : decode cL_law 774 = .ok (.iconst 1, 1) := by decide +kernel
theorem dL_law_775 : decode cL_law 775 = .ok (.iadd, 1) := by decide +kernel
theorem dL_law_776 : decode cL_law 776 = .ok (.iaload, 1) := by decide +kernel
theorem dL_law_777 : decode cL_law 777 = .ok (.aload_n 0, 1) := by decide +kernel
theorem dL_law_778 : decode cL_law 778 = .ok (.iload_n 3, 1) := by decide +kernel
theorem dL_law_779 : decode cL_law 779 = .ok (.iconst 2, 1) := by decide +kernel
theorem dL_law_780 : decode cL_law 780 = .ok (.iadd, 1) := by decide +kernel
theorem dL_law_781 : decode cL_law 781 = .ok (.iaload, 1) := by decide +kernel
theorem dL_law_782 : decode cL_law 782 = .ok (.invokevirtual 97, 3) := by decide +kernel
theorem dL_law_785 : decode cL_law 785 = .ok (.aload_n 2, 1) := by decide +kernel
theorem dL_law_786 : decode cL_law 786 = .ok (.aload_n 0, 1) := by decide +kernel
theorem dL_law_787 : decode cL_law 787 = .ok (.iload_n 3, 1) := by decide +kernel
theorem dL_law_788 : decode cL_law 788 = .ok (.iconst 1, 1) := by decide +kernel
theorem dL_law_789 : decode cL_law 789 = .ok (.iadd, 1) := by decide +kernel
theorem dL_law_790 : decode cL_law 790 = .ok (.iaload, 1) := by decide +kernel
theorem dL_law_791 : decode cL_law 791 = .ok (.aload_n 0, 1) := by decide +kernel
theorem dL_law_792 : decode cL_law 792 = .ok (.iload_n 3, 1) := by decide +kernel
theorem dL_law_793 : decode cL_law 793 = .ok (.iconst 2, 1) := by decide +kernel
theorem dL_law_794 : decode cL_law 794 = .ok (.iadd, 1) := by decide +kernel
theorem dL_law_795 : decode cL_law 795 = .ok (.iaload, 1) := by decide +kernel
theorem dL_law_796 : decode cL_law 796 = .ok (.invokevirtual 100, 3) := by decide +kernel
theorem dL_law_799 : decode cL_law 799 = .ok (.if_icmp .eq 252, 3) := by decide +kernel
theorem dL_law_802 : decode cL_law 802 = .ok (.iconst 0, 1) := by decide +kernel
theorem dL_law_803 : decode cL_law 803 = .ok (.ireturn, 1) := by decide +kernel
theorem dL_law_804 : decode cL_law 804 = .ok (.aload_n 1, 1) := by decide +kernel
theorem dL_law_805 : decode cL_law 805 = .ok (.aload_n 0, 1) := by decide +kernel
theorem dL_law_806 : decode cL_law 806 = .ok (.iload_n 3, 1) := by decide +kernel
theorem dL_law_807 : decode cL_law 807 = .ok (.iconst 1, 1) := by decide +kernel
theorem dL_law_808 : decode cL_law 808 = .ok (.iadd, 1) := by decide +kernel
theorem dL_law_809 : decode cL_law 809 = .ok (.iaload, 1) := by decide +kernel
theorem dL_law_810 : decode cL_law 810 = .ok (.aload_n 0, 1) := by decide +kernel
theorem dL_law_811 : decode cL_law 811 = .ok (.iload_n 3, 1) := by decide +kernel
theorem dL_law_812 : decode cL_law 812 = .ok (.iconst 2, 1) := by decide +kernel
theorem dL_law_813 : decode cL_law 813 = .ok (.iadd, 1) := by decide +kernel
theorem dL_law_814 : decode cL_law 814 = .ok (.iaload, 1) := by decide +kernel
theorem dL_law_815 : decode cL_law 815 = .ok (.invokevirtual 101, 3) := by decide +kernel
theorem dL_law_818 : decode cL_law 818 = .ok (.aload_n 2, 1) := by decide +kernel
theorem dL_law_819 : decode cL_law 819 = .ok (.aload_n 0, 1) := by decide +kernel
theorem dL_law_820 : decode cL_law 820 = .ok (.iload_n 3, 1) := by decide +kernel
theorem dL_law_821 : decode cL_law 821 = .ok (.iconst 1, 1) := by decide +kernel
theorem dL_law_822 : decode cL_law 822 = .ok (.iadd, 1) := by decide +kernel
theorem dL_law_823 : decode cL_law 823 = .ok (.iaload, 1) := by decide +kernel
theorem dL_law_824 : decode cL_law 824 = .ok (.aload_n 0, 1) := by decide +kernel
theorem dL_law_825 : decode cL_law 825 = .ok (.iload_n 3, 1) := by decide +kernel
theorem dL_law_826 : decode cL_law 826 = .ok (.iconst 2, 1) := by decide +kernel
theorem dL_law_827 : decode cL_law 827 = .ok (.iadd, 1) := by decide +kernel
theorem dL_law_828 : decode cL_law 828 = .ok (.iaload, 1) := by decide +kernel
theorem dL_law_829 : decode cL_law 829 = .ok (.invokevirtual 104, 3) := by decide +kernel
theorem dL_law_832 : decode cL_law 832 = .ok (.if_icmp .eq 219, 3) := by decide +kernel
theorem dL_law_835 : decode cL_law 835 = .ok (.iconst 0, 1) := by decide +kernel
theorem dL_law_836 : decode cL_law 836 = .ok (.ireturn, 1) := by decide +kernel
theorem dL_law_837 : decode cL_law 837 = .ok (.aload_n 1, 1) := by decide +kernel
theorem dL_law_838 : decode cL_law 838 = .ok (.aload_n 0, 1) := by decide +kernel
theorem dL_law_839 : decode cL_law 839 = .ok (.iload_n 3, 1) := by decide +kernel
theorem dL_law_840 : decode cL_law 840 = .ok (.iconst 1, 1) := by decide +kernel
theorem dL_law_841 : decode cL_law 841 = .ok (.iadd, 1) := by decide +kernel
theorem dL_law_842 : decode cL_law 842 = .ok (.iaload, 1) := by decide +kernel
theorem dL_law_843 : decode cL_law 843 = .ok (.aload_n 0, 1) := by decide +kernel
theorem dL_law_844 : decode cL_law 844 = .ok (.iload_n 3, 1) := by decide +kernel
theorem dL_law_845 : decode cL_law 845 = .ok (.iconst 2, 1) := by decide +kernel
theorem dL_law_846 : decode cL_law 846 = .ok (.iadd, 1) := by decide +kernel
theorem dL_law_847 : decode cL_law 847 = .ok (.iaload, 1) := by decide +kernel
theorem dL_law_848 : decode cL_law 848 = .ok (.aload_n 0, 1) := by decide +kernel
theorem dL_law_849 : decode cL_law 849 = .ok (.iload_n 3, 1) := by decide +kernel
theorem dL_law_850 : decode cL_law 850 = .ok (.iconst 3, 1) := by decide +kernel
theorem dL_law_851 : decode cL_law 851 = .ok (.iadd, 1) := by decide +kernel
theorem dL_law_852 : decode cL_law 852 = .ok (.iaload, 1) := by decide +kernel
theorem dL_law_853 : decode cL_law 853 = .ok (.aload_n 0, 1) := by decide +kernel
theorem dL_law_854 : decode cL_law 854 = .ok (.iload_n 3, 1) := by decide +kernel
theorem dL_law_855 : decode cL_law 855 = .ok (.iconst 4, 1) := by decide +kernel
theorem dL_law_856 : decode cL_law 856 = .ok (.iadd, 1) := by decide +kernel
theorem dL_law_857 : decode cL_law 857 = .ok (.iaload, 1) := by decide +kernel
theorem dL_law_858 : decode cL_law 858 = .ok (.invokevirtual 105, 3) := by decide +kernel
theorem dL_law_861 : decode cL_law 861 = .ok (.aload_n 2, 1) := by decide +kernel
theorem dL_law_862 : decode cL_law 862 = .ok (.aload_n 0, 1) := by decide +kernel
theorem dL_law_863 : decode cL_law 863 = .ok (.iload_n 3, 1) := by decide +kernel
theorem dL_law_864 : decode cL_law 864 = .ok (.iconst 1, 1) := by decide +kernel
theorem dL_law_865 : decode cL_law 865 = .ok (.iadd, 1) := by decide +kernel
theorem dL_law_866 : decode cL_law 866 = .ok (.iaload, 1) := by decide +kernel
theorem dL_law_867 : decode cL_law 867 = .ok (.aload_n 0, 1) := by decide +kernel
theorem dL_law_868 : decode cL_law 868 = .ok (.iload_n 3, 1) := by decide +kernel
theorem dL_law_869 : decode cL_law 869 = .ok (.iconst 2, 1) := by decide +kernel
theorem dL_law_870 : decode cL_law 870 = .ok (.iadd, 1) := by decide +kernel
theorem dL_law_871 : decode cL_law 871 = .ok (.iaload, 1) := by decide +kernel
theorem dL_law_872 : decode cL_law 872 = .ok (.aload_n 0, 1) := by decide +kernel
theorem dL_law_873 : decode cL_law 873 = .ok (.iload_n 3, 1) := by decide +kernel
theorem dL_law_874 : decode cL_law 874 = .ok (.iconst 3, 1) := by decide +kernel
theorem dL_law_875 : decode cL_law 875 = .ok (.iadd, 1) := by decide +kernel
theorem dL_law_876 : decode cL_law 876 = .ok (.iaload, 1) := by decide +kernel
theorem dL_law_877 : decode cL_law 877 = .ok (.aload_n 0, 1) := by decide +kernel
theorem dL_law_878 : decode cL_law 878 = .ok (.iload_n 3, 1) := by decide +kernel
theorem dL_law_879 : decode cL_law 879 = .ok (.iconst 4, 1) := by decide +kernel
theorem dL_law_880 : decode cL_law 880 = .ok (.iadd, 1) := by decide +kernel
theorem dL_law_881 : decode cL_law 881 = .ok (.iaload, 1) := by decide +kernel
theorem dL_law_882 : decode cL_law 882 = .ok (.invokevirtual 108, 3) := by decide +kernel
theorem dL_law_885 : decode cL_law 885 = .ok (.if_icmp .eq 166, 3) := by decide +kernel
theorem dL_law_888 : decode cL_law 888 = .ok (.iconst 0, 1) := by decide +kernel
theorem dL_law_889 : decode cL_law 889 = .ok (.ireturn, 1) := by decide +kernel
theorem dL_law_890 : decode cL_law 890 = .ok (.aload_n 1, 1) := by decide +kernel
theorem dL_law_891 : decode cL_law 891 = .ok (.aload_n 0, 1) := by decide +kernel
theorem dL_law_892 : decode cL_law 892 = .ok (.iload_n 3, 1) := by decide +kernel
theorem dL_law_893 : decode cL_law 893 = .ok (.iconst 1, 1) := by decide +kernel
theorem dL_law_894 : decode cL_law 894 = .ok (.iadd, 1) := by decide +kernel
theorem dL_law_895 : decode cL_law 895 = .ok (.iaload, 1) := by decide +kernel
theorem dL_law_896 : decode cL_law 896 = .ok (.invokevirtual 109, 3) := by decide +kernel
theorem dL_law_899 : decode cL_law 899 = .ok (.aload_n 2, 1) := by decide +kernel
theorem dL_law_900 : decode cL_law 900 = .ok (.aload_n 0, 1) := by decide +kernel
theorem dL_law_901 : decode cL_law 901 = .ok (.iload_n 3, 1) := by decide +kernel
theorem dL_law_902 : decode cL_law 902 = .ok (.iconst 1, 1) := by decide +kernel
theorem dL_law_903 : decode cL_law 903 = .ok (.iadd, 1) := by decide +kernel
theorem dL_law_904 : decode cL_law 904 = .ok (.iaload, 1) := by decide +kernel
theorem dL_law_905 : decode cL_law 905 = .ok (.invokevirtual 112, 3) := by decide +kernel
theorem dL_law_908 : decode cL_law 908 = .ok (.if_icmp .eq 143, 3) := by decide +kernel
theorem dL_law_911 : decode cL_law 911 = .ok (.iconst 0, 1) := by decide +kernel
theorem dL_law_912 : decode cL_law 912 = .ok (.ireturn, 1) := by decide +kernel
theorem dL_law_913 : decode cL_law 913 = .ok (.aload_n 1, 1) := by decide +kernel
theorem dL_law_914 : decode cL_law 914 = .ok (.aload_n 0, 1) := by decide +kernel
theorem dL_law_915 : decode cL_law 915 = .ok (.iload_n 3, 1) := by decide +kernel
theorem dL_law_916 : decode cL_law 916 = .ok (.iconst 1, 1) := by decide +kernel
theorem dL_law_917 : decode cL_law 917 = .ok (.iadd, 1) := by decide +kernel
theorem dL_law_918 : decode cL_law 918 = .ok (.iaload, 1) := by decide +kernel
theorem dL_law_919 : decode cL_law 919 = .ok (.aload_n 0, 1) := by decide +kernel
theorem dL_law_920 : decode cL_law 920 = .ok (.iload_n 3, 1) := by decide +kernel
theorem dL_law_921 : decode cL_law 921 = .ok (.iconst 2, 1) := by decide +kernel
theorem dL_law_922 : decode cL_law 922 = .ok (.iadd, 1) := by decide +kernel
theorem dL_law_923 : decode cL_law 923 = .ok (.iaload, 1) := by decide +kernel
theorem dL_law_924 : decode cL_law 924 = .ok (.aload_n 0, 1) := by decide +kernel
theorem dL_law_925 : decode cL_law 925 = .ok (.iload_n 3, 1) := by decide +kernel
theorem dL_law_926 : decode cL_law 926 = .ok (.iconst 3, 1) := by decide +kernel
theorem dL_law_927 : decode cL_law 927 = .ok (.iadd, 1) := by decide +kernel
theorem dL_law_928 : decode cL_law 928 = .ok (.iaload, 1) := by decide +kernel
theorem dL_law_929 : decode cL_law 929 = .ok (.invokevirtual 113, 3) := by decide +kernel
theorem dL_law_932 : decode cL_law 932 = .ok (.aload_n 2, 1) := by decide +kernel
theorem dL_law_933 : decode cL_law 933 = .ok (.aload_n 0, 1) := by decide +kernel
theorem dL_law_934 : decode cL_law 934 = .ok (.iload_n 3, 1) := by decide +kernel
theorem dL_law_935 : decode cL_law 935 = .ok (.iconst 1, 1) := by decide +kernel
theorem dL_law_936 : decode cL_law 936 = .ok (.iadd, 1) := by decide +kernel
theorem dL_law_937 : decode cL_law 937 = .ok (.iaload, 1) := by decide +kernel
theorem dL_law_938 : decode cL_law 938 = .ok (.aload_n 0, 1) := by decide +kernel
theorem dL_law_939 : decode cL_law 939 = .ok (.iload_n 3, 1) := by decide +kernel
theorem dL_law_940 : decode cL_law 940 = .ok (.iconst 2, 1) := by decide +kernel
theorem dL_law_941 : decode cL_law 941 = .ok (.iadd, 1) := by decide +kernel
theorem dL_law_942 : decode cL_law 942 = .ok (.iaload, 1) := by decide +kernel
theorem dL_law_943 : decode cL_law 943 = .ok (.aload_n 0, 1) := by decide +kernel
theorem dL_law_944 : decode cL_law 944 = .ok (.iload_n 3, 1) := by decide +kernel
theorem dL_law_945 : decode cL_law 945 = .ok (.iconst 3, 1) := by decide +kernel
theorem dL_law_946 : decode cL_law 946 = .ok (.iadd, 1) := by decide +kernel
theorem dL_law_947 : decode cL_law 947 = .ok (.iaload, 1) := by decide +kernel
theorem dL_law_948 : decode cL_law 948 = .ok (.invokevirtual 116, 3) := by decide +kernel
theorem dL_law_951 : decode cL_law 951 = .ok (.if_icmp .eq 100, 3) := by decide +kernel
theorem dL_law_954 : decode cL_law 954 = .ok (.iconst 0, 1) := by decide +kernel
theorem dL_law_955 : decode cL_law 955 = .ok (.ireturn, 1) := by decide +kernel
theorem dL_law_956 : decode cL_law 956 = .ok (.aload_n 1, 1) := by decide +kernel
theorem dL_law_957 : decode cL_law 957 = .ok (.invokevirtual 117, 3) := by decide +kernel
theorem dL_law_960 : decode cL_law 960 = .ok (.aload_n 2, 1) := by decide +kernel
theorem dL_law_961 : decode cL_law 961 = .ok (.invokevirtual 120, 3) := by decide +kernel
theorem dL_law_964 : decode cL_law 964 = .ok (.if_icmp .eq 87, 3) := by decide +kernel
theorem dL_law_967 : decode cL_law 967 = .ok (.iconst 0, 1) := by decide +kernel
theorem dL_law_968 : decode cL_law 968 = .ok (.ireturn, 1) := by decide +kernel
theorem dL_law_969 : decode cL_law 969 = .ok (.aload_n 1, 1) := by decide +kernel
theorem dL_law_970 : decode cL_law 970 = .ok (.invokevirtual 121, 3) := by decide +kernel
theorem dL_law_973 : decode cL_law 973 = .ok (.aload_n 2, 1) := by decide +kernel
theorem dL_law_974 : decode cL_law 974 = .ok (.invokevirtual 124, 3) := by decide +kernel
theorem dL_law_977 : decode cL_law 977 = .ok (.if_icmp .eq 74, 3) := by decide +kernel
theorem dL_law_980 : decode cL_law 980 = .ok (.iconst 0, 1) := by decide +kernel
theorem dL_law_981 : decode cL_law 981 = .ok (.ireturn, 1) := by decide +kernel
theorem dL_law_982 : decode cL_law 982 = .ok (.aload_n 1, 1) := by decide +kernel
theorem dL_law_983 : decode cL_law 983 = .ok (.aload_n 0, 1) := by decide +kernel
theorem dL_law_984 : decode cL_law 984 = .ok (.iload_n 3, 1) := by decide +kernel
theorem dL_law_985 : decode cL_law 985 = .ok (.iconst 1, 1) := by decide +kernel
theorem dL_law_986 : decode cL_law 986 = .ok (.iadd, 1) := by decide +kernel
theorem dL_law_987 : decode cL_law 987 = .ok (.iaload, 1) := by decide +kernel
theorem dL_law_988 : decode cL_law 988 = .ok (.invokevirtual 125, 3) := by decide +kernel
theorem dL_law_991 : decode cL_law 991 = .ok (.aload_n 2, 1) := by decide +kernel
theorem dL_law_992 : decode cL_law 992 = .ok (.aload_n 0, 1) := by decide +kernel
theorem dL_law_993 : decode cL_law 993 = .ok (.iload_n 3, 1) := by decide +kernel
theorem dL_law_994 : decode cL_law 994 = .ok (.iconst 1, 1) := by decide +kernel
theorem dL_law_995 : decode cL_law 995 = .ok (.iadd, 1) := by decide +kernel
theorem dL_law_996 : decode cL_law 996 = .ok (.iaload, 1) := by decide +kernel
theorem dL_law_997 : decode cL_law 997 = .ok (.invokevirtual 128, 3) := by decide +kernel
theorem dL_law_1000 : decode cL_law 1000 = .ok (.if_icmp .eq 51, 3) := by decide +kernel
theorem dL_law_1003 : decode cL_law 1003 = .ok (.iconst 0, 1) := by decide +kernel
theorem dL_law_1004 : decode cL_law 1004 = .ok (.ireturn, 1) := by decide +kernel
theorem dL_law_1005 : decode cL_law 1005 = .ok (.aload_n 1, 1) := by decide +kernel
theorem dL_law_1006 : decode cL_law 1006 = .ok (.aload_n 0, 1) := by decide +kernel
theorem dL_law_1007 : decode cL_law 1007 = .ok (.iload_n 3, 1) := by decide +kernel
theorem dL_law_1008 : decode cL_law 1008 = .ok (.iconst 1, 1) := by decide +kernel
theorem dL_law_1009 : decode cL_law 1009 = .ok (.iadd, 1) := by decide +kernel
theorem dL_law_1010 : decode cL_law 1010 = .ok (.iaload, 1) := by decide +kernel
theorem dL_law_1011 : decode cL_law 1011 = .ok (.invokevirtual 129, 3) := by decide +kernel
theorem dL_law_1014 : decode cL_law 1014 = .ok (.aload_n 2, 1) := by decide +kernel
theorem dL_law_1015 : decode cL_law 1015 = .ok (.aload_n 0, 1) := by decide +kernel
theorem dL_law_1016 : decode cL_law 1016 = .ok (.iload_n 3, 1) := by decide +kernel
theorem dL_law_1017 : decode cL_law 1017 = .ok (.iconst 1, 1) := by decide +kernel
theorem dL_law_1018 : decode cL_law 1018 = .ok (.iadd, 1) := by decide +kernel
theorem dL_law_1019 : decode cL_law 1019 = .ok (.iaload, 1) := by decide +kernel
theorem dL_law_1020 : decode cL_law 1020 = .ok (.invokevirtual 132, 3) := by decide +kernel
theorem dL_law_1023 : decode cL_law 1023 = .ok (.if_icmp .eq 28, 3) := by decide +kernel
theorem dL_law_1026 : decode cL_law 1026 = .ok (.iconst 0, 1) := by decide +kernel
theorem dL_law_1027 : decode cL_law 1027 = .ok (.ireturn, 1) := by decide +kernel
theorem dL_law_1028 : decode cL_law 1028 = .ok (.aload_n 1, 1) := by decide +kernel
theorem dL_law_1029 : decode cL_law 1029 = .ok (.aload_n 0, 1) := by decide +kernel
theorem dL_law_1030 : decode cL_law 1030 = .ok (.iload_n 3, 1) := by decide +kernel
theorem dL_law_1031 : decode cL_law 1031 = .ok (.iconst 1, 1) := by decide +kernel
theorem dL_law_1032 : decode cL_law 1032 = .ok (.iadd, 1) := by decide +kernel
theorem dL_law_1033 : decode cL_law 1033 = .ok (.iaload, 1) := by decide +kernel
theorem dL_law_1034 : decode cL_law 1034 = .ok (.invokevirtual 133, 3) := by decide +kernel
theorem dL_law_1037 : decode cL_law 1037 = .ok (.aload_n 2, 1) := by decide +kernel
theorem dL_law_1038 : decode cL_law 1038 = .ok (.aload_n 0, 1) := by decide +kernel
theorem dL_law_1039 : decode cL_law 1039 = .ok (.iload_n 3, 1) := by decide +kernel
theorem dL_law_1040 : decode cL_law 1040 = .ok (.iconst 1, 1) := by decide +kernel
theorem dL_law_1041 : decode cL_law 1041 = .ok (.iadd, 1) := by decide +kernel
theorem dL_law_1042 : decode cL_law 1042 = .ok (.iaload, 1) := by decide +kernel
theorem dL_law_1043 : decode cL_law 1043 = .ok (.invokevirtual 136, 3) := by decide +kernel
theorem dL_law_1046 : decode cL_law 1046 = .ok (.if_icmp .eq 5, 3) := by decide +kernel
theorem dL_law_1049 : decode cL_law 1049 = .ok (.iconst 0, 1) := by decide +kernel
theorem dL_law_1050 : decode cL_law 1050 = .ok (.ireturn, 1) := by decide +kernel
theorem dL_law_1051 : decode cL_law 1051 = .ok (.iinc 3 5, 3) := by decide +kernel
theorem dL_law_1054 : decode cL_law 1054 = .ok (.goto (-1036), 3) := by decide +kernel
theorem dL_law_1057 : decode cL_law 1057 = .ok (.iconst 1, 1) := by decide +kernel
theorem dL_law_1058 : decode cL_law 1058 = .ok (.ireturn, 1) := by decide +kernel
end
section
/-! the world: the cells of the class and of the reference, by number; a store is what their places hold -/
abbrev NC : Nat := 73
abbrev Sto : Type := (Nat → Nat → Int32) × (Nat → Int64)
/-- addresses of the cells; classes of arrays (int, char, boolean, State); classes and slots; static arrays; texts; their bytes; a value of the JDK -/
abbrev Wld : Type := (Nat → Nat) × (Nat → ClassId) × va_G × (Nat → Nat) × (Nat → Nat) × (Nat → Nat) × Value
abbrev tyL (G : Wld) : List (ClassId × FieldType) := [(G.2.1 0, .int), (G.2.1 1, .char), (G.2.1 2, .boolean), (G.2.1 3, .object "ShadowAlms$State")]
def ceF (G : Wld) (k : Nat) (f : Nat → Int32) (d : Int64) : va_E := match k with
  | 0 => .inr (7, [.ref (G.1 1), .ref (G.1 4), .ref (G.1 10), .ref (G.1 14), .ref (G.1 23), .ref (G.1 24), .ref (G.1 26), .ref (G.1 28), .ref (G.1 34), .ref (G.1 36)])
  | 1 => .inr (2, [.ref (G.1 2), .ref (G.1 3)])
  | 2 => .inl (G.2.1 0, (5, .inl f))
  | 3 => .inl (G.2.1 0, (90, .inl f))
  | 4 => .inr (3, [.ref (G.1 5), .ref (G.1 6), .int (f 2), .ref (G.1 7), .int (f 4), .int (f 5), .int (f 6)])
  | 5 => .inl (G.2.1 1, (500, .inl f))
  | 6 => .inl (G.2.1 0, (3, .inl f))
  | 7 => .inr (2, [.ref (G.1 8), .ref (G.1 9)])
  | 8 => .inl (G.2.1 0, (5, .inl f))
  | 9 => .inl (G.2.1 0, (90, .inl f))
  | 10 => .inr (6, [.ref (G.1 11), .ref (G.1 12), .ref (G.1 13), .int (f 3), .int (f 4), .int (f 5), .int (f 6)])
  | 11 => .inl (G.2.1 0, (6, .inl f))
  | 12 => .inl (G.2.1 0, (4, .inl f))
  | 13 => .inl (G.2.1 0, (6, .inl f))
  | 14 => .inl (G.2.1 3, (2, .inr (.inr (.inr (.inr (fun j => if j = 0 then some (G.1 15) else some (G.1 19)))))))
  | 15 => .inr (6, [.ref (G.1 16), .ref (G.1 17), .ref (G.1 18), .int (f 3), .int (f 4), .int (f 5), .int (f 6)])
  | 16 => .inl (G.2.1 0, (6, .inl f))
  | 17 => .inl (G.2.1 0, (4, .inl f))
  | 18 => .inl (G.2.1 0, (6, .inl f))
  | 19 => .inr (6, [.ref (G.1 20), .ref (G.1 21), .ref (G.1 22), .int (f 3), .int (f 4), .int (f 5), .int (f 6)])
  | 20 => .inl (G.2.1 0, (6, .inl f))
  | 21 => .inl (G.2.1 0, (4, .inl f))
  | 22 => .inl (G.2.1 0, (6, .inl f))
  | 23 => .inl (G.2.1 2, (2, .inl f))
  | 24 => .inr (4, [.int (f 0), .ref (G.1 25), .int (f 2)])
  | 25 => .inl (G.2.1 0, (40, .inl f))
  | 26 => .inr (4, [.int (f 0), .ref (G.1 27), .int (f 2)])
  | 27 => .inl (G.2.1 0, (120, .inl f))
  | 28 => .inr (5, [.ref (G.1 1), .int (f 1), .int (f 2), .int (f 3), .ref (G.1 29), .ref (G.1 30), .ref (G.1 31), .ref (G.1 32), .ref (G.1 33)])
  | 29 => .inl (G.2.1 0, (7, .inl f))
  | 30 => .inl (G.2.1 0, (7, .inl f))
  | 31 => .inl (G.2.1 0, (7, .inl f))
  | 32 => .inl (G.2.1 0, (7, .inl f))
  | 33 => .inl (G.2.1 0, (6, .inl f))
  | 34 => .inr (1, [.ref (G.1 1), .ref (G.1 28), .int (f 2), .int (f 3), .int (f 4), .ref (G.1 35)])
  | 35 => .inl (G.2.1 0, (6, .inl f))
  | 36 => .inr (0, [.ref (G.1 1), .ref (G.1 28), .ref (G.1 37), .int (f 3), .int (f 4), .ref (G.1 38)])
  | 37 => .inl (G.2.1 0, (4, .inl f))
  | 38 => .inl (G.2.1 0, (4, .inl f))
  | 39 => .inr (8, [.int (f 0), .int (f 1), .ref (G.1 40), .ref (G.1 41), .int (f 4), .ref (G.1 42), .ref (G.1 43), .ref (G.1 44), .int (f 8), .ref (G.1 45), .int (f 10), .ref (G.1 46), .ref (G.1 47), .int (f 13), .ref (G.1 48), .ref (G.1 49), .ref (G.1 50), .int (f 17), .int (f 18), .int (f 19), .ref (G.1 51), .int (f 21), .int (f 22), .int (f 23), .long d, .int (f 25), .int (f 26), .int (f 27), .int (f 28), .int (f 29), .int (f 30), .ref (G.1 52), .ref (G.1 53), .int (f 33), .ref (G.1 54), .ref (G.1 55), .ref (G.1 56), .int (f 37), .ref (G.1 57), .int (f 39), .ref (G.1 58), .ref (G.1 59), .ref (G.1 60), .ref (G.1 61), .ref (G.1 62), .ref (G.1 63), .ref (G.1 64), .int (f 47), .int (f 48), .ref (G.1 65), .ref (G.1 66), .ref (G.1 67), .int (f 52), .ref (G.1 68), .ref (G.1 69), .ref (G.1 70), .ref (G.1 71), .ref (G.1 72)])
  | 40 => .inl (G.2.1 0, (4, .inl f))
  | 41 => .inl (G.2.1 0, (4, .inl f))
  | 42 => .inl (G.2.1 0, (6, .inl f))
  | 43 => .inl (G.2.1 0, (6, .inl f))
  | 44 => .inl (G.2.1 0, (6, .inl f))
  | 45 => .inl (G.2.1 0, (7, .inl f))
  | 46 => .inl (G.2.1 0, (4, .inl f))
  | 47 => .inl (G.2.1 0, (4, .inl f))
  | 48 => .inl (G.2.1 0, (7, .inl f))
  | 49 => .inl (G.2.1 0, (7, .inl f))
  | 50 => .inl (G.2.1 0, (6, .inl f))
  | 51 => .inl (G.2.1 0, (500, .inl f))
  | 52 => .inl (G.2.1 0, (4, .inl f))
  | 53 => .inl (G.2.1 0, (4, .inl f))
  | 54 => .inl (G.2.1 0, (6, .inl f))
  | 55 => .inl (G.2.1 0, (6, .inl f))
  | 56 => .inl (G.2.1 0, (6, .inl f))
  | 57 => .inl (G.2.1 0, (6, .inl f))
  | 58 => .inl (G.2.1 0, (4, .inl f))
  | 59 => .inl (G.2.1 0, (4, .inl f))
  | 60 => .inl (G.2.1 0, (7, .inl f))
  | 61 => .inl (G.2.1 0, (7, .inl f))
  | 62 => .inl (G.2.1 0, (6, .inl f))
  | 63 => .inl (G.2.1 0, (6, .inl f))
  | 64 => .inl (G.2.1 0, (6, .inl f))
  | 65 => .inl (G.2.1 0, (10, .inl f))
  | 66 => .inl (G.2.1 0, (10, .inl f))
  | 67 => .inl (G.2.1 0, (10, .inl f))
  | 68 => .inl (G.2.1 0, (30, .inl f))
  | 69 => .inl (G.2.1 0, (30, .inl f))
  | 70 => .inl (G.2.1 0, (30, .inl f))
  | 71 => .inl (G.2.1 0, (50, .inl f))
  | 72 => .inl (G.2.1 2, (2, .inl f))
  | _ => .inl (G.2.1 0, (0, .inl f))
theorem ce_0 (G : Wld) (f : Nat → Int32) (d : Int64) : ceF G 0 f d = .inr (7, [.ref (G.1 1), .ref (G.1 4), .ref (G.1 10), .ref (G.1 14), .ref (G.1 23), .ref (G.1 24), .ref (G.1 26), .ref (G.1 28), .ref (G.1 34), .ref (G.1 36)]) := rfl
theorem ce_1 (G : Wld) (f : Nat → Int32) (d : Int64) : ceF G 1 f d = .inr (2, [.ref (G.1 2), .ref (G.1 3)]) := rfl
theorem ce_2 (G : Wld) (f : Nat → Int32) (d : Int64) : ceF G 2 f d = .inl (G.2.1 0, (5, .inl f)) := rfl
theorem ce_3 (G : Wld) (f : Nat → Int32) (d : Int64) : ceF G 3 f d = .inl (G.2.1 0, (90, .inl f)) := rfl
theorem ce_4 (G : Wld) (f : Nat → Int32) (d : Int64) : ceF G 4 f d = .inr (3, [.ref (G.1 5), .ref (G.1 6), .int (f 2), .ref (G.1 7), .int (f 4), .int (f 5), .int (f 6)]) := rfl
theorem ce_5 (G : Wld) (f : Nat → Int32) (d : Int64) : ceF G 5 f d = .inl (G.2.1 1, (500, .inl f)) := rfl
theorem ce_6 (G : Wld) (f : Nat → Int32) (d : Int64) : ceF G 6 f d = .inl (G.2.1 0, (3, .inl f)) := rfl
theorem ce_7 (G : Wld) (f : Nat → Int32) (d : Int64) : ceF G 7 f d = .inr (2, [.ref (G.1 8), .ref (G.1 9)]) := rfl
theorem ce_8 (G : Wld) (f : Nat → Int32) (d : Int64) : ceF G 8 f d = .inl (G.2.1 0, (5, .inl f)) := rfl
theorem ce_9 (G : Wld) (f : Nat → Int32) (d : Int64) : ceF G 9 f d = .inl (G.2.1 0, (90, .inl f)) := rfl
theorem ce_10 (G : Wld) (f : Nat → Int32) (d : Int64) : ceF G 10 f d = .inr (6, [.ref (G.1 11), .ref (G.1 12), .ref (G.1 13), .int (f 3), .int (f 4), .int (f 5), .int (f 6)]) := rfl
theorem ce_11 (G : Wld) (f : Nat → Int32) (d : Int64) : ceF G 11 f d = .inl (G.2.1 0, (6, .inl f)) := rfl
theorem ce_12 (G : Wld) (f : Nat → Int32) (d : Int64) : ceF G 12 f d = .inl (G.2.1 0, (4, .inl f)) := rfl
theorem ce_13 (G : Wld) (f : Nat → Int32) (d : Int64) : ceF G 13 f d = .inl (G.2.1 0, (6, .inl f)) := rfl
theorem ce_14 (G : Wld) (f : Nat → Int32) (d : Int64) : ceF G 14 f d = .inl (G.2.1 3, (2, .inr (.inr (.inr (.inr (fun j => if j = 0 then some (G.1 15) else some (G.1 19))))))) := rfl
theorem ce_15 (G : Wld) (f : Nat → Int32) (d : Int64) : ceF G 15 f d = .inr (6, [.ref (G.1 16), .ref (G.1 17), .ref (G.1 18), .int (f 3), .int (f 4), .int (f 5), .int (f 6)]) := rfl
theorem ce_16 (G : Wld) (f : Nat → Int32) (d : Int64) : ceF G 16 f d = .inl (G.2.1 0, (6, .inl f)) := rfl
theorem ce_17 (G : Wld) (f : Nat → Int32) (d : Int64) : ceF G 17 f d = .inl (G.2.1 0, (4, .inl f)) := rfl
theorem ce_18 (G : Wld) (f : Nat → Int32) (d : Int64) : ceF G 18 f d = .inl (G.2.1 0, (6, .inl f)) := rfl
theorem ce_19 (G : Wld) (f : Nat → Int32) (d : Int64) : ceF G 19 f d = .inr (6, [.ref (G.1 20), .ref (G.1 21), .ref (G.1 22), .int (f 3), .int (f 4), .int (f 5), .int (f 6)]) := rfl
theorem ce_20 (G : Wld) (f : Nat → Int32) (d : Int64) : ceF G 20 f d = .inl (G.2.1 0, (6, .inl f)) := rfl
theorem ce_21 (G : Wld) (f : Nat → Int32) (d : Int64) : ceF G 21 f d = .inl (G.2.1 0, (4, .inl f)) := rfl
theorem ce_22 (G : Wld) (f : Nat → Int32) (d : Int64) : ceF G 22 f d = .inl (G.2.1 0, (6, .inl f)) := rfl
theorem ce_23 (G : Wld) (f : Nat → Int32) (d : Int64) : ceF G 23 f d = .inl (G.2.1 2, (2, .inl f)) := rfl
theorem ce_24 (G : Wld) (f : Nat → Int32) (d : Int64) : ceF G 24 f d = .inr (4, [.int (f 0), .ref (G.1 25), .int (f 2)]) := rfl
theorem ce_25 (G : Wld) (f : Nat → Int32) (d : Int64) : ceF G 25 f d = .inl (G.2.1 0, (40, .inl f)) := rfl
theorem ce_26 (G : Wld) (f : Nat → Int32) (d : Int64) : ceF G 26 f d = .inr (4, [.int (f 0), .ref (G.1 27), .int (f 2)]) := rfl
theorem ce_27 (G : Wld) (f : Nat → Int32) (d : Int64) : ceF G 27 f d = .inl (G.2.1 0, (120, .inl f)) := rfl
theorem ce_28 (G : Wld) (f : Nat → Int32) (d : Int64) : ceF G 28 f d = .inr (5, [.ref (G.1 1), .int (f 1), .int (f 2), .int (f 3), .ref (G.1 29), .ref (G.1 30), .ref (G.1 31), .ref (G.1 32), .ref (G.1 33)]) := rfl
theorem ce_29 (G : Wld) (f : Nat → Int32) (d : Int64) : ceF G 29 f d = .inl (G.2.1 0, (7, .inl f)) := rfl
theorem ce_30 (G : Wld) (f : Nat → Int32) (d : Int64) : ceF G 30 f d = .inl (G.2.1 0, (7, .inl f)) := rfl
theorem ce_31 (G : Wld) (f : Nat → Int32) (d : Int64) : ceF G 31 f d = .inl (G.2.1 0, (7, .inl f)) := rfl
theorem ce_32 (G : Wld) (f : Nat → Int32) (d : Int64) : ceF G 32 f d = .inl (G.2.1 0, (7, .inl f)) := rfl
theorem ce_33 (G : Wld) (f : Nat → Int32) (d : Int64) : ceF G 33 f d = .inl (G.2.1 0, (6, .inl f)) := rfl
theorem ce_34 (G : Wld) (f : Nat → Int32) (d : Int64) : ceF G 34 f d = .inr (1, [.ref (G.1 1), .ref (G.1 28), .int (f 2), .int (f 3), .int (f 4), .ref (G.1 35)]) := rfl
theorem ce_35 (G : Wld) (f : Nat → Int32) (d : Int64) : ceF G 35 f d = .inl (G.2.1 0, (6, .inl f)) := rfl
theorem ce_36 (G : Wld) (f : Nat → Int32) (d : Int64) : ceF G 36 f d = .inr (0, [.ref (G.1 1), .ref (G.1 28), .ref (G.1 37), .int (f 3), .int (f 4), .ref (G.1 38)]) := rfl
theorem ce_37 (G : Wld) (f : Nat → Int32) (d : Int64) : ceF G 37 f d = .inl (G.2.1 0, (4, .inl f)) := rfl
theorem ce_38 (G : Wld) (f : Nat → Int32) (d : Int64) : ceF G 38 f d = .inl (G.2.1 0, (4, .inl f)) := rfl
theorem ce_39 (G : Wld) (f : Nat → Int32) (d : Int64) : ceF G 39 f d = .inr (8, [.int (f 0), .int (f 1), .ref (G.1 40), .ref (G.1 41), .int (f 4), .ref (G.1 42), .ref (G.1 43), .ref (G.1 44), .int (f 8), .ref (G.1 45), .int (f 10), .ref (G.1 46), .ref (G.1 47), .int (f 13), .ref (G.1 48), .ref (G.1 49), .ref (G.1 50), .int (f 17), .int (f 18), .int (f 19), .ref (G.1 51), .int (f 21), .int (f 22), .int (f 23), .long d, .int (f 25), .int (f 26), .int (f 27), .int (f 28), .int (f 29), .int (f 30), .ref (G.1 52), .ref (G.1 53), .int (f 33), .ref (G.1 54), .ref (G.1 55), .ref (G.1 56), .int (f 37), .ref (G.1 57), .int (f 39), .ref (G.1 58), .ref (G.1 59), .ref (G.1 60), .ref (G.1 61), .ref (G.1 62), .ref (G.1 63), .ref (G.1 64), .int (f 47), .int (f 48), .ref (G.1 65), .ref (G.1 66), .ref (G.1 67), .int (f 52), .ref (G.1 68), .ref (G.1 69), .ref (G.1 70), .ref (G.1 71), .ref (G.1 72)]) := rfl
theorem ce_40 (G : Wld) (f : Nat → Int32) (d : Int64) : ceF G 40 f d = .inl (G.2.1 0, (4, .inl f)) := rfl
theorem ce_41 (G : Wld) (f : Nat → Int32) (d : Int64) : ceF G 41 f d = .inl (G.2.1 0, (4, .inl f)) := rfl
theorem ce_42 (G : Wld) (f : Nat → Int32) (d : Int64) : ceF G 42 f d = .inl (G.2.1 0, (6, .inl f)) := rfl
theorem ce_43 (G : Wld) (f : Nat → Int32) (d : Int64) : ceF G 43 f d = .inl (G.2.1 0, (6, .inl f)) := rfl
theorem ce_44 (G : Wld) (f : Nat → Int32) (d : Int64) : ceF G 44 f d = .inl (G.2.1 0, (6, .inl f)) := rfl
theorem ce_45 (G : Wld) (f : Nat → Int32) (d : Int64) : ceF G 45 f d = .inl (G.2.1 0, (7, .inl f)) := rfl
theorem ce_46 (G : Wld) (f : Nat → Int32) (d : Int64) : ceF G 46 f d = .inl (G.2.1 0, (4, .inl f)) := rfl
theorem ce_47 (G : Wld) (f : Nat → Int32) (d : Int64) : ceF G 47 f d = .inl (G.2.1 0, (4, .inl f)) := rfl
theorem ce_48 (G : Wld) (f : Nat → Int32) (d : Int64) : ceF G 48 f d = .inl (G.2.1 0, (7, .inl f)) := rfl
theorem ce_49 (G : Wld) (f : Nat → Int32) (d : Int64) : ceF G 49 f d = .inl (G.2.1 0, (7, .inl f)) := rfl
theorem ce_50 (G : Wld) (f : Nat → Int32) (d : Int64) : ceF G 50 f d = .inl (G.2.1 0, (6, .inl f)) := rfl
theorem ce_51 (G : Wld) (f : Nat → Int32) (d : Int64) : ceF G 51 f d = .inl (G.2.1 0, (500, .inl f)) := rfl
theorem ce_52 (G : Wld) (f : Nat → Int32) (d : Int64) : ceF G 52 f d = .inl (G.2.1 0, (4, .inl f)) := rfl
theorem ce_53 (G : Wld) (f : Nat → Int32) (d : Int64) : ceF G 53 f d = .inl (G.2.1 0, (4, .inl f)) := rfl
theorem ce_54 (G : Wld) (f : Nat → Int32) (d : Int64) : ceF G 54 f d = .inl (G.2.1 0, (6, .inl f)) := rfl
theorem ce_55 (G : Wld) (f : Nat → Int32) (d : Int64) : ceF G 55 f d = .inl (G.2.1 0, (6, .inl f)) := rfl
theorem ce_56 (G : Wld) (f : Nat → Int32) (d : Int64) : ceF G 56 f d = .inl (G.2.1 0, (6, .inl f)) := rfl
theorem ce_57 (G : Wld) (f : Nat → Int32) (d : Int64) : ceF G 57 f d = .inl (G.2.1 0, (6, .inl f)) := rfl
theorem ce_58 (G : Wld) (f : Nat → Int32) (d : Int64) : ceF G 58 f d = .inl (G.2.1 0, (4, .inl f)) := rfl
theorem ce_59 (G : Wld) (f : Nat → Int32) (d : Int64) : ceF G 59 f d = .inl (G.2.1 0, (4, .inl f)) := rfl
theorem ce_60 (G : Wld) (f : Nat → Int32) (d : Int64) : ceF G 60 f d = .inl (G.2.1 0, (7, .inl f)) := rfl
theorem ce_61 (G : Wld) (f : Nat → Int32) (d : Int64) : ceF G 61 f d = .inl (G.2.1 0, (7, .inl f)) := rfl
theorem ce_62 (G : Wld) (f : Nat → Int32) (d : Int64) : ceF G 62 f d = .inl (G.2.1 0, (6, .inl f)) := rfl
theorem ce_63 (G : Wld) (f : Nat → Int32) (d : Int64) : ceF G 63 f d = .inl (G.2.1 0, (6, .inl f)) := rfl
theorem ce_64 (G : Wld) (f : Nat → Int32) (d : Int64) : ceF G 64 f d = .inl (G.2.1 0, (6, .inl f)) := rfl
theorem ce_65 (G : Wld) (f : Nat → Int32) (d : Int64) : ceF G 65 f d = .inl (G.2.1 0, (10, .inl f)) := rfl
theorem ce_66 (G : Wld) (f : Nat → Int32) (d : Int64) : ceF G 66 f d = .inl (G.2.1 0, (10, .inl f)) := rfl
theorem ce_67 (G : Wld) (f : Nat → Int32) (d : Int64) : ceF G 67 f d = .inl (G.2.1 0, (10, .inl f)) := rfl
theorem ce_68 (G : Wld) (f : Nat → Int32) (d : Int64) : ceF G 68 f d = .inl (G.2.1 0, (30, .inl f)) := rfl
theorem ce_69 (G : Wld) (f : Nat → Int32) (d : Int64) : ceF G 69 f d = .inl (G.2.1 0, (30, .inl f)) := rfl
theorem ce_70 (G : Wld) (f : Nat → Int32) (d : Int64) : ceF G 70 f d = .inl (G.2.1 0, (30, .inl f)) := rfl
theorem ce_71 (G : Wld) (f : Nat → Int32) (d : Int64) : ceF G 71 f d = .inl (G.2.1 0, (50, .inl f)) := rfl
theorem ce_72 (G : Wld) (f : Nat → Int32) (d : Int64) : ceF G 72 f d = .inl (G.2.1 2, (2, .inl f)) := rfl
def WS (G : Wld) (σ : Sto) : va_W := (List.range NC).map (fun k => (G.1 k, ceF G k (σ.1 k) (σ.2 k)))
def sc (σ : Sto) (k : Nat) (f : Nat → Int32) : Sto := (fun j => if j = k then f else σ.1 j, σ.2)
def su (σ : Sto) (k j : Nat) (v : Int32) : Sto := sc σ k (upd (σ.1 k) j v)
def sl (σ : Sto) (k : Nat) (v : Int64) : Sto := (σ.1, fun j => if j = k then v else σ.2 j)
theorem WS_at {G : Wld} {σ : Sto} {k : Nat} (hk : k < NC) : (WS G σ)[k]? = some (G.1 k, ceF G k (σ.1 k) (σ.2 k)) := by
  unfold WS
  rw [List.getElem?_map, List.getElem?_range hk]
  rfl
theorem WS_len (G : Wld) (σ : Sto) : (WS G σ).length = NC := by
  unfold WS
  rw [List.length_map, List.length_range]
theorem WS_sc {G : Wld} {σ : Sto} {k : Nat} (f : Nat → Int32) {e : va_E} (he : ceF G k f (σ.2 k) = e) : (WS G σ).set k (G.1 k, e) = WS G (sc σ k f) := by
  apply List.ext_getElem?
  intro i
  rcases Nat.lt_or_ge i NC with h | h
  · rw [WS_at h, List.getElem?_set]
    by_cases hi : k = i
    · subst hi
      rw [if_pos rfl, if_pos (by rw [WS_len]; exact h), ← he]
      show _ = some (G.1 k, ceF G k (if k = k then f else σ.1 k) (σ.2 k))
      rw [if_pos rfl]
    · rw [if_neg hi, WS_at h]
      show _ = some (G.1 i, ceF G i (if i = k then f else σ.1 i) (σ.2 i))
      rw [if_neg (fun h => hi h.symm)]
  · rw [List.getElem?_eq_none (by rw [List.length_set, WS_len]; exact h), List.getElem?_eq_none (by rw [WS_len]; exact h)]
theorem WS_sl {G : Wld} {σ : Sto} {k : Nat} (v : Int64) {e : va_E} (he : ceF G k (σ.1 k) v = e) : (WS G σ).set k (G.1 k, e) = WS G (sl σ k v) := by
  apply List.ext_getElem?
  intro i
  rcases Nat.lt_or_ge i NC with h | h
  · rw [WS_at h, List.getElem?_set]
    by_cases hi : k = i
    · subst hi
      rw [if_pos rfl, if_pos (by rw [WS_len]; exact h), ← he]
      show _ = some (G.1 k, ceF G k (σ.1 k) (if k = k then v else σ.2 k))
      rw [if_pos rfl]
    · rw [if_neg hi, WS_at h]
      show _ = some (G.1 i, ceF G i (σ.1 i) (if i = k then v else σ.2 i))
      rw [if_neg (fun h => hi h.symm)]
  · rw [List.getElem?_eq_none (by rw [List.length_set, WS_len]; exact h), List.getElem?_eq_none (by rw [WS_len]; exact h)]
theorem WS_D {G : Wld} {σ : Sto} {A : Nat → Prop} (hi : ∀ i j, i < NC → j < NC → G.1 i = G.1 j → i = j) (hA : ∀ k, k < NC → A (G.1 k)) : va_D A (WS G σ) := by
  have lt : ∀ {k : Nat} {q : Nat × va_E}, (WS G σ)[k]? = some q → k < NC := fun h => by
    have := (List.getElem?_eq_some_iff.mp h).1
    rwa [WS_len] at this
  refine ⟨fun i j p q h1 h2 e => ?_, fun k q h => ?_⟩
  · have a1 := lt h1
    have a2 := lt h2
    rw [WS_at a1] at h1
    rw [WS_at a2] at h2
    cases h1
    cases h2
    exact hi i j a1 a2 e
  · have a1 := lt h
    rw [WS_at a1] at h
    cases h
    exact hA k a1
theorem su_same (σ : Sto) (k j : Nat) (v : Int32) : (su σ k j v).1 k = upd (σ.1 k) j v := by
  show (if k = k then _ else _) = _
  rw [if_pos rfl]
theorem su_ne {σ : Sto} {k j a : Nat} {v : Int32} (h : a ≠ k) : (su σ k j v).1 a = σ.1 a := by
  show (if a = k then _ else _) = _
  rw [if_neg h]
theorem sc_same (σ : Sto) (k : Nat) (f : Nat → Int32) : (sc σ k f).1 k = f := by
  show (if k = k then _ else _) = _
  rw [if_pos rfl]
theorem sc_ne {σ : Sto} {k a : Nat} {f : Nat → Int32} (h : a ≠ k) : (sc σ k f).1 a = σ.1 a := by
  show (if a = k then _ else _) = _
  rw [if_neg h]
/-- which addresses are the world's -/
def AS (G : Wld) : Nat → Prop := fun q => ∃ k, k < NC ∧ q = G.1 k
end
section
/-! the machine, read as a pure store: V: from this store, these locals, this stack, this place the machine comes to its end -/
/-- program, launch, world outside, room, start, method, arguments, frames below, method, code, cells, slots, aim, what may change -/
abbrev Cxt : Type := Program × Launch × Env × Room × State × MethodId × Array Value × List Frame × Method × Code × Nat × Nat × (State → Prop) × (Nat → Prop)
abbrev xp (X : Cxt) : Program := X.1
abbrev xl (X : Cxt) : Launch := X.2.1
abbrev xe (X : Cxt) : Env := X.2.2.1
abbrev xR (X : Cxt) : Room := X.2.2.2.1
abbrev xs (X : Cxt) : State := X.2.2.2.2.1
abbrev xm (X : Cxt) : MethodId := X.2.2.2.2.2.1
abbrev xa (X : Cxt) : Array Value := X.2.2.2.2.2.2.1
abbrev xb (X : Cxt) : List Frame := X.2.2.2.2.2.2.2.1
abbrev xh (X : Cxt) : Method := X.2.2.2.2.2.2.2.2.1
abbrev xc (X : Cxt) : Code := X.2.2.2.2.2.2.2.2.2.1
abbrev xk (X : Cxt) : Nat := X.2.2.2.2.2.2.2.2.2.2.1
abbrev xn (X : Cxt) : Nat := X.2.2.2.2.2.2.2.2.2.2.2.1
abbrev xQ (X : Cxt) : State → Prop := X.2.2.2.2.2.2.2.2.2.2.2.2.1
abbrev xA (X : Cxt) : Nat → Prop := X.2.2.2.2.2.2.2.2.2.2.2.2.2
/-- the tables' words that every callee may be handed -/
def lw_gd : List Cond := lw_tbl.filter goodWord
theorem mem_gd {w : Cond} (h : w ∈ lw_tbl) (hg : goodWord w = true) : w ∈ lw_gd := List.mem_filter.mpr ⟨h, hg⟩
def V (G : Wld) (X : Cxt) (nL : Nat) (σ : Sto) (lv : List (Nat × Value)) (st : List Value) (pc : Nat) : Prop :=
  ∀ (H : Heap) (locs : List Loc) (ls : Array Slot), va_P G.2.2.1 vwCl (WS G σ) H → va_S (xA X) (xs X).heap H locs → lv_has ls nL lv →
    W (xp X) (xl X) (xe X) (xR X) (xs X) (xm X) (xa X) (xb X) (xh X) (xc X) H locs (xk X) (xn X) (xQ X) (F0 (xm X) pc ls st)
/-- the class's own static rows -/
def sNm (i : Nat) : String := if i = 0 then "MOST" else if i = 1 then "NUMBERS" else if i = 2 then "LEAST" else "GREATEST"
def sLn (i : Nat) : Nat := if i = 0 then 5 else if i = 1 then 5 else 15
def sTb (i : Nat) : List Int32 := if i = 0 then [1, 4, 6, 6, 4] else if i = 1 then [1, 2, 3, 1, 2] else if i = 2 then [1, 0, 0, 0, 0, 0, 0, 0, 0, 1, 0, 0, 1, 0, 0] else [60, 0, 0, 99, 9, 0, 20, 9, 200, 90, 0, 0, 20, 50, 0]
/-- the five words -/
def kIx (i : Nat) : Nat := if i = 0 then 111 else if i = 1 then 113 else if i = 2 then 115 else if i = 3 then 117 else 119
def kTx (i : Nat) : String := if i = 0 then "year" else if i = 1 then "bell" else if i = 2 then "spot" else if i = 3 then "beggar" else "hat"
def kLen : List Nat := [4, 4, 4, 6, 3]
def kByt : List (List Int32) := [[121, 101, 97, 114], [98, 101, 108, 108], [115, 112, 111, 116], [98, 101, 103, 103, 97, 114], [104, 97, 116]]
def SF (G : Wld) (A : Nat → Prop) (U : State) (H : Heap) : Prop :=
  (∀ i, i < 4 → va_Z "ShadowAlms" (sNm i) "[I" (.ref (G.2.2.2.1 i)) A U H ∧ va_T .int (G.2.2.2.1 i) (sLn i) (fun j => .int ((sTb i).getD j 0)) A U H) ∧
  va_Z "java/lang/String" "COMPACT_STRINGS" "Z" (.int 1) A U H ∧
  (va_Z "jdk/internal/util/Preconditions" "SIOOBE_FORMATTER" "Ljava/util/function/BiFunction;" G.2.2.2.2.2.2 A U H ∧ G.2.2.2.2.2.2.category = 1 ∧ (G.2.2.2.2.2.2 = .null ∨ ∃ t, G.2.2.2.2.2.2 = .ref t)) ∧
  vk_S 5 kLen kByt G.2.2.2.2.1 G.2.2.2.2.2.1 A U H ∧ ∀ i, i < 5 → vk_R "ShadowAlms$Reader" (kIx i) (kTx i) (G.2.2.2.2.1 i) U
theorem SF.warm {G : Wld} {A : Nat → Prop} {s U : State} {H : Heap} (hW : s.WarmedH U.vm) (h : SF G A s H) : SF G A U H :=
  ⟨fun i hi => ⟨va_Z.moved hW.alike (h.1 i hi).1, va_T.moved hW.alike (h.1 i hi).2⟩, va_Z.moved hW.alike h.2.1, ⟨va_Z.moved hW.alike h.2.2.1.1, h.2.2.1.2⟩, vk_S.moved hW.alike h.2.2.2.1, fun i hi => vk_R.warm hW (h.2.2.2.2 i hi)⟩
theorem SF.same {G : Wld} {A : Nat → Prop} {u U : State} {H : Heap} (hv : U.vm = u.vm) (h : SF G A u H) : SF G A U H := by
  have hA : u.vm.Alike U.vm := by rw [hv]; exact Vm.Alike.refl u.vm
  exact ⟨fun i hi => ⟨va_Z.moved hA (h.1 i hi).1, va_T.moved hA (h.1 i hi).2⟩, va_Z.moved hA h.2.1, ⟨va_Z.moved hA h.2.2.1.1, h.2.2.1.2⟩, vk_S.moved hA h.2.2.2.1, fun i hi => vk_R.same hv (h.2.2.2.2 i hi)⟩
theorem SF.kept {G : Wld} {A : Nat → Prop} {U : State} {H H1 : Heap} (h : SF G A U H) (hq : ∀ a : Nat, a < H.size → ¬ A a → H1[a]? = H[a]?) : SF G A U H1 :=
  ⟨fun i hi => ⟨(h.1 i hi).1.kept hq, (h.1 i hi).2.kept hq⟩, h.2.1.kept hq, ⟨h.2.2.1.1.kept hq, h.2.2.1.2⟩, h.2.2.2.1.kept hq, h.2.2.2.2⟩
theorem SF.narrow {G : Wld} {A B : Nat → Prop} {U : State} {H : Heap} (h : SF G A U H) (hAB : ∀ q, B q → A q) : SF G B U H :=
  ⟨fun i hi => ⟨(h.1 i hi).1.narrow hAB, (h.1 i hi).2.narrow hAB⟩, h.2.1.narrow hAB, ⟨h.2.2.1.1.narrow hAB, h.2.2.1.2⟩, h.2.2.2.1.narrow hAB, h.2.2.2.2⟩
def Cx (G : Wld) (X : Cxt) (own : String) (cc : ByteArray) (nL n : Nat) : Prop :=
  (xp X).tables.exec = Jvm.exec ∧ (xc X).code = cc ∧ (xc X).maxLocals = nL ∧ (xs X).vm.findClass own = some (xm X).cls ∧ (∀ w ∈ lw_gd, w.before (xa X) (xs X) = true) ∧ va_K G.2.2.1 vwCl (tyL G) (xs X) ∧
  (∀ i j, i < NC → j < NC → G.1 i = G.1 j → i = j) ∧ (∀ k, k < NC → xA X (G.1 k)) ∧ SF G (xA X) (xs X) (xs X).heap ∧ n ≤ (xR X).frames ∧ 50 * n ≤ (xR X).locals ∧ xk X ≤ (xR X).cells ∧ xn X ≤ (xR X).slots
/-- guards -/
def gd {β : Type} (b : Bool) (a : Option β) : Option β := match b with
  | true => a
  | false => none
theorem gd_some {β : Type} {b : Bool} {a : Option β} {y : β} (h : gd b a = some y) : b = true ∧ a = some y := by
  cases b with
  | true => exact ⟨rfl, h⟩
  | false => cases h
theorem gd_t {β : Type} {b : Bool} (a : Option β) (h : b = true) : gd b a = a := by rw [h]; rfl
def inB (i : Int32) (n : Nat) : Bool := decide (0 ≤ i.toInt ∧ i.toInt < n)
theorem inB_in {i : Int32} {n : Nat} (h : inB i n = true) : vp_in i n := vp_in_iff.mpr (of_decide_eq_true h)
def nzI (y : Int32) : Bool := decide (¬ y = 0)
def nzL (y : Int64) : Bool := decide (¬ y = 0)
def zB (v : Int32) : Bool := decide (v = 0 ∨ v = 1)
theorem it_t {β : Type} {c : Prop} [Decidable c] {a b : Option β} {y : β} (h : (if c then a else b) = some y) (hc : c) : a = some y := by rwa [if_pos hc] at h
theorem it_f {β : Type} {c : Prop} [Decidable c] {a b : Option β} {y : β} (h : (if c then a else b) = some y) (hc : ¬ c) : b = some y := by rwa [if_neg hc] at h
theorem bd_some {α β : Type} {f : Option α} {k : α → Option β} {y : β} (h : f.bind k = some y) : ∃ z, f = some z ∧ k z = some y := by
  cases f with
  | none => cases h
  | some z => exact ⟨z, rfl, h⟩
/-- loops: a step goes on, or ends -/
def lpF {α β : Type} (it : α → Option (α ⊕ β)) : Nat → α → Option β
  | 0, _ => none
  | n + 1, x => match it x with
    | none => none
    | some (.inl x') => lpF it n x'
    | some (.inr e) => some e
def FU : Nat := 200000
theorem lp_rule {α β : Type} {it : α → Option (α ⊕ β)} {Vh : α → Prop} {Ve : β → Prop} (hs : ∀ x y, it x = some y → (∀ x', y = .inl x' → Vh x') → (∀ e, y = .inr e → Ve e) → Vh x) : ∀ (n : Nat) (x : α) (e : β), lpF it n x = some e → Ve e → Vh x := by
  intro n
  induction n with
  | zero => intro x e h; cases h
  | succ n ih =>
    intro x e h he
    unfold lpF at h
    split at h
    · cases h
    · rename_i x' hx
      exact hs x _ hx (fun z hz => by cases hz; exact ih x' e h he) (fun z hz => by cases hz)
    · rename_i e' hx
      cases h
      exact hs x _ hx (fun z hz => by cases hz) (fun z hz => by cases hz; exact he)
def iR (x y : Int32) : Int32 := x - x / y * y
def lR (x y : Int64) : Int64 := x - x / y * y

section VROWS
variable {G : Wld} {X : Cxt} {own : String} {cc : ByteArray} {nL n : Nat} {σ : Sto} {lv : List (Nat × Value)} {st : List Value}
theorem v_iadd (pc : Nat) (C : Cx G X own cc nL n) {x y : Int32} (hd : decode cc pc = .ok (.iadd, 1))  (k : V G X nL σ lv (.int (x + y) :: st) (pc + 1)) : V G X nL σ lv (.int y :: .int x :: st) pc := by
  intro H locs ls hP hS hl
  exact lv_iadd C.1 C.2.1 hd  (k H locs ls hP hS hl)
theorem v_isub (pc : Nat) (C : Cx G X own cc nL n) {x y : Int32} (hd : decode cc pc = .ok (.isub, 1))  (k : V G X nL σ lv (.int (x - y) :: st) (pc + 1)) : V G X nL σ lv (.int y :: .int x :: st) pc := by
  intro H locs ls hP hS hl
  exact lv_isub C.1 C.2.1 hd  (k H locs ls hP hS hl)
theorem v_imul (pc : Nat) (C : Cx G X own cc nL n) {x y : Int32} (hd : decode cc pc = .ok (.imul, 1))  (k : V G X nL σ lv (.int (x * y) :: st) (pc + 1)) : V G X nL σ lv (.int y :: .int x :: st) pc := by
  intro H locs ls hP hS hl
  exact lv_imul C.1 C.2.1 hd  (k H locs ls hP hS hl)
theorem v_iand (pc : Nat) (C : Cx G X own cc nL n) {x y : Int32} (hd : decode cc pc = .ok (.iand, 1))  (k : V G X nL σ lv (.int (x &&& y) :: st) (pc + 1)) : V G X nL σ lv (.int y :: .int x :: st) pc := by
  intro H locs ls hP hS hl
  exact lv_iand C.1 C.2.1 hd  (k H locs ls hP hS hl)
theorem v_ior (pc : Nat) (C : Cx G X own cc nL n) {x y : Int32} (hd : decode cc pc = .ok (.ior, 1))  (k : V G X nL σ lv (.int (x ||| y) :: st) (pc + 1)) : V G X nL σ lv (.int y :: .int x :: st) pc := by
  intro H locs ls hP hS hl
  exact lv_ior C.1 C.2.1 hd  (k H locs ls hP hS hl)
theorem v_ixor (pc : Nat) (C : Cx G X own cc nL n) {x y : Int32} (hd : decode cc pc = .ok (.ixor, 1))  (k : V G X nL σ lv (.int (x ^^^ y) :: st) (pc + 1)) : V G X nL σ lv (.int y :: .int x :: st) pc := by
  intro H locs ls hP hS hl
  exact lv_ixor C.1 C.2.1 hd  (k H locs ls hP hS hl)
theorem v_ishl (pc : Nat) (C : Cx G X own cc nL n) {x y : Int32} (hd : decode cc pc = .ok (.ishl, 1))  (k : V G X nL σ lv (.int (x <<< (y &&& 31)) :: st) (pc + 1)) : V G X nL σ lv (.int y :: .int x :: st) pc := by
  intro H locs ls hP hS hl
  exact lv_ishl C.1 C.2.1 hd  (k H locs ls hP hS hl)
theorem v_ishr (pc : Nat) (C : Cx G X own cc nL n) {x y : Int32} (hd : decode cc pc = .ok (.ishr, 1))  (k : V G X nL σ lv (.int (x >>> (y &&& 31)) :: st) (pc + 1)) : V G X nL σ lv (.int y :: .int x :: st) pc := by
  intro H locs ls hP hS hl
  exact lv_ishr C.1 C.2.1 hd  (k H locs ls hP hS hl)
theorem v_ladd (pc : Nat) (C : Cx G X own cc nL n) {x y : Int64} (hd : decode cc pc = .ok (.ladd, 1))  (k : V G X nL σ lv (.long (x + y) :: st) (pc + 1)) : V G X nL σ lv (.long y :: .long x :: st) pc := by
  intro H locs ls hP hS hl
  exact lv_ladd C.1 C.2.1 hd  (k H locs ls hP hS hl)
theorem v_lsub (pc : Nat) (C : Cx G X own cc nL n) {x y : Int64} (hd : decode cc pc = .ok (.lsub, 1))  (k : V G X nL σ lv (.long (x - y) :: st) (pc + 1)) : V G X nL σ lv (.long y :: .long x :: st) pc := by
  intro H locs ls hP hS hl
  exact lv_lsub C.1 C.2.1 hd  (k H locs ls hP hS hl)
theorem v_lmul (pc : Nat) (C : Cx G X own cc nL n) {x y : Int64} (hd : decode cc pc = .ok (.lmul, 1))  (k : V G X nL σ lv (.long (x * y) :: st) (pc + 1)) : V G X nL σ lv (.long y :: .long x :: st) pc := by
  intro H locs ls hP hS hl
  exact lv_lmul C.1 C.2.1 hd  (k H locs ls hP hS hl)
theorem v_land (pc : Nat) (C : Cx G X own cc nL n) {x y : Int64} (hd : decode cc pc = .ok (.land, 1))  (k : V G X nL σ lv (.long (x &&& y) :: st) (pc + 1)) : V G X nL σ lv (.long y :: .long x :: st) pc := by
  intro H locs ls hP hS hl
  exact lv_land C.1 C.2.1 hd  (k H locs ls hP hS hl)
theorem v_lor (pc : Nat) (C : Cx G X own cc nL n) {x y : Int64} (hd : decode cc pc = .ok (.lor, 1))  (k : V G X nL σ lv (.long (x ||| y) :: st) (pc + 1)) : V G X nL σ lv (.long y :: .long x :: st) pc := by
  intro H locs ls hP hS hl
  exact lv_lor C.1 C.2.1 hd  (k H locs ls hP hS hl)
theorem v_lshl (pc : Nat) (C : Cx G X own cc nL n) {x : Int64} {y : Int32} (hd : decode cc pc = .ok (.lshl, 1))  (k : V G X nL σ lv (.long (x <<< (y.toInt64 &&& 63)) :: st) (pc + 1)) : V G X nL σ lv (.int y :: .long x :: st) pc := by
  intro H locs ls hP hS hl
  exact lv_lshl C.1 C.2.1 hd rfl (k H locs ls hP hS hl)
theorem v_lshr (pc : Nat) (C : Cx G X own cc nL n) {x : Int64} {y : Int32} (hd : decode cc pc = .ok (.lshr, 1))  (k : V G X nL σ lv (.long (x >>> (y.toInt64 &&& 63)) :: st) (pc + 1)) : V G X nL σ lv (.int y :: .long x :: st) pc := by
  intro H locs ls hP hS hl
  exact lv_lshr C.1 C.2.1 hd rfl (k H locs ls hP hS hl)
theorem v_lushr (pc : Nat) (C : Cx G X own cc nL n) {x : Int64} {y : Int32} (hd : decode cc pc = .ok (.lushr, 1))  (k : V G X nL σ lv (.long ((x.toUInt64 >>> (y.toInt64.toUInt64 &&& Int64.toUInt64 63)).toInt64) :: st) (pc + 1)) : V G X nL σ lv (.int y :: .long x :: st) pc := by
  intro H locs ls hP hS hl
  exact lv_lushr C.1 C.2.1 hd rfl (k H locs ls hP hS hl)
theorem v_lcmp (pc : Nat) (C : Cx G X own cc nL n) {x y : Int64} (hd : decode cc pc = .ok (.lcmp, 1))  (k : V G X nL σ lv (.int (lg_cmp x y) :: st) (pc + 1)) : V G X nL σ lv (.long y :: .long x :: st) pc := by
  intro H locs ls hP hS hl
  exact W.lcmp C.1 C.2.1 hd  (k H locs ls hP hS hl)
theorem v_i2l (pc : Nat) (C : Cx G X own cc nL n) {x : Int32} (hd : decode cc pc = .ok (.i2l, 1))  (k : V G X nL σ lv (.long x.toInt64 :: st) (pc + 1)) : V G X nL σ lv (.int x :: st) pc := by
  intro H locs ls hP hS hl
  exact lv_i2l C.1 C.2.1 hd rfl (k H locs ls hP hS hl)
theorem v_l2i (pc : Nat) (C : Cx G X own cc nL n) {x : Int64} (hd : decode cc pc = .ok (.l2i, 1))  (k : V G X nL σ lv (.int x.toInt32 :: st) (pc + 1)) : V G X nL σ lv (.long x :: st) pc := by
  intro H locs ls hP hS hl
  exact lv_l2i C.1 C.2.1 hd rfl (k H locs ls hP hS hl)
theorem v_i2c (pc : Nat) (C : Cx G X own cc nL n) {x : Int32} (hd : decode cc pc = .ok (.i2c, 1))  (k : V G X nL σ lv (.int (x.toUInt32 % 65536).toInt32 :: st) (pc + 1)) : V G X nL σ lv (.int x :: st) pc := by
  intro H locs ls hP hS hl
  exact lv_i2c C.1 C.2.1 hd rfl (k H locs ls hP hS hl)
theorem v_iconst (pc : Nat) (C : Cx G X own cc nL n) {c : Int} (v : Int32) (hd : decode cc pc = .ok (.iconst c, 1)) (hv : Int32.ofInt c = v) (k : V G X nL σ lv (.int v :: st) (pc + 1)) : V G X nL σ lv (st) pc := by
  intro H locs ls hP hS hl
  exact lv_iconst C.1 C.2.1 hd hv (k H locs ls hP hS hl)
theorem v_bipush (pc : Nat) (C : Cx G X own cc nL n) {c : Int} (v : Int32) (hd : decode cc pc = .ok (.bipush c, 2)) (hv : (Int8.ofInt c).toInt32 = v) (k : V G X nL σ lv (.int v :: st) (pc + 2)) : V G X nL σ lv (st) pc := by
  intro H locs ls hP hS hl
  exact lv_bipush C.1 C.2.1 hd hv (k H locs ls hP hS hl)
theorem v_sipush (pc : Nat) (C : Cx G X own cc nL n) {c : Int} (v : Int32) (hd : decode cc pc = .ok (.sipush c, 3)) (hv : (Int16.ofInt c).toInt32 = v) (k : V G X nL σ lv (.int v :: st) (pc + 3)) : V G X nL σ lv (st) pc := by
  intro H locs ls hP hS hl
  exact lv_sipush C.1 C.2.1 hd hv (k H locs ls hP hS hl)
theorem v_lconst (pc : Nat) (C : Cx G X own cc nL n) {c : Fin 2} (v : Int64) (hd : decode cc pc = .ok (.lconst c, 1)) (hv : Int64.ofNat (c : Nat) = v) (k : V G X nL σ lv (.long v :: st) (pc + 1)) : V G X nL σ lv (st) pc := by
  intro H locs ls hP hS hl
  exact lv_lconst C.1 C.2.1 hd hv (k H locs ls hP hS hl)
theorem v_dup (pc : Nat) (C : Cx G X own cc nL n) {v : Value} (hd : decode cc pc = .ok (.dup, 1)) (hv : v.category = 1) (k : V G X nL σ lv (v :: v :: st) (pc + 1)) : V G X nL σ lv (v :: st) pc := by
  intro H locs ls hP hS hl
  exact lv_dup C.1 C.2.1 hd hv (k H locs ls hP hS hl)
theorem v_dup2 (pc : Nat) (C : Cx G X own cc nL n) {v w : Value} (hd : decode cc pc = .ok (.dup2, 1)) (hv : v.category = 1) (hw : w.category = 1) (k : V G X nL σ lv (v :: w :: v :: w :: st) (pc + 1)) : V G X nL σ lv (v :: w :: st) pc := by
  intro H locs ls hP hS hl
  exact lv_dup2_11 C.1 C.2.1 hd hv hw (k H locs ls hP hS hl)
theorem v_pop (pc : Nat) (C : Cx G X own cc nL n) {v : Value} (hd : decode cc pc = .ok (.pop, 1)) (hv : v.category = 1) (k : V G X nL σ lv (st) (pc + 1)) : V G X nL σ lv (v :: st) pc := by
  intro H locs ls hP hS hl
  exact lv_pop C.1 C.2.1 hd hv (k H locs ls hP hS hl)
theorem v_ldc (pc : Nat) (C : Cx G X own cc nL n) {ix : Nat} {v : Int32} (hd : decode cc pc = .ok (.ldc ix, 2)) (hw : Cond.constant own ix v ∈ lw_gd) (k : V G X nL σ lv (.int v :: st) (pc + 2)) : V G X nL σ lv st pc := by
  intro H locs ls hP hS hl
  exact lv_ldc C.1 C.2.1 C.2.2.2.1 (C.2.2.2.2.1 _ hw) hd (k H locs ls hP hS hl)
theorem v_ldc_w (pc : Nat) (C : Cx G X own cc nL n) {ix : Nat} {v : Int32} (hd : decode cc pc = .ok (.ldc_w ix, 3)) (hw : Cond.constant own ix v ∈ lw_gd) (k : V G X nL σ lv (.int v :: st) (pc + 3)) : V G X nL σ lv st pc := by
  intro H locs ls hP hS hl
  exact lv_ldcw C.1 C.2.1 C.2.2.2.1 (C.2.2.2.2.1 _ hw) hd (k H locs ls hP hS hl)
theorem v_ldc2_w (pc : Nat) (C : Cx G X own cc nL n) {ix : Nat} {v : Int64} (hd : decode cc pc = .ok (.ldc2_w ix, 3)) (hw : Cond.constantLong own ix v ∈ lw_gd) (k : V G X nL σ lv (.long v :: st) (pc + 3)) : V G X nL σ lv st pc := by
  intro H locs ls hP hS hl
  exact lv_ldc2 C.1 C.2.1 C.2.2.2.1 (C.2.2.2.2.1 _ hw) hd (k H locs ls hP hS hl)
theorem v_iload_n (pc : Nat) (C : Cx G X own cc nL n) {j : Fin 4} (i q : Nat) {x : Int32} (hd : decode cc pc = .ok (.iload_n j, 1)) (hi : (j : Nat) = i) (hq : lv[q]? = some (i, .int x)) (k : V G X nL σ lv (.int x :: st) (pc + 1)) : V G X nL σ lv st pc := by
  intro H locs ls hP hS hl
  exact lv_iload_n C.1 C.2.1 hd hi (lv_at hl q hq) (k H locs ls hP hS hl)
theorem v_iload (pc : Nat) (C : Cx G X own cc nL n) (i q : Nat) {x : Int32} (hd : decode cc pc = .ok (.iload i, 2)) (hq : lv[q]? = some (i, .int x)) (k : V G X nL σ lv (.int x :: st) (pc + 2)) : V G X nL σ lv st pc := by
  intro H locs ls hP hS hl
  exact lv_iload C.1 C.2.1 hd (lv_at hl q hq) (k H locs ls hP hS hl)
theorem v_lload_n (pc : Nat) (C : Cx G X own cc nL n) {j : Fin 4} (i q : Nat) {x : Int64} (hd : decode cc pc = .ok (.lload_n j, 1)) (hi : (j : Nat) = i) (hq : lv[q]? = some (i, .long x)) (k : V G X nL σ lv (.long x :: st) (pc + 1)) : V G X nL σ lv st pc := by
  intro H locs ls hP hS hl
  exact lv_lload_n C.1 C.2.1 hd hi (lv_at hl q hq) (k H locs ls hP hS hl)
theorem v_lload (pc : Nat) (C : Cx G X own cc nL n) (i q : Nat) {x : Int64} (hd : decode cc pc = .ok (.lload i, 2)) (hq : lv[q]? = some (i, .long x)) (k : V G X nL σ lv (.long x :: st) (pc + 2)) : V G X nL σ lv st pc := by
  intro H locs ls hP hS hl
  exact lv_lload C.1 C.2.1 hd (lv_at hl q hq) (k H locs ls hP hS hl)
theorem v_aload_n (pc : Nat) (C : Cx G X own cc nL n) {j : Fin 4} (i q : Nat) {x : Nat} (hd : decode cc pc = .ok (.aload_n j, 1)) (hi : (j : Nat) = i) (hq : lv[q]? = some (i, .ref x)) (k : V G X nL σ lv (.ref x :: st) (pc + 1)) : V G X nL σ lv st pc := by
  intro H locs ls hP hS hl
  exact lv_aload_n C.1 C.2.1 hd hi (lv_at hl q hq) (k H locs ls hP hS hl)
theorem v_aload (pc : Nat) (C : Cx G X own cc nL n) (i q : Nat) {x : Nat} (hd : decode cc pc = .ok (.aload i, 2)) (hq : lv[q]? = some (i, .ref x)) (k : V G X nL σ lv (.ref x :: st) (pc + 2)) : V G X nL σ lv st pc := by
  intro H locs ls hP hS hl
  exact lv_aload C.1 C.2.1 hd (lv_at hl q hq) (k H locs ls hP hS hl)
theorem v_istore_n (pc : Nat) (C : Cx G X own cc nL n) {j : Fin 4} (i : Nat) {x : Int32} {lv2 : List (Nat × Value)} (hd : decode cc pc = .ok (.istore_n j, 1)) (hi : (j : Nat) = i) (hn : i < nL) (hl2 : (i, Value.int x) :: lv.filter (fun q => !(q.1 == i) && !(q.1 + 1 == i && q.2.category == 2)) = lv2) (k : V G X nL σ lv2 st (pc + 1)) : V G X nL σ lv (.int x :: st) pc := by
  intro H locs ls hP hS hl
  exact lv_istore_n C.1 C.2.1 hd hi hl hn hl2 (fun ls2 h2 => k H locs ls2 hP hS h2)
theorem v_istore (pc : Nat) (C : Cx G X own cc nL n) (i : Nat) {x : Int32} {lv2 : List (Nat × Value)} (hd : decode cc pc = .ok (.istore i, 2)) (hn : i < nL) (hl2 : (i, Value.int x) :: lv.filter (fun q => !(q.1 == i) && !(q.1 + 1 == i && q.2.category == 2)) = lv2) (k : V G X nL σ lv2 st (pc + 2)) : V G X nL σ lv (.int x :: st) pc := by
  intro H locs ls hP hS hl
  exact lv_istore C.1 C.2.1 hd hl hn hl2 (fun ls2 h2 => k H locs ls2 hP hS h2)
theorem v_astore_n (pc : Nat) (C : Cx G X own cc nL n) {j : Fin 4} (i : Nat) {x : Nat} {lv2 : List (Nat × Value)} (hd : decode cc pc = .ok (.astore_n j, 1)) (hi : (j : Nat) = i) (hn : i < nL) (hl2 : (i, Value.ref x) :: lv.filter (fun q => !(q.1 == i) && !(q.1 + 1 == i && q.2.category == 2)) = lv2) (k : V G X nL σ lv2 st (pc + 1)) : V G X nL σ lv (.ref x :: st) pc := by
  intro H locs ls hP hS hl
  exact lv_astore_n C.1 C.2.1 hd hi hl hn hl2 (fun ls2 h2 => k H locs ls2 hP hS h2)
theorem v_astore (pc : Nat) (C : Cx G X own cc nL n) (i : Nat) {x : Nat} {lv2 : List (Nat × Value)} (hd : decode cc pc = .ok (.astore i, 2)) (hn : i < nL) (hl2 : (i, Value.ref x) :: lv.filter (fun q => !(q.1 == i) && !(q.1 + 1 == i && q.2.category == 2)) = lv2) (k : V G X nL σ lv2 st (pc + 2)) : V G X nL σ lv (.ref x :: st) pc := by
  intro H locs ls hP hS hl
  exact lv_astore C.1 C.2.1 hd hl hn hl2 (fun ls2 h2 => k H locs ls2 hP hS h2)
theorem v_iinc (pc : Nat) (C : Cx G X own cc nL n) (i q : Nat) {c : Int} {x : Int32} (v : Int32) {lv2 : List (Nat × Value)} (hd : decode cc pc = .ok (.iinc i c, 3)) (hq : lv[q]? = some (i, .int x)) (hv : Int32.ofInt c = v) (hn : i < nL) (hl2 : (i, Value.int (x + v)) :: lv.filter (fun q => !(q.1 == i) && !(q.1 + 1 == i && q.2.category == 2)) = lv2) (k : V G X nL σ lv2 st (pc + 3)) : V G X nL σ lv st pc := by
  intro H locs ls hP hS hl
  exact lv_iinc C.1 C.2.1 hd hl hq (by rw [hv]) hn hl2 (fun ls2 h2 => k H locs ls2 hP hS h2)
/-- fewer locals, in another order -/
theorem v_sub {lv2 : List (Nat × Value)} {pc : Nat} (ks : List Nat) (h : lv_pick lv ks = lv2) (k : V G X nL σ lv2 st pc) : V G X nL σ lv st pc := by
  intro H locs ls hP hS hl
  exact k H locs ls hP hS (lv_sub hl ks h)
theorem v_goto (pc : Nat) (C : Cx G X own cc nL n) {off : Int} (tgt : Nat) (hd : decode cc pc = .ok (.goto off, 3)) (ht : (pc : Int) + off = (tgt : Int)) (k : V G X nL σ lv st tgt) : V G X nL σ lv st pc := by
  intro H locs ls hP hS hl
  exact lv_goto C.1 C.2.1 hd ht (k H locs ls hP hS hl)
/-- division -/
theorem v_idiv (pc : Nat) (C : Cx G X own cc nL n) {x y : Int32} {β : Type} {F : Option β} {r : β} (hd : decode cc pc = .ok (.idiv, 1)) (h : gd (nzI y) F = some r) (k : F = some r → V G X nL σ lv (.int (x / y) :: st) (pc + 1)) : V G X nL σ lv (.int y :: .int x :: st) pc := by
  intro H locs ls hP hS hl
  exact lv_idiv C.1 C.2.1 hd (of_decide_eq_true (gd_some h).1) (k (gd_some h).2 H locs ls hP hS hl)
theorem v_irem (pc : Nat) (C : Cx G X own cc nL n) {x y : Int32} {β : Type} {F : Option β} {r : β} (hd : decode cc pc = .ok (.irem, 1)) (h : gd (nzI y) F = some r) (k : F = some r → V G X nL σ lv (.int (iR x y) :: st) (pc + 1)) : V G X nL σ lv (.int y :: .int x :: st) pc := by
  intro H locs ls hP hS hl
  exact lv_irem C.1 C.2.1 hd (of_decide_eq_true (gd_some h).1) (k (gd_some h).2 H locs ls hP hS hl)
theorem v_lrem (pc : Nat) (C : Cx G X own cc nL n) {x y : Int64} {β : Type} {F : Option β} {r : β} (hd : decode cc pc = .ok (.lrem, 1)) (h : gd (nzL y) F = some r) (k : F = some r → V G X nL σ lv (.long (lR x y) :: st) (pc + 1)) : V G X nL σ lv (.long y :: .long x :: st) pc := by
  intro H locs ls hP hS hl
  exact lv_lrem C.1 C.2.1 hd (of_decide_eq_true (gd_some h).1) (k (gd_some h).2 H locs ls hP hS hl)
/-- branches, led by the pure reading h -/
theorem v_if_eq (pc : Nat) (C : Cx G X own cc nL n) {x : Int32} {off : Int} (tgt : Nat) {β : Type} {F E : Option β} {r : β} (hd : decode cc pc = .ok (.ifCond .eq off, 3)) (ht : (pc : Int) + off = (tgt : Int)) (h : (if x = 0 then F else E) = some r) (kt : F = some r → V G X nL σ lv st tgt) (kf : E = some r → V G X nL σ lv st (pc + 3)) : V G X nL σ lv (.int x :: st) pc := by
  intro H locs ls hP hS hl
  exact lv_if_eq C.1 C.2.1 hd ht (fun c => kt (it_t h c) H locs ls hP hS hl) (fun c => kf (it_f h c) H locs ls hP hS hl)
theorem v_icmp_eq (pc : Nat) (C : Cx G X own cc nL n) {x y : Int32} {off : Int} (tgt : Nat) {β : Type} {F E : Option β} {r : β} (hd : decode cc pc = .ok (.if_icmp .eq off, 3)) (ht : (pc : Int) + off = (tgt : Int)) (h : (if x = y then F else E) = some r) (kt : F = some r → V G X nL σ lv st tgt) (kf : E = some r → V G X nL σ lv st (pc + 3)) : V G X nL σ lv (.int y :: .int x :: st) pc := by
  intro H locs ls hP hS hl
  exact lv_icmp_eq C.1 C.2.1 hd ht (fun c => kt (it_t h c) H locs ls hP hS hl) (fun c => kf (it_f h c) H locs ls hP hS hl)
theorem v_if_lt (pc : Nat) (C : Cx G X own cc nL n) {x : Int32} {off : Int} (tgt : Nat) {β : Type} {F E : Option β} {r : β} (hd : decode cc pc = .ok (.ifCond .lt off, 3)) (ht : (pc : Int) + off = (tgt : Int)) (h : (if x < 0 then F else E) = some r) (kt : F = some r → V G X nL σ lv st tgt) (kf : E = some r → V G X nL σ lv st (pc + 3)) : V G X nL σ lv (.int x :: st) pc := by
  intro H locs ls hP hS hl
  exact lv_if_lt C.1 C.2.1 hd ht (fun c => kt (it_t h c) H locs ls hP hS hl) (fun c => kf (it_f h c) H locs ls hP hS hl)
theorem v_icmp_lt (pc : Nat) (C : Cx G X own cc nL n) {x y : Int32} {off : Int} (tgt : Nat) {β : Type} {F E : Option β} {r : β} (hd : decode cc pc = .ok (.if_icmp .lt off, 3)) (ht : (pc : Int) + off = (tgt : Int)) (h : (if x < y then F else E) = some r) (kt : F = some r → V G X nL σ lv st tgt) (kf : E = some r → V G X nL σ lv st (pc + 3)) : V G X nL σ lv (.int y :: .int x :: st) pc := by
  intro H locs ls hP hS hl
  exact lv_icmp_lt C.1 C.2.1 hd ht (fun c => kt (it_t h c) H locs ls hP hS hl) (fun c => kf (it_f h c) H locs ls hP hS hl)
theorem v_if_ge (pc : Nat) (C : Cx G X own cc nL n) {x : Int32} {off : Int} (tgt : Nat) {β : Type} {F E : Option β} {r : β} (hd : decode cc pc = .ok (.ifCond .ge off, 3)) (ht : (pc : Int) + off = (tgt : Int)) (h : (if 0 ≤ x then F else E) = some r) (kt : F = some r → V G X nL σ lv st tgt) (kf : E = some r → V G X nL σ lv st (pc + 3)) : V G X nL σ lv (.int x :: st) pc := by
  intro H locs ls hP hS hl
  exact lv_if_ge C.1 C.2.1 hd ht (fun c => kt (it_t h c) H locs ls hP hS hl) (fun c => kf (it_f h c) H locs ls hP hS hl)
theorem v_icmp_ge (pc : Nat) (C : Cx G X own cc nL n) {x y : Int32} {off : Int} (tgt : Nat) {β : Type} {F E : Option β} {r : β} (hd : decode cc pc = .ok (.if_icmp .ge off, 3)) (ht : (pc : Int) + off = (tgt : Int)) (h : (if y ≤ x then F else E) = some r) (kt : F = some r → V G X nL σ lv st tgt) (kf : E = some r → V G X nL σ lv st (pc + 3)) : V G X nL σ lv (.int y :: .int x :: st) pc := by
  intro H locs ls hP hS hl
  exact lv_icmp_ge C.1 C.2.1 hd ht (fun c => kt (it_t h c) H locs ls hP hS hl) (fun c => kf (it_f h c) H locs ls hP hS hl)
theorem v_if_gt (pc : Nat) (C : Cx G X own cc nL n) {x : Int32} {off : Int} (tgt : Nat) {β : Type} {F E : Option β} {r : β} (hd : decode cc pc = .ok (.ifCond .gt off, 3)) (ht : (pc : Int) + off = (tgt : Int)) (h : (if 0 < x then F else E) = some r) (kt : F = some r → V G X nL σ lv st tgt) (kf : E = some r → V G X nL σ lv st (pc + 3)) : V G X nL σ lv (.int x :: st) pc := by
  intro H locs ls hP hS hl
  exact lv_if_gt C.1 C.2.1 hd ht (fun c => kt (it_t h c) H locs ls hP hS hl) (fun c => kf (it_f h c) H locs ls hP hS hl)
theorem v_icmp_gt (pc : Nat) (C : Cx G X own cc nL n) {x y : Int32} {off : Int} (tgt : Nat) {β : Type} {F E : Option β} {r : β} (hd : decode cc pc = .ok (.if_icmp .gt off, 3)) (ht : (pc : Int) + off = (tgt : Int)) (h : (if y < x then F else E) = some r) (kt : F = some r → V G X nL σ lv st tgt) (kf : E = some r → V G X nL σ lv st (pc + 3)) : V G X nL σ lv (.int y :: .int x :: st) pc := by
  intro H locs ls hP hS hl
  exact lv_icmp_gt C.1 C.2.1 hd ht (fun c => kt (it_t h c) H locs ls hP hS hl) (fun c => kf (it_f h c) H locs ls hP hS hl)
theorem v_if_le (pc : Nat) (C : Cx G X own cc nL n) {x : Int32} {off : Int} (tgt : Nat) {β : Type} {F E : Option β} {r : β} (hd : decode cc pc = .ok (.ifCond .le off, 3)) (ht : (pc : Int) + off = (tgt : Int)) (h : (if x ≤ 0 then F else E) = some r) (kt : F = some r → V G X nL σ lv st tgt) (kf : E = some r → V G X nL σ lv st (pc + 3)) : V G X nL σ lv (.int x :: st) pc := by
  intro H locs ls hP hS hl
  exact lv_if_le C.1 C.2.1 hd ht (fun c => kt (it_t h c) H locs ls hP hS hl) (fun c => kf (it_f h c) H locs ls hP hS hl)
theorem v_icmp_le (pc : Nat) (C : Cx G X own cc nL n) {x y : Int32} {off : Int} (tgt : Nat) {β : Type} {F E : Option β} {r : β} (hd : decode cc pc = .ok (.if_icmp .le off, 3)) (ht : (pc : Int) + off = (tgt : Int)) (h : (if x ≤ y then F else E) = some r) (kt : F = some r → V G X nL σ lv st tgt) (kf : E = some r → V G X nL σ lv st (pc + 3)) : V G X nL σ lv (.int y :: .int x :: st) pc := by
  intro H locs ls hP hS hl
  exact lv_icmp_le C.1 C.2.1 hd ht (fun c => kt (it_t h c) H locs ls hP hS hl) (fun c => kf (it_f h c) H locs ls hP hS hl)
theorem v_if_ne (pc : Nat) (C : Cx G X own cc nL n) {x : Int32} {off : Int} (tgt : Nat) {β : Type} {F E : Option β} {r : β} (hd : decode cc pc = .ok (.ifCond .ne off, 3)) (ht : (pc : Int) + off = (tgt : Int)) (h : (if x = 0 then E else F) = some r) (kt : F = some r → V G X nL σ lv st tgt) (kf : E = some r → V G X nL σ lv st (pc + 3)) : V G X nL σ lv (.int x :: st) pc := by
  intro H locs ls hP hS hl
  exact lv_if_ne C.1 C.2.1 hd ht (fun c => kt (it_f h c) H locs ls hP hS hl) (fun c => kf (it_t h c) H locs ls hP hS hl)
theorem v_icmp_ne (pc : Nat) (C : Cx G X own cc nL n) {x y : Int32} {off : Int} (tgt : Nat) {β : Type} {F E : Option β} {r : β} (hd : decode cc pc = .ok (.if_icmp .ne off, 3)) (ht : (pc : Int) + off = (tgt : Int)) (h : (if x = y then E else F) = some r) (kt : F = some r → V G X nL σ lv st tgt) (kf : E = some r → V G X nL σ lv st (pc + 3)) : V G X nL σ lv (.int y :: .int x :: st) pc := by
  intro H locs ls hP hS hl
  exact lv_icmp_ne C.1 C.2.1 hd ht (fun c => kt (it_f h c) H locs ls hP hS hl) (fun c => kf (it_t h c) H locs ls hP hS hl)
/-- switches: in the table or out of it; the pure reading tests the places one by one -/
theorem v_tableOut (pc : Nat) (C : Cx G X own cc nL n) {dflt lo hi : Int} {offs : Array Int} {len : Nat} {x : Int32} (tgt : Nat) (hd : decode cc pc = .ok (.tableswitch dflt lo hi offs, len)) (h : x.toInt < lo ∨ hi < x.toInt) (ht : (pc : Int) + dflt = (tgt : Int)) (k : V G X nL σ lv st tgt) : V G X nL σ lv (.int x :: st) pc := by
  intro H locs ls hP hS hl
  exact lv_tableOut C.1 C.2.1 hd h ht (k H locs ls hP hS hl)
theorem v_tableIn (pc : Nat) (C : Cx G X own cc nL n) {dflt lo hi : Int} {offs : Array Int} {len : Nat} {x : Int32} {off : Int} (tgt : Nat) (hd : decode cc pc = .ok (.tableswitch dflt lo hi offs, len)) (h1 : ¬ x.toInt < lo) (h2 : ¬ hi < x.toInt) (ho : offs[(x.toInt - lo).toNat]? = some off) (ht : (pc : Int) + off = (tgt : Int)) (k : V G X nL σ lv st tgt) : V G X nL σ lv (.int x :: st) pc := by
  intro H locs ls hP hS hl
  exact lv_tableIn C.1 C.2.1 hd h1 h2 ho ht (k H locs ls hP hS hl)
/-- fields -/
theorem v_get (pc : Nat) (C : Cx G X own cc nL n) {ci N ix : Nat} {CN : String} {T : u_T} {fs : List Value} {v : Value} (k slot : Nat) (hk : k < NC) (hce : ceF G k (σ.1 k) (σ.2 k) = .inr (ci, fs)) (hc : vwCl[ci]? = some (CN, T, N)) (hin : ∀ w ∈ u_ws CN T N, w ∈ lw_gd) (hs : slot < N) (hw : Cond.fieldLink own ix (T slot).1 (T slot).2.1 (T slot).2.2.1 ∈ lw_gd) (hv : fs[slot]? = some v) (hd : decode cc pc = .ok (.getfield ix, 3)) (kk : V G X nL σ lv (v :: st) (pc + 3)) : V G X nL σ lv (.ref (G.1 k) :: st) pc := by
  intro H locs ls hP hS hl
  exact va_get C.1 C.2.1 C.2.2.2.2.1 hin C.2.2.2.1 C.2.2.2.2.2.1 hP k (by rw [WS_at hk, hce]) hc slot hs (C.2.2.2.2.1 _ hw) (fun _ h => h) hv hd (kk H locs ls hP hS hl)
theorem v_put (pc : Nat) (C : Cx G X own cc nL n) {ci N ix : Nat} {CN : String} {T : u_T} {ty0 : Nat → FieldType} {fs : List Value} {v : Int32} (k slot : Nat) (hk : k < NC) (hce : ceF G k (σ.1 k) (σ.2 k) = .inr (ci, fs)) (hce2 : ceF G k (upd (σ.1 k) slot v) (σ.2 k) = .inr (ci, fs.set slot (.int v))) (hc : vwCl[ci]? = some (CN, T, N)) (hin : ∀ w ∈ u_ws CN T N, w ∈ lw_gd) (hty : ∀ k, k < N → parseFieldDescriptor (T k).2.2.1 = some (ty0 k)) (hnm : ∀ a, a < N → ∀ b, b < N → a ≠ b → (T a).2.1 ≠ (T b).2.1) (hs : slot < N) (hw : Cond.fieldLink own ix (T slot).1 (T slot).2.1 (T slot).2.2.1 ∈ lw_gd) (hfin : (T slot).2.2.2 = false) (hnar : narrow (ty0 slot) (.int v) = .int v) (hfit : fits (ty0 slot) (.int v) = true) (hlen : slot < fs.length) (hd : decode cc pc = .ok (.putfield ix, 3)) (kk : V G X nL (su σ k slot v) lv st (pc + 3)) : V G X nL σ lv (.int v :: .ref (G.1 k) :: st) pc := by
  intro H locs ls hP hS hl
  refine va_put C.1 C.2.1 C.2.2.2.2.1 hin ty0 hty hnm C.2.2.2.1 C.2.2.2.2.2.1 hP (WS_D C.2.2.2.2.2.2.1 C.2.2.2.2.2.2.2.1) hS k (by rw [WS_at hk, hce]) hc slot hs (C.2.2.2.2.1 _ hw) (fun _ h => h) hfin (hty slot hs) hnar hfit hlen hd (fun H1 locs1 hP1 hD1 hS1 => ?_)
  rw [WS_sc _ hce2] at hP1
  exact kk H1 locs1 ls hP1 hS1 hl
theorem v_putL (pc : Nat) (C : Cx G X own cc nL n) {ci N ix : Nat} {CN : String} {T : u_T} {ty0 : Nat → FieldType} {fs : List Value} {v : Int64} (k slot : Nat) (hk : k < NC) (hce : ceF G k (σ.1 k) (σ.2 k) = .inr (ci, fs)) (hce2 : ceF G k (σ.1 k) v = .inr (ci, fs.set slot (.long v))) (hc : vwCl[ci]? = some (CN, T, N)) (hin : ∀ w ∈ u_ws CN T N, w ∈ lw_gd) (hty : ∀ k, k < N → parseFieldDescriptor (T k).2.2.1 = some (ty0 k)) (hnm : ∀ a, a < N → ∀ b, b < N → a ≠ b → (T a).2.1 ≠ (T b).2.1) (hs : slot < N) (hw : Cond.fieldLink own ix (T slot).1 (T slot).2.1 (T slot).2.2.1 ∈ lw_gd) (hfin : (T slot).2.2.2 = false) (hnar : narrow (ty0 slot) (.long v) = .long v) (hfit : fits (ty0 slot) (.long v) = true) (hlen : slot < fs.length) (hd : decode cc pc = .ok (.putfield ix, 3)) (kk : V G X nL (sl σ k v) lv st (pc + 3)) : V G X nL σ lv (.long v :: .ref (G.1 k) :: st) pc := by
  intro H locs ls hP hS hl
  refine va_put C.1 C.2.1 C.2.2.2.2.1 hin ty0 hty hnm C.2.2.2.1 C.2.2.2.2.2.1 hP (WS_D C.2.2.2.2.2.2.1 C.2.2.2.2.2.2.2.1) hS k (by rw [WS_at hk, hce]) hc slot hs (C.2.2.2.2.1 _ hw) (fun _ h => h) hfin (hty slot hs) hnar hfit hlen hd (fun H1 locs1 hP1 hD1 hS1 => ?_)
  rw [WS_sl _ hce2] at hP1
  exact kk H1 locs1 ls hP1 hS1 hl
/-- arrays -/
theorem v_iald (pc : Nat) (C : Cx G X own cc nL n) (k : Nat) {m : Nat} {i : Int32} {β : Type} {F : Option β} {r : β} (hk : k < NC) (hce : ∀ f d, ceF G k f d = .inl (G.2.1 0, (m, .inl f))) (hd : decode cc pc = .ok (.iaload, 1)) (h : gd (inB i m) F = some r) (kk : F = some r → V G X nL σ lv (.int (σ.1 k i.toNatClampNeg) :: st) (pc + 1)) : V G X nL σ lv (.int i :: .ref (G.1 k) :: st) pc := by
  intro H locs ls hP hS hl
  exact va_iald C.1 C.2.1 C.2.2.2.2.2.1 hP k 0 (by rw [WS_at hk, hce]) rfl (inB_in (gd_some h).1) hd (kk (gd_some h).2 H locs ls hP hS hl)
theorem v_cald (pc : Nat) (C : Cx G X own cc nL n) (k : Nat) {m : Nat} {i : Int32} {β : Type} {F : Option β} {r : β} (hk : k < NC) (hce : ∀ f d, ceF G k f d = .inl (G.2.1 1, (m, .inl f))) (hd : decode cc pc = .ok (.caload, 1)) (h : gd (inB i m) F = some r) (kk : F = some r → V G X nL σ lv (.int (σ.1 k i.toNatClampNeg) :: st) (pc + 1)) : V G X nL σ lv (.int i :: .ref (G.1 k) :: st) pc := by
  intro H locs ls hP hS hl
  exact va_cald C.1 C.2.1 C.2.2.2.2.2.1 hP k 1 (by rw [WS_at hk, hce]) rfl (inB_in (gd_some h).1) hd (kk (gd_some h).2 H locs ls hP hS hl)
theorem v_zald (pc : Nat) (C : Cx G X own cc nL n) (k : Nat) {m : Nat} {i : Int32} {β : Type} {F : Option β} {r : β} (hk : k < NC) (hce : ∀ f d, ceF G k f d = .inl (G.2.1 2, (m, .inl f))) (hd : decode cc pc = .ok (.baload, 1)) (h : gd (inB i m) F = some r) (kk : F = some r → V G X nL σ lv (.int (σ.1 k i.toNatClampNeg) :: st) (pc + 1)) : V G X nL σ lv (.int i :: .ref (G.1 k) :: st) pc := by
  intro H locs ls hP hS hl
  exact va_zald C.1 C.2.1 C.2.2.2.2.2.1 hP k 2 (by rw [WS_at hk, hce]) rfl (inB_in (gd_some h).1) hd (kk (gd_some h).2 H locs ls hP hS hl)
theorem v_iast (pc : Nat) (C : Cx G X own cc nL n) (k : Nat) {m : Nat} {i x : Int32} {β : Type} {F : Option β} {r : β} (hk : k < NC) (hce : ∀ f d, ceF G k f d = .inl (G.2.1 0, (m, .inl f))) (hd : decode cc pc = .ok (.iastore, 1)) (h : gd (inB i m) F = some r) (kk : F = some r → V G X nL (su σ k i.toNatClampNeg x) lv st (pc + 1)) : V G X nL σ lv (.int x :: .int i :: .ref (G.1 k) :: st) pc := by
  intro H locs ls hP hS hl
  refine va_iast C.1 C.2.1 C.2.2.2.2.2.1 hP (WS_D C.2.2.2.2.2.2.1 C.2.2.2.2.2.2.2.1) hS k 0 (by rw [WS_at hk, hce]) rfl (inB_in (gd_some h).1) hd (fun H1 locs1 hP1 hD1 hS1 => ?_)
  rw [WS_sc _ (hce _ _)] at hP1
  exact kk (gd_some h).2 H1 locs1 ls hP1 hS1 hl
theorem v_cast (pc : Nat) (C : Cx G X own cc nL n) (k : Nat) {m : Nat} {i x : Int32} {β : Type} {F : Option β} {r : β} (hk : k < NC) (hce : ∀ f d, ceF G k f d = .inl (G.2.1 1, (m, .inl f))) (hd : decode cc pc = .ok (.castore, 1)) (h : gd (inB i m) F = some r) (kk : F = some r → V G X nL (su σ k i.toNatClampNeg (vp_nar .char x)) lv st (pc + 1)) : V G X nL σ lv (.int x :: .int i :: .ref (G.1 k) :: st) pc := by
  intro H locs ls hP hS hl
  refine va_cast C.1 C.2.1 C.2.2.2.2.2.1 hP (WS_D C.2.2.2.2.2.2.1 C.2.2.2.2.2.2.2.1) hS k 1 (by rw [WS_at hk, hce]) rfl (inB_in (gd_some h).1) hd (fun H1 locs1 hP1 hD1 hS1 => ?_)
  rw [WS_sc _ (hce _ _)] at hP1
  exact kk (gd_some h).2 H1 locs1 ls hP1 hS1 hl
theorem v_zast (pc : Nat) (C : Cx G X own cc nL n) (k : Nat) {m : Nat} {i x : Int32} {β : Type} {F : Option β} {r : β} (hk : k < NC) (hce : ∀ f d, ceF G k f d = .inl (G.2.1 2, (m, .inl f))) (hd : decode cc pc = .ok (.bastore, 1)) (h : gd (inB i m) F = some r) (kk : F = some r → V G X nL (su σ k i.toNatClampNeg (vp_nar .boolean x)) lv st (pc + 1)) : V G X nL σ lv (.int x :: .int i :: .ref (G.1 k) :: st) pc := by
  intro H locs ls hP hS hl
  refine va_zast C.1 C.2.1 C.2.2.2.2.2.1 hP (WS_D C.2.2.2.2.2.2.1 C.2.2.2.2.2.2.2.1) hS k 2 (by rw [WS_at hk, hce]) rfl (inB_in (gd_some h).1) hd (fun H1 locs1 hP1 hD1 hS1 => ?_)
  rw [WS_sc _ (hce _ _)] at hP1
  exact kk (gd_some h).2 H1 locs1 ls hP1 hS1 hl
theorem v_alen (pc : Nat) (C : Cx G X own cc nL n) (k t : Nat) {m : Nat} (v : Int32) {ty : FieldType} {cA : ClassId} (hk : k < NC) (hce : ∀ f d, ceF G k f d = .inl (cA, (m, .inl f))) (ht : (tyL G)[t]? = some (cA, ty)) (hv : Int32.ofNat m = v) (hd : decode cc pc = .ok (.arraylength, 1)) (kk : V G X nL σ lv (.int v :: st) (pc + 1)) : V G X nL σ lv (.ref (G.1 k) :: st) pc := by
  intro H locs ls hP hS hl
  exact va_alen C.1 C.2.1 C.2.2.2.2.2.1 hP k t (by rw [WS_at hk, hce]) ht hv hd (kk H locs ls hP hS hl)
theorem v_copy (pc : Nat) (C : Cx G X own cc nL n) {ix : Nat} (k0 k1 : Nat) {m0 m1 : Nat} {sp dp w : Int32} {β : Type} {F : Option β} {r : β} (hk0 : k0 < NC) (hk1 : k1 < NC) (hce0 : ∀ f d, ceF G k0 f d = .inl (G.2.1 0, (m0, .inl f))) (hce1 : ∀ f d, ceF G k1 f d = .inl (G.2.1 0, (m1, .inl f)))
    (hw1 : Cond.methodLink own ix arraycopyName ∈ lw_gd) (hw2 : Cond.native arraycopyName ∈ lw_gd) (hw3 : Cond.static arraycopyName ∈ lw_gd) (hw4 : Cond.initialized "java/lang/System" ∈ lw_gd) (hst : (st.map fun v => v.category).sum + (nativeFrameWords "java/lang/System" "arraycopy" 5 + 11) ≤ 50) (hn : 1 ≤ n)
    (hd : decode cc pc = .ok (.invokestatic ix, 3)) (h : gd (decide (0 ≤ sp.toInt ∧ 0 ≤ dp.toInt ∧ 0 ≤ w.toInt ∧ sp.toInt + w.toInt ≤ m0 ∧ dp.toInt + w.toInt ≤ m1)) F = some r)
    (kk : F = some r → V G X nL (sc σ k1 (va_cpy (σ.1 k0) (σ.1 k1) sp.toNatClampNeg dp.toNatClampNeg w.toNatClampNeg)) lv st (pc + 3)) : V G X nL σ lv (.int w :: .int dp :: .ref (G.1 k1) :: .int sp :: .ref (G.1 k0) :: st) pc := by
  intro H locs ls hP hS hl
  obtain ⟨g1, g2, g3, g4, g5⟩ := of_decide_eq_true (gd_some h).1
  have nn : ∀ z : Int32, 0 ≤ z.toInt → ¬ z < 0 := fun z hz q => by
    have := Int32.lt_iff_toInt_lt.mp q
    have z0 : (0 : Int32).toInt = 0 := by decide
    omega
  have cn : ∀ z : Int32, 0 ≤ z.toInt → ((z.toNatClampNeg : Nat) : Int) = z.toInt := fun z hz => by
    show ((z.toInt.toNat : Nat) : Int) = z.toInt
    omega
  have e1 := cn sp g1
  have e2 := cn dp g2
  have e3 := cn w g3
  have hR := C.2.2.2.2.2.2.2.2.2
  refine va_copyi (ty := .int) C.1 C.2.1 (C.2.2.1.trans hl.1.symm) C.2.2.2.1 (C.2.2.2.2.1 _ hw1) (C.2.2.2.2.1 _ hw2) (C.2.2.2.2.1 _ hw3) (C.2.2.2.2.1 _ hw4) C.2.2.2.2.2.1 hP (WS_D C.2.2.2.2.2.2.1 C.2.2.2.2.2.2.2.1) hS k0 k1 0 0 (by rw [WS_at hk0, hce0]) (by rw [WS_at hk1, hce1]) rfl rfl rfl (nn _ g1) (nn _ g2) (nn _ g3) (by omega) (by omega) (fun _ _ => rfl) (Nat.le_trans hn hR.1) (Nat.le_trans hst (Nat.le_trans (by omega) hR.2.1)) hd (fun H1 locs1 hP1 hD1 hS1 => ?_)
  rw [WS_sc _ (hce1 _ _)] at hP1
  exact kk (gd_some h).2 H1 locs1 ls hP1 hS1 hl
theorem v_min (pc : Nat) (C : Cx G X own cc nL n) {ix : Nat} {x y : Int32} (hw1 : Cond.methodLink own ix Lib.Math.min.name ∈ lw_gd) (hw2 : Cond.static Lib.Math.min.name ∈ lw_gd) (hw3 : Cond.initialized "java/lang/Math" ∈ lw_gd) (hw4 : Cond.code Lib.Math.min.name Lib.Math.min.code 2 (some .int) ∈ lw_gd) (hst : (st.map fun v => v.category).sum + 13 ≤ 50) (hn : 1 ≤ n) (hd : decode cc pc = .ok (.invokestatic ix, 3)) (k : V G X nL σ lv (.int (if y < x then y else x) :: st) (pc + 3)) : V G X nL σ lv (.int y :: .int x :: st) pc := by
  intro H locs ls hP hS hl
  have hR := C.2.2.2.2.2.2.2.2.2
  exact va_mmin C.1 C.2.1 (C.2.2.1.trans hl.1.symm) C.2.2.2.1 (C.2.2.2.2.1 _ hw1) (C.2.2.2.2.1 _ hw2) (C.2.2.2.2.1 _ hw3) (C.2.2.2.2.1 _ hw4) (Nat.le_trans hn hR.1) (Nat.le_trans hst (Nat.le_trans (by omega) hR.2.1)) hR.2.2.1 hR.2.2.2 hd (k H locs ls hP hS hl)
theorem v_max (pc : Nat) (C : Cx G X own cc nL n) {ix : Nat} {x y : Int32} (hw1 : Cond.methodLink own ix Lib.Math.max.name ∈ lw_gd) (hw2 : Cond.static Lib.Math.max.name ∈ lw_gd) (hw3 : Cond.initialized "java/lang/Math" ∈ lw_gd) (hw4 : Cond.code Lib.Math.max.name Lib.Math.max.code 2 (some .int) ∈ lw_gd) (hst : (st.map fun v => v.category).sum + 13 ≤ 50) (hn : 1 ≤ n) (hd : decode cc pc = .ok (.invokestatic ix, 3)) (k : V G X nL σ lv (.int (if x < y then y else x) :: st) (pc + 3)) : V G X nL σ lv (.int y :: .int x :: st) pc := by
  intro H locs ls hP hS hl
  have hR := C.2.2.2.2.2.2.2.2.2
  exact va_mmax C.1 C.2.1 (C.2.2.1.trans hl.1.symm) C.2.2.2.1 (C.2.2.2.2.1 _ hw1) (C.2.2.2.2.1 _ hw2) (C.2.2.2.2.1 _ hw3) (C.2.2.2.2.1 _ hw4) (Nat.le_trans hn hR.1) (Nat.le_trans hst (Nat.le_trans (by omega) hR.2.1)) hR.2.2.1 hR.2.2.2 hd (k H locs ls hP hS hl)
/-- static rows of the class -/
theorem v_gets (pc : Nat) (C : Cx G X own cc nL n) {ix : Nat} (i : Nat) (hi : i < 4) (hw : Cond.fieldLink own ix "ShadowAlms" (sNm i) "[I" ∈ lw_gd) (hd : decode cc pc = .ok (.getstatic ix, 3)) (k : V G X nL σ lv (.ref (G.2.2.2.1 i) :: st) (pc + 3)) : V G X nL σ lv st pc := by
  intro H locs ls hP hS hl
  exact va_gets C.1 C.2.1 ((C.2.2.2.2.2.2.2.2.1.1 i hi).1) hS C.2.2.2.1 (C.2.2.2.2.1 _ hw) (fun _ h => h) hd (k H locs ls hP hS hl)
theorem v_sald (pc : Nat) (C : Cx G X own cc nL n) (q : Nat) {i : Int32} {β : Type} {F : Option β} {r : β} (hq : q < 4) (hd : decode cc pc = .ok (.iaload, 1)) (h : gd (inB i (sLn q)) F = some r) (k : F = some r → V G X nL σ lv (.int ((sTb q).getD i.toNatClampNeg 0) :: st) (pc + 1)) : V G X nL σ lv (.int i :: .ref (G.2.2.2.1 q) :: st) pc := by
  intro H locs ls hP hS hl
  exact va_ti C.1 C.2.1 ((C.2.2.2.2.2.2.2.2.1.1 q hq).2) hS (inB_in (gd_some h).1) rfl hd (k (gd_some h).2 H locs ls hP hS hl)
end VROWS
end
section
/-! contracts over the pure store, calls, returns -/
def rmN (n : Nat) : Room := { frames := n, cells := 0, slots := 0, locals := 50 * n }
def GI (G : Wld) : Prop := ∀ i j, i < NC → j < NC → G.1 i = G.1 j → i = j
def Qr (G : Wld) (σ' : Sto) (rv : Option Value) : Array Value → State → Outcome → State → Prop := fun _ st oc t => (oc = .returned rv ∧ va_P G.2.2.1 vwCl (WS G σ') t.heap) ∧ va_F (AS G) st t
def Wd (G : Wld) (σ : Sto) (U : State) : Prop := va_P G.2.2.1 vwCl (WS G σ) U.heap ∧ va_K G.2.2.1 vwCl (tyL G) U ∧ SF G (AS G) U U.heap
/-- called with these values over the store σ, the method returns rv over the store σ' -/
def Ct (l : Launch) (G : Wld) (y : MethodName) (cc : ByteArray) (nL : Nat) (ret : Option FieldType) (n : Nat) (av : List Value) (σ : Sto) (rv : Option Value) (σ' : Sto) : Prop :=
  Met l y (Cond.code y cc nL ret :: lw_gd) (rmN n) (va_Pc av (Wd G σ)) (Qr G σ' rv) 0 0 (AS G)
def Rx (G : Wld) (X : Cxt) (ret : Option FieldType) (rv : Option Value) (σ' : Sto) : Prop :=
  (xh X).sig.returnType = ret ∧ (xh X).locks = false ∧ xk X = 0 ∧ xn X = 0 ∧ xA X = AS G ∧ xQ X = MQ (xb X) (Qr G σ' rv) (xa X) (xs X) 0 0 (AS G)
theorem ct_intro {l : Launch} {G : Wld} {y : MethodName} {cc : ByteArray} {nL : Nat} {ret : Option FieldType} {n : Nat} {av : List Value} {σ : Sto} {rv : Option Value} {σ' : Sto} (own : String) (hG : GI G) (hy : plainName y.cls = true) (hown : y.cls = own) (hlen : (lg_sl av).length ≤ nL)
    (body : ∀ X : Cxt, xl X = l → Cx G X own cc nL n → Rx G X ret rv σ' → V G X nL σ (lv_args 0 av) [] 0) : Ct l G y cc nL ret n av σ rv σ' := by
  refine Met.ofW (cc := cc) (maxL := nL) (ret := ret) hy rfl ?_
  intro p e s m args below meth c s₁ B hml hv
  obtain ⟨rfl, hP, hK, hSF⟩ := hv
  have hts := atoms_spec (ws := Cond.code y cc nL ret :: lw_gd) B.pre
  subst hown
  have hf : s.vm.findClass y.cls = some m.cls := findClass_of_methodNamed B.named
  have hV := body (p, l, e, rmN n, s, m, av.toArray, below, meth, c, 0, 0, MQ below (Qr G σ' rv) av.toArray s 0 0 (AS G), AS G) rfl
    ⟨B.exec, B.bytes, hml, hf, fun w hw => hts w (List.mem_cons_of_mem _ hw), hK, hG, fun k hk => ⟨k, hk, rfl⟩, hSF, Nat.le_refl _, Nat.le_refl _, Nat.le_refl _, Nat.le_refl _⟩
    ⟨B.returns, B.notSynchronized, rfl, rfl, rfl, rfl⟩
  have hl := lv_entry av hlen
  rw [lg_entry_eq]
  exact hV s.heap [] _ hP va_S.rf hl
theorem lw_good : ∀ w ∈ lw_gd, goodWord w = true := fun w h => (List.mem_filter.mp h).2
theorem good_V {own : String} {ix : Nat} {CN : String} {y : MethodName} {bytes : ByteArray} {maxL : Nat} {ret : Option FieldType} (h1 : Cond.methodLink own ix y ∈ lw_gd) (h2 : Cond.instanceMethod y ∈ lw_gd) (h3 : Cond.selects CN y y ∈ lw_gd) (h4 : Cond.initialized CN ∈ lw_gd) (h5 : Cond.code y bytes maxL ret ∈ lw_gd) : GoodIn lw_gd (wsV own ix CN y (Cond.code y bytes maxL ret :: lw_gd)) := by
  intro w hw
  have hm : w ∈ lw_gd := by
    rcases List.mem_append.mp hw with h | h
    · rcases List.mem_cons.mp h with rfl | h
      · exact h1
      · rcases List.mem_cons.mp h with rfl | h
        · exact h2
        · rcases List.mem_cons.mp h with rfl | h
          · exact h3
          · rcases List.mem_cons.mp h with rfl | h
            · exact h4
            · cases h
    · rcases List.mem_cons.mp h with rfl | h
      · exact h5
      · exact h
  exact ⟨hm, good_of_word (lw_good w hm)⟩
theorem good_S {own : String} {ix : Nat} {y : MethodName} {bytes : ByteArray} {maxL : Nat} {ret : Option FieldType} (h1 : Cond.methodLink own ix y ∈ lw_gd) (h2 : Cond.static y ∈ lw_gd) (h4 : Cond.initialized y.cls ∈ lw_gd) (h5 : Cond.code y bytes maxL ret ∈ lw_gd) : GoodIn lw_gd (va_wsS own ix y (Cond.code y bytes maxL ret :: lw_gd)) := by
  intro w hw
  have hm : w ∈ lw_gd := by
    rcases List.mem_append.mp hw with h | h
    · rcases List.mem_cons.mp h with rfl | h
      · exact h1
      · rcases List.mem_cons.mp h with rfl | h
        · exact h2
        · rcases List.mem_cons.mp h with rfl | h
          · exact h4
          · cases h
    · rcases List.mem_cons.mp h with rfl | h
      · exact h5
      · exact h
  exact ⟨hm, good_of_word (lw_good w hm)⟩
section VCALLS
variable {G : Wld} {X : Cxt} {own : String} {cc : ByteArray} {nL n : Nat} {σ : Sto} {lv : List (Nat × Value)} {st : List Value}
theorem blind_Wd {av : List Value} : FrameBlind (va_Pc av (Wd G σ)) := by
  intro a U g mk q
  obtain ⟨q0, qP, qK, qS⟩ := q
  exact ⟨q0, qP, va_K.moved (u := U) (U := U.calling g mk a) (Vm.Alike.refl U.vm) qK, SF.same (u := U) rfl qS⟩
theorem pre_Wd (C : Cx G X own cc nL n) {H : Heap} {locs : List Loc} (hP : va_P G.2.2.1 vwCl (WS G σ) H) (hS : va_S (xA X) (xs X).heap H locs) {av : List Value} : ∀ U : State, U.heap = H → (xs X).WarmedH U.vm → va_Pc av (Wd G σ) av.toArray U := by
  intro U hU hW
  have h1 : SF G (AS G) (xs X) H := (C.2.2.2.2.2.2.2.2.1.kept hS.2.1).narrow (fun q hq => by obtain ⟨k, hk, rfl⟩ := hq; exact C.2.2.2.2.2.2.2.1 k hk)
  exact ⟨rfl, by rw [hU]; exact hP, va_K.moved hW.alike C.2.2.2.2.2.1, by rw [hU]; exact h1.warm hW⟩
/-- behind a call -/
theorem v_back (C : Cx G X own cc nL n) {pc : Nat} {ls : Array Slot} {H : Heap} {locs : List Loc} {rest : List Value} {a : Array Value} {σ' : Sto} {rv : Option Value} (hS : va_S (xA X) (xs X).heap H locs) (hl : lv_has ls nL lv)
    (hr : va_Run (xp X) (xl X) (xe X) (xR X) (xs X) (xm X) (xa X) (xb X) (xh X) (xc X) H locs (xk X) (xn X) 0 0 (F0 (xm X) pc ls st) rest (Qr G σ' rv a) (AS G))
    (kk : V G X nL σ' lv (rv.toList ++ rest) (pc + 3)) : W (xp X) (xl X) (xe X) (xR X) (xs X) (xm X) (xa X) (xb X) (xh X) (xc X) H locs (xk X) (xn X) (xQ X) (F0 (xm X) pc ls st) := by
  intro T hT XS
  have hA : ∀ q, AS G q → xA X q := fun q hq => by obtain ⟨k, hk, rfl⟩ := hq; exact C.2.2.2.2.2.2.2.1 k hk
  obtain ⟨v, st₀, t, T', L, h0, X', hL, e1, e2, ⟨⟨hv, hp⟩, hz, hk⟩, stp⟩ := hr T hT XS
  cases hv
  rw [h0] at hz hk
  obtain ⟨t2, a1, b1⟩ := kk T'.heap (locs ++ L) ls (by rw [e1]; exact hp)
    ⟨Nat.le_trans hS.1 (by rw [e1]; exact hz), fun q h1 h2 => by rw [e1, hk q (Nat.lt_of_lt_of_le h1 hS.1) (fun z => h2 (hA q z))]; exact hS.2.1 q h1 h2, fun q hq => by
      rcases List.mem_append.mp hq with h | h
      · exact hS.2.2 q h
      · exact hA _ (hL q h)⟩ hl T' rfl X'
  exact ⟨t2, stp t2 a1, b1⟩
theorem v_callV (pc : Nat) (C : Cx G X own cc nL n) {y : MethodName} {bytes : ByteArray} {maxL n2 ix ci N : Nat} {ret : Option FieldType} {CN : String} {T : u_T} {fs : List Value} {σ' : Sto} {rv : Option Value} (k : Nat) (As rest : List Value)
    (hc : Ct (xl X) G y bytes maxL ret n2 (.ref (G.1 k) :: As) σ rv σ') (hn : n2 < n) (hm : maxL ≤ 31) (hk : k < NC) (hce : ceF G k (σ.1 k) (σ.2 k) = .inr (ci, fs)) (hcl : vwCl[ci]? = some (CN, T, N))
    (hy : y.cls = CN ∧ y.cls ≠ "java/lang/invoke/MethodHandle" ∧ y.cls ≠ "java/lang/invoke/VarHandle" ∧ (parseMethodDescriptor y.desc).map (fun d => d.parameters.length) = some As.length)
    (h1 : Cond.methodLink own ix y ∈ lw_gd) (h2 : Cond.instanceMethod y ∈ lw_gd) (h3 : Cond.selects CN y y ∈ lw_gd) (h4 : Cond.initialized CN ∈ lw_gd) (h5 : Cond.code y bytes maxL ret ∈ lw_gd)
    (hst : st = As.reverse ++ .ref (G.1 k) :: rest) (hsum : (rest.map fun v => v.category).sum ≤ 8) (hd : decode cc pc = .ok (.invokevirtual ix, 3)) (kk : V G X nL σ' lv (rv.toList ++ rest) (pc + 3)) : V G X nL σ lv st pc := by
  intro H locs ls hP hS hl
  have hR := C.2.2.2.2.2.2.2.2.2
  refine v_back C hS hl (rest := rest) (va_runV (mc := 0) (ms := 0) (Ts := lw_gd) (As := As) (rest := rest) ⟨C.1, C.2.1, C.2.2.1, C.2.2.2.1, C.2.2.2.2.1⟩ hc (cwV As.length C.2.2.2.2.1 (good_V h1 h2 h3 h4 h5) rfl rfl rfl hy ⟨?_, ?_⟩) ⟨blind_Wd, va_recv C.2.2.2.2.2.1 hP hcl (q0 := k) (by rw [WS_at hk, hce]), pre_Wd C hP hS⟩ rfl rfl hl.1 hst (lv_room hsum) hd ⟨hR.2.2.1, hR.2.2.2⟩) kk
  · show n2 + 1 ≤ _
    omega
  · show 8 + (maxL + 11) + 50 * n2 ≤ _
    omega
theorem v_callS (pc : Nat) (C : Cx G X own cc nL n) {y : MethodName} {bytes : ByteArray} {maxL n2 ix : Nat} {ret : Option FieldType} {σ' : Sto} {rv : Option Value} (As rest : List Value)
    (hc : Ct (xl X) G y bytes maxL ret n2 As σ rv σ') (hn : n2 < n) (hm : maxL ≤ 31)
    (hy : y.cls ≠ "java/lang/invoke/MethodHandle" ∧ y.cls ≠ "java/lang/invoke/VarHandle" ∧ (parseMethodDescriptor y.desc).map (fun d => d.parameters.length) = some As.length)
    (h1 : Cond.methodLink own ix y ∈ lw_gd) (h2 : Cond.static y ∈ lw_gd) (h4 : Cond.initialized y.cls ∈ lw_gd) (h5 : Cond.code y bytes maxL ret ∈ lw_gd)
    (hst : st = As.reverse ++ rest) (hsum : (rest.map fun v => v.category).sum ≤ 8) (hd : decode cc pc = .ok (.invokestatic ix, 3)) (kk : V G X nL σ' lv (rv.toList ++ rest) (pc + 3)) : V G X nL σ lv st pc := by
  intro H locs ls hP hS hl
  have hR := C.2.2.2.2.2.2.2.2.2
  refine v_back C hS hl (rest := rest) (va_runS (mc := 0) (ms := 0) (Ts := lw_gd) (As := As) (rest := rest) ⟨C.1, C.2.1, C.2.2.1, C.2.2.2.1, C.2.2.2.2.1⟩ hc (va_cwS As.length C.2.2.2.2.1 (good_S h1 h2 h4 h5) rfl rfl rfl hy ⟨?_, ?_⟩) ⟨blind_Wd, pre_Wd C hP hS⟩ rfl rfl hl.1 hst (lv_room hsum) hd ⟨hR.2.2.1, hR.2.2.2⟩) kk
  · show n2 + 1 ≤ _
    omega
  · show 8 + (maxL + 11) + 50 * n2 ≤ _
    omega
theorem v_iret (pc : Nat) (C : Cx G X own cc nL n) {v : Int32} (hR : Rx G X (some .int) (some (.int v)) σ) (hd : decode cc pc = .ok (.ireturn, 1)) : V G X nL σ lv [.int v] pc := by
  intro H locs ls hP hS hl
  obtain ⟨h1, h2, h3, h4, h5, h6⟩ := hR
  rw [h5] at hS
  rw [h3, h4, h6]
  exact W.iret C.1 C.2.1 h1 (fun t ht hW => ⟨⟨rfl, by rw [ht]; exact hP⟩, hS.F ht⟩) hS.2.2 hd h2
theorem v_zret (pc : Nat) (C : Cx G X own cc nL n) {ty : FieldType} {v : Int32} (hn : narrow ty (.int v) = .int v) (hR : Rx G X (some ty) (some (.int v)) σ) (hd : decode cc pc = .ok (.ireturn, 1)) : V G X nL σ lv [.int v] pc := by
  intro H locs ls hP hS hl
  obtain ⟨h1, h2, h3, h4, h5, h6⟩ := hR
  rw [h5] at hS
  rw [h3, h4, h6]
  exact W.zret C.1 C.2.1 h1 hn (fun t ht hW => ⟨⟨rfl, by rw [ht]; exact hP⟩, hS.F ht⟩) hS.2.2 hd h2
theorem v_lret (pc : Nat) (C : Cx G X own cc nL n) {v : Int64} (hR : Rx G X (some .long) (some (.long v)) σ) (hd : decode cc pc = .ok (.lreturn, 1)) : V G X nL σ lv [.long v] pc := by
  intro H locs ls hP hS hl
  obtain ⟨h1, h2, h3, h4, h5, h6⟩ := hR
  rw [h5] at hS
  rw [h3, h4, h6]
  exact W.lret C.1 C.2.1 h1 (fun t ht hW => ⟨⟨rfl, by rw [ht]; exact hP⟩, hS.F ht⟩) hS.2.2 hd h2
theorem v_vret (pc : Nat) (C : Cx G X own cc nL n) (hR : Rx G X none none σ) (hd : decode cc pc = .ok (.return_, 1)) : V G X nL σ lv [] pc := by
  intro H locs ls hP hS hl
  obtain ⟨h1, h2, h3, h4, h5, h6⟩ := hR
  rw [h5] at hS
  rw [h3, h4, h6]
  exact W.vret C.1 C.2.1 h1 (fun t ht hW => ⟨⟨rfl, by rw [ht]; exact hP⟩, hS.F ht⟩) hS.2.2 hd h2
theorem v_aret (pc : Nat) (C : Cx G X own cc nL n) {a : Nat} {nm : String} (hR : Rx G X (some (.object nm)) (some (.ref a)) σ) (hd : decode cc pc = .ok (.areturn, 1)) : V G X nL σ lv [.ref a] pc := by
  intro H locs ls hP hS hl
  obtain ⟨h1, h2, h3, h4, h5, h6⟩ := hR
  rw [h5] at hS
  rw [h3, h4, h6]
  exact W.aret C.1 C.2.1 h1 (Or.inl ⟨nm, rfl⟩) (Or.inr ⟨a, rfl⟩) (fun t ht hW => ⟨⟨rfl, by rw [ht]; exact hP⟩, hS.F ht⟩) hS.2.2 hd h2
end VCALLS
theorem zB_nar {v : Int32} (h : zB v = true) : narrow .boolean (.int v) = .int v := by
  rcases of_decide_eq_true h with rfl | rfl <;> rfl
end
