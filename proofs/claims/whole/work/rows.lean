section
-- ===== PART A: goes FIRST, ahead of the names: the tables' words, and 'selects' of the private methods out of them =====
/-- a private method of a class that the tables say can be made, by its rows of tables_1 -/
def lw_okq (q : MethodName × Nat) : Prop := (q.1.cls ≠ "java/lang/invoke/MethodHandle" ∧ q.1.cls ≠ "java/lang/invoke/VarHandle") ∧ Cond.instantiable q.1.cls q.2 ∈ tables_1 ∧ Cond.privateMethod q.1 ∈ tables_1 ∧ Cond.instanceMethod q.1 ∈ tables_1
theorem lw_p0 : lw_okq (⟨"java/lang/Throwable", "fillInStackTrace", "(I)Ljava/lang/Throwable;"⟩, 6) := ⟨⟨by decide +kernel, by decide +kernel⟩, List.mem_of_getElem? (i := 116) (by decide +kernel), List.mem_of_getElem? (i := 114) (by decide +kernel), List.mem_of_getElem? (i := 115) (by decide +kernel)⟩
theorem lw_p1 : lw_okq (⟨"StretchedRows", "findContainer", "(I)LStretchedRows$Container;"⟩, 3) := ⟨⟨by decide +kernel, by decide +kernel⟩, List.mem_of_getElem? (i := 18) (by decide +kernel), List.mem_of_getElem? (i := 146) (by decide +kernel), List.mem_of_getElem? (i := 147) (by decide +kernel)⟩
theorem lw_p2 : lw_okq (⟨"StretchedRows", "findNode", "(I)LStretchedRows$Node;"⟩, 3) := ⟨⟨by decide +kernel, by decide +kernel⟩, List.mem_of_getElem? (i := 18) (by decide +kernel), List.mem_of_getElem? (i := 150) (by decide +kernel), List.mem_of_getElem? (i := 151) (by decide +kernel)⟩
theorem lw_p3 : lw_okq (⟨"StretchedRows", "measureAll", "()V"⟩, 3) := ⟨⟨by decide +kernel, by decide +kernel⟩, List.mem_of_getElem? (i := 18) (by decide +kernel), List.mem_of_getElem? (i := 574) (by decide +kernel), List.mem_of_getElem? (i := 575) (by decide +kernel)⟩
theorem lw_p4 : lw_okq (⟨"StretchedRows", "gatherChildren", "()V"⟩, 3) := ⟨⟨by decide +kernel, by decide +kernel⟩, List.mem_of_getElem? (i := 18) (by decide +kernel), List.mem_of_getElem? (i := 578) (by decide +kernel), List.mem_of_getElem? (i := 579) (by decide +kernel)⟩
theorem lw_p5 : lw_okq (⟨"StretchedRows$Grid", "tracksInUse", "()I"⟩, 25) := ⟨⟨by decide +kernel, by decide +kernel⟩, List.mem_of_getElem? (i := 435) (by decide +kernel), List.mem_of_getElem? (i := 619) (by decide +kernel), List.mem_of_getElem? (i := 620) (by decide +kernel)⟩
theorem lw_p6 : lw_okq (⟨"StretchedRows$Grid", "greatestHypo", "(II)I"⟩, 25) := ⟨⟨by decide +kernel, by decide +kernel⟩, List.mem_of_getElem? (i := 435) (by decide +kernel), List.mem_of_getElem? (i := 630) (by decide +kernel), List.mem_of_getElem? (i := 631) (by decide +kernel)⟩
theorem lw_p7 : lw_okq (⟨"StretchedRows", "forgetLayout", "()V"⟩, 3) := ⟨⟨by decide +kernel, by decide +kernel⟩, List.mem_of_getElem? (i := 18) (by decide +kernel), List.mem_of_getElem? (i := 658) (by decide +kernel), List.mem_of_getElem? (i := 659) (by decide +kernel)⟩
theorem lw_p8 : lw_okq (⟨"StretchedRows$Grid", "widenTracks", "()V"⟩, 25) := ⟨⟨by decide +kernel, by decide +kernel⟩, List.mem_of_getElem? (i := 435) (by decide +kernel), List.mem_of_getElem? (i := 711) (by decide +kernel), List.mem_of_getElem? (i := 712) (by decide +kernel)⟩
theorem lw_p9 : lw_okq (⟨"StretchedRows$Row", "fitLine", "(II)V"⟩, 23) := ⟨⟨by decide +kernel, by decide +kernel⟩, List.mem_of_getElem? (i := 380) (by decide +kernel), List.mem_of_getElem? (i := 724) (by decide +kernel), List.mem_of_getElem? (i := 725) (by decide +kernel)⟩
theorem lw_p10 : lw_okq (⟨"StretchedRows$Row", "settleFixed", "(IIZ)V"⟩, 23) := ⟨⟨by decide +kernel, by decide +kernel⟩, List.mem_of_getElem? (i := 380) (by decide +kernel), List.mem_of_getElem? (i := 728) (by decide +kernel), List.mem_of_getElem? (i := 729) (by decide +kernel)⟩
theorem lw_p11 : lw_okq (⟨"StretchedRows$Row", "hasUnsettled", "(II)Z"⟩, 23) := ⟨⟨by decide +kernel, by decide +kernel⟩, List.mem_of_getElem? (i := 380) (by decide +kernel), List.mem_of_getElem? (i := 732) (by decide +kernel), List.mem_of_getElem? (i := 733) (by decide +kernel)⟩
theorem lw_p12 : lw_okq (⟨"StretchedRows$Row", "settleRound", "(IIIZ)V"⟩, 23) := ⟨⟨by decide +kernel, by decide +kernel⟩, List.mem_of_getElem? (i := 380) (by decide +kernel), List.mem_of_getElem? (i := 736) (by decide +kernel), List.mem_of_getElem? (i := 737) (by decide +kernel)⟩
theorem lw_p13 : lw_okq (⟨"StretchedRows$Row", "settleClamped", "(III)V"⟩, 23) := ⟨⟨by decide +kernel, by decide +kernel⟩, List.mem_of_getElem? (i := 380) (by decide +kernel), List.mem_of_getElem? (i := 745) (by decide +kernel), List.mem_of_getElem? (i := 746) (by decide +kernel)⟩
theorem lw_p14 : lw_okq (⟨"StretchedRows$Row", "justifyLine", "(II)V"⟩, 23) := ⟨⟨by decide +kernel, by decide +kernel⟩, List.mem_of_getElem? (i := 380) (by decide +kernel), List.mem_of_getElem? (i := 749) (by decide +kernel), List.mem_of_getElem? (i := 750) (by decide +kernel)⟩
theorem lw_p15 : lw_okq (⟨"StretchedRows$Row", "justifyShift", "(III)I"⟩, 23) := ⟨⟨by decide +kernel, by decide +kernel⟩, List.mem_of_getElem? (i := 380) (by decide +kernel), List.mem_of_getElem? (i := 754) (by decide +kernel), List.mem_of_getElem? (i := 755) (by decide +kernel)⟩
def lw_privs_1 : List (MethodName × Nat) := [(⟨"java/lang/Throwable", "fillInStackTrace", "(I)Ljava/lang/Throwable;"⟩, 6), (⟨"StretchedRows", "findContainer", "(I)LStretchedRows$Container;"⟩, 3), (⟨"StretchedRows", "findNode", "(I)LStretchedRows$Node;"⟩, 3), (⟨"StretchedRows", "measureAll", "()V"⟩, 3), (⟨"StretchedRows", "gatherChildren", "()V"⟩, 3), (⟨"StretchedRows$Grid", "tracksInUse", "()I"⟩, 25), (⟨"StretchedRows$Grid", "greatestHypo", "(II)I"⟩, 25), (⟨"StretchedRows", "forgetLayout", "()V"⟩, 3), (⟨"StretchedRows$Grid", "widenTracks", "()V"⟩, 25), (⟨"StretchedRows$Row", "fitLine", "(II)V"⟩, 23), (⟨"StretchedRows$Row", "settleFixed", "(IIZ)V"⟩, 23), (⟨"StretchedRows$Row", "hasUnsettled", "(II)Z"⟩, 23), (⟨"StretchedRows$Row", "settleRound", "(IIIZ)V"⟩, 23), (⟨"StretchedRows$Row", "settleClamped", "(III)V"⟩, 23), (⟨"StretchedRows$Row", "justifyLine", "(II)V"⟩, 23), (⟨"StretchedRows$Row", "justifyShift", "(III)I"⟩, 23)]
theorem lw_r1 : ∀ q ∈ lw_privs_1, lw_okq q := List.forall_mem_cons.mpr ⟨lw_p0, List.forall_mem_cons.mpr ⟨lw_p1, List.forall_mem_cons.mpr ⟨lw_p2, List.forall_mem_cons.mpr ⟨lw_p3, List.forall_mem_cons.mpr ⟨lw_p4, List.forall_mem_cons.mpr ⟨lw_p5, List.forall_mem_cons.mpr ⟨lw_p6, List.forall_mem_cons.mpr ⟨lw_p7, List.forall_mem_cons.mpr ⟨lw_p8, List.forall_mem_cons.mpr ⟨lw_p9, List.forall_mem_cons.mpr ⟨lw_p10, List.forall_mem_cons.mpr ⟨lw_p11, List.forall_mem_cons.mpr ⟨lw_p12, List.forall_mem_cons.mpr ⟨lw_p13, List.forall_mem_cons.mpr ⟨lw_p14, List.forall_mem_cons.mpr ⟨lw_p15, fun _ h => absurd h List.not_mem_nil⟩⟩⟩⟩⟩⟩⟩⟩⟩⟩⟩⟩⟩⟩⟩⟩
theorem lw_p16 : lw_okq (⟨"StretchedRows", "findLaidOut", "(I)LStretchedRows$Node;"⟩, 3) := ⟨⟨by decide +kernel, by decide +kernel⟩, List.mem_of_getElem? (i := 18) (by decide +kernel), List.mem_of_getElem? (i := 801) (by decide +kernel), List.mem_of_getElem? (i := 802) (by decide +kernel)⟩
theorem lw_p17 : lw_okq (⟨"StretchedRowsModel", "isContainer", "(I)Z"⟩, 28) := ⟨⟨by decide +kernel, by decide +kernel⟩, List.mem_of_getElem? (i := 836) (by decide +kernel), List.mem_of_getElem? (i := 935) (by decide +kernel), List.mem_of_getElem? (i := 936) (by decide +kernel)⟩
theorem lw_p18 : lw_okq (⟨"StretchedRowsModel", "isThere", "(I)Z"⟩, 28) := ⟨⟨by decide +kernel, by decide +kernel⟩, List.mem_of_getElem? (i := 836) (by decide +kernel), List.mem_of_getElem? (i := 939) (by decide +kernel), List.mem_of_getElem? (i := 940) (by decide +kernel)⟩
theorem lw_p19 : lw_okq (⟨"StretchedRowsModel", "refuses", "(ZZ)Z"⟩, 28) := ⟨⟨by decide +kernel, by decide +kernel⟩, List.mem_of_getElem? (i := 836) (by decide +kernel), List.mem_of_getElem? (i := 943) (by decide +kernel), List.mem_of_getElem? (i := 944) (by decide +kernel)⟩
theorem lw_p20 : lw_okq (⟨"StretchedRowsModel", "findNaturals", "()V"⟩, 28) := ⟨⟨by decide +kernel, by decide +kernel⟩, List.mem_of_getElem? (i := 836) (by decide +kernel), List.mem_of_getElem? (i := 976) (by decide +kernel), List.mem_of_getElem? (i := 977) (by decide +kernel)⟩
theorem lw_p21 : lw_okq (⟨"StretchedRowsModel", "naturalOf", "(I)I"⟩, 28) := ⟨⟨by decide +kernel, by decide +kernel⟩, List.mem_of_getElem? (i := 836) (by decide +kernel), List.mem_of_getElem? (i := 980) (by decide +kernel), List.mem_of_getElem? (i := 981) (by decide +kernel)⟩
theorem lw_p22 : lw_okq (⟨"StretchedRowsModel", "number", "(II)I"⟩, 28) := ⟨⟨by decide +kernel, by decide +kernel⟩, List.mem_of_getElem? (i := 836) (by decide +kernel), List.mem_of_getElem? (i := 984) (by decide +kernel), List.mem_of_getElem? (i := 985) (by decide +kernel)⟩
theorem lw_p23 : lw_okq (⟨"StretchedRowsModel", "gather", "(I)V"⟩, 28) := ⟨⟨by decide +kernel, by decide +kernel⟩, List.mem_of_getElem? (i := 836) (by decide +kernel), List.mem_of_getElem? (i := 988) (by decide +kernel), List.mem_of_getElem? (i := 989) (by decide +kernel)⟩
theorem lw_p24 : lw_okq (⟨"StretchedRowsModel", "isBefore", "(II)Z"⟩, 28) := ⟨⟨by decide +kernel, by decide +kernel⟩, List.mem_of_getElem? (i := 836) (by decide +kernel), List.mem_of_getElem? (i := 992) (by decide +kernel), List.mem_of_getElem? (i := 993) (by decide +kernel)⟩
theorem lw_p25 : lw_okq (⟨"StretchedRowsModel", "widest", "(II)I"⟩, 28) := ⟨⟨by decide +kernel, by decide +kernel⟩, List.mem_of_getElem? (i := 836) (by decide +kernel), List.mem_of_getElem? (i := 996) (by decide +kernel), List.mem_of_getElem? (i := 997) (by decide +kernel)⟩
theorem lw_p26 : lw_okq (⟨"StretchedRowsModel", "hypo", "(I)I"⟩, 28) := ⟨⟨by decide +kernel, by decide +kernel⟩, List.mem_of_getElem? (i := 836) (by decide +kernel), List.mem_of_getElem? (i := 1000) (by decide +kernel), List.mem_of_getElem? (i := 1001) (by decide +kernel)⟩
theorem lw_p27 : lw_okq (⟨"StretchedRowsModel", "base", "(I)I"⟩, 28) := ⟨⟨by decide +kernel, by decide +kernel⟩, List.mem_of_getElem? (i := 836) (by decide +kernel), List.mem_of_getElem? (i := 1004) (by decide +kernel), List.mem_of_getElem? (i := 1005) (by decide +kernel)⟩
theorem lw_p28 : lw_okq (⟨"StretchedRowsModel", "clamp", "(II)I"⟩, 28) := ⟨⟨by decide +kernel, by decide +kernel⟩, List.mem_of_getElem? (i := 836) (by decide +kernel), List.mem_of_getElem? (i := 1008) (by decide +kernel), List.mem_of_getElem? (i := 1009) (by decide +kernel)⟩
theorem lw_p29 : lw_okq (⟨"StretchedRowsModel", "gaps", "(II)I"⟩, 28) := ⟨⟨by decide +kernel, by decide +kernel⟩, List.mem_of_getElem? (i := 836) (by decide +kernel), List.mem_of_getElem? (i := 1012) (by decide +kernel), List.mem_of_getElem? (i := 1013) (by decide +kernel)⟩
theorem lw_p30 : lw_okq (⟨"StretchedRowsModel", "trackCount", "(I)I"⟩, 28) := ⟨⟨by decide +kernel, by decide +kernel⟩, List.mem_of_getElem? (i := 836) (by decide +kernel), List.mem_of_getElem? (i := 1016) (by decide +kernel), List.mem_of_getElem? (i := 1017) (by decide +kernel)⟩
theorem lw_p31 : lw_okq (⟨"StretchedRowsModel", "isShare", "(II)Z"⟩, 28) := ⟨⟨by decide +kernel, by decide +kernel⟩, List.mem_of_getElem? (i := 836) (by decide +kernel), List.mem_of_getElem? (i := 1020) (by decide +kernel), List.mem_of_getElem? (i := 1021) (by decide +kernel)⟩
def lw_privs_2 : List (MethodName × Nat) := [(⟨"StretchedRows", "findLaidOut", "(I)LStretchedRows$Node;"⟩, 3), (⟨"StretchedRowsModel", "isContainer", "(I)Z"⟩, 28), (⟨"StretchedRowsModel", "isThere", "(I)Z"⟩, 28), (⟨"StretchedRowsModel", "refuses", "(ZZ)Z"⟩, 28), (⟨"StretchedRowsModel", "findNaturals", "()V"⟩, 28), (⟨"StretchedRowsModel", "naturalOf", "(I)I"⟩, 28), (⟨"StretchedRowsModel", "number", "(II)I"⟩, 28), (⟨"StretchedRowsModel", "gather", "(I)V"⟩, 28), (⟨"StretchedRowsModel", "isBefore", "(II)Z"⟩, 28), (⟨"StretchedRowsModel", "widest", "(II)I"⟩, 28), (⟨"StretchedRowsModel", "hypo", "(I)I"⟩, 28), (⟨"StretchedRowsModel", "base", "(I)I"⟩, 28), (⟨"StretchedRowsModel", "clamp", "(II)I"⟩, 28), (⟨"StretchedRowsModel", "gaps", "(II)I"⟩, 28), (⟨"StretchedRowsModel", "trackCount", "(I)I"⟩, 28), (⟨"StretchedRowsModel", "isShare", "(II)Z"⟩, 28)]
theorem lw_r2 : ∀ q ∈ lw_privs_2, lw_okq q := List.forall_mem_cons.mpr ⟨lw_p16, List.forall_mem_cons.mpr ⟨lw_p17, List.forall_mem_cons.mpr ⟨lw_p18, List.forall_mem_cons.mpr ⟨lw_p19, List.forall_mem_cons.mpr ⟨lw_p20, List.forall_mem_cons.mpr ⟨lw_p21, List.forall_mem_cons.mpr ⟨lw_p22, List.forall_mem_cons.mpr ⟨lw_p23, List.forall_mem_cons.mpr ⟨lw_p24, List.forall_mem_cons.mpr ⟨lw_p25, List.forall_mem_cons.mpr ⟨lw_p26, List.forall_mem_cons.mpr ⟨lw_p27, List.forall_mem_cons.mpr ⟨lw_p28, List.forall_mem_cons.mpr ⟨lw_p29, List.forall_mem_cons.mpr ⟨lw_p30, List.forall_mem_cons.mpr ⟨lw_p31, fun _ h => absurd h List.not_mem_nil⟩⟩⟩⟩⟩⟩⟩⟩⟩⟩⟩⟩⟩⟩⟩⟩
theorem lw_p32 : lw_okq (⟨"StretchedRowsModel", "trackNumber", "(II)I"⟩, 28) := ⟨⟨by decide +kernel, by decide +kernel⟩, List.mem_of_getElem? (i := 836) (by decide +kernel), List.mem_of_getElem? (i := 1024) (by decide +kernel), List.mem_of_getElem? (i := 1025) (by decide +kernel)⟩
theorem lw_p33 : lw_okq (⟨"StretchedRowsModel", "root", "()I"⟩, 28) := ⟨⟨by decide +kernel, by decide +kernel⟩, List.mem_of_getElem? (i := 836) (by decide +kernel), List.mem_of_getElem? (i := 1032) (by decide +kernel), List.mem_of_getElem? (i := 1033) (by decide +kernel)⟩
theorem lw_p34 : lw_okq (⟨"StretchedRowsModel", "spread", "(I)V"⟩, 28) := ⟨⟨by decide +kernel, by decide +kernel⟩, List.mem_of_getElem? (i := 836) (by decide +kernel), List.mem_of_getElem? (i := 1036) (by decide +kernel), List.mem_of_getElem? (i := 1037) (by decide +kernel)⟩
theorem lw_p35 : lw_okq (⟨"StretchedRowsModel", "dealTracks", "(I)V"⟩, 28) := ⟨⟨by decide +kernel, by decide +kernel⟩, List.mem_of_getElem? (i := 836) (by decide +kernel), List.mem_of_getElem? (i := 1040) (by decide +kernel), List.mem_of_getElem? (i := 1041) (by decide +kernel)⟩
theorem lw_p36 : lw_okq (⟨"StretchedRowsModel", "inner", "(I)I"⟩, 28) := ⟨⟨by decide +kernel, by decide +kernel⟩, List.mem_of_getElem? (i := 836) (by decide +kernel), List.mem_of_getElem? (i := 1044) (by decide +kernel), List.mem_of_getElem? (i := 1045) (by decide +kernel)⟩
theorem lw_p37 : lw_okq (⟨"StretchedRowsModel", "lineEnd", "(II)I"⟩, 28) := ⟨⟨by decide +kernel, by decide +kernel⟩, List.mem_of_getElem? (i := 836) (by decide +kernel), List.mem_of_getElem? (i := 1048) (by decide +kernel), List.mem_of_getElem? (i := 1049) (by decide +kernel)⟩
theorem lw_p38 : lw_okq (⟨"StretchedRowsModel", "stretch", "(III)V"⟩, 28) := ⟨⟨by decide +kernel, by decide +kernel⟩, List.mem_of_getElem? (i := 836) (by decide +kernel), List.mem_of_getElem? (i := 1052) (by decide +kernel), List.mem_of_getElem? (i := 1053) (by decide +kernel)⟩
theorem lw_p39 : lw_okq (⟨"StretchedRowsModel", "restOf", "(III)I"⟩, 28) := ⟨⟨by decide +kernel, by decide +kernel⟩, List.mem_of_getElem? (i := 836) (by decide +kernel), List.mem_of_getElem? (i := 1056) (by decide +kernel), List.mem_of_getElem? (i := 1057) (by decide +kernel)⟩
theorem lw_p40 : lw_okq (⟨"StretchedRowsModel", "deal", "(IIZI)V"⟩, 28) := ⟨⟨by decide +kernel, by decide +kernel⟩, List.mem_of_getElem? (i := 836) (by decide +kernel), List.mem_of_getElem? (i := 1060) (by decide +kernel), List.mem_of_getElem? (i := 1061) (by decide +kernel)⟩
theorem lw_p41 : lw_okq (⟨"StretchedRowsModel", "part", "(IZ)J"⟩, 28) := ⟨⟨by decide +kernel, by decide +kernel⟩, List.mem_of_getElem? (i := 836) (by decide +kernel), List.mem_of_getElem? (i := 1064) (by decide +kernel), List.mem_of_getElem? (i := 1065) (by decide +kernel)⟩
theorem lw_p42 : lw_okq (⟨"StretchedRowsModel", "settle", "(II)Z"⟩, 28) := ⟨⟨by decide +kernel, by decide +kernel⟩, List.mem_of_getElem? (i := 836) (by decide +kernel), List.mem_of_getElem? (i := 1068) (by decide +kernel), List.mem_of_getElem? (i := 1069) (by decide +kernel)⟩
theorem lw_p43 : lw_okq (⟨"StretchedRowsModel", "measure", "(I)V"⟩, 28) := ⟨⟨by decide +kernel, by decide +kernel⟩, List.mem_of_getElem? (i := 836) (by decide +kernel), List.mem_of_getElem? (i := 1072) (by decide +kernel), List.mem_of_getElem? (i := 1073) (by decide +kernel)⟩
theorem lw_p44 : lw_okq (⟨"StretchedRowsModel", "textLines", "(I)I"⟩, 28) := ⟨⟨by decide +kernel, by decide +kernel⟩, List.mem_of_getElem? (i := 836) (by decide +kernel), List.mem_of_getElem? (i := 1076) (by decide +kernel), List.mem_of_getElem? (i := 1077) (by decide +kernel)⟩
theorem lw_p45 : lw_okq (⟨"StretchedRowsModel", "nextLine", "(II)I"⟩, 28) := ⟨⟨by decide +kernel, by decide +kernel⟩, List.mem_of_getElem? (i := 836) (by decide +kernel), List.mem_of_getElem? (i := 1080) (by decide +kernel), List.mem_of_getElem? (i := 1081) (by decide +kernel)⟩
theorem lw_p46 : lw_okq (⟨"StretchedRowsModel", "tallest", "(II)I"⟩, 28) := ⟨⟨by decide +kernel, by decide +kernel⟩, List.mem_of_getElem? (i := 836) (by decide +kernel), List.mem_of_getElem? (i := 1084) (by decide +kernel), List.mem_of_getElem? (i := 1085) (by decide +kernel)⟩
theorem lw_p47 : lw_okq (⟨"StretchedRowsModel", "place", "(I)V"⟩, 28) := ⟨⟨by decide +kernel, by decide +kernel⟩, List.mem_of_getElem? (i := 836) (by decide +kernel), List.mem_of_getElem? (i := 1088) (by decide +kernel), List.mem_of_getElem? (i := 1089) (by decide +kernel)⟩
def lw_privs_3 : List (MethodName × Nat) := [(⟨"StretchedRowsModel", "trackNumber", "(II)I"⟩, 28), (⟨"StretchedRowsModel", "root", "()I"⟩, 28), (⟨"StretchedRowsModel", "spread", "(I)V"⟩, 28), (⟨"StretchedRowsModel", "dealTracks", "(I)V"⟩, 28), (⟨"StretchedRowsModel", "inner", "(I)I"⟩, 28), (⟨"StretchedRowsModel", "lineEnd", "(II)I"⟩, 28), (⟨"StretchedRowsModel", "stretch", "(III)V"⟩, 28), (⟨"StretchedRowsModel", "restOf", "(III)I"⟩, 28), (⟨"StretchedRowsModel", "deal", "(IIZI)V"⟩, 28), (⟨"StretchedRowsModel", "part", "(IZ)J"⟩, 28), (⟨"StretchedRowsModel", "settle", "(II)Z"⟩, 28), (⟨"StretchedRowsModel", "measure", "(I)V"⟩, 28), (⟨"StretchedRowsModel", "textLines", "(I)I"⟩, 28), (⟨"StretchedRowsModel", "nextLine", "(II)I"⟩, 28), (⟨"StretchedRowsModel", "tallest", "(II)I"⟩, 28), (⟨"StretchedRowsModel", "place", "(I)V"⟩, 28)]
theorem lw_r3 : ∀ q ∈ lw_privs_3, lw_okq q := List.forall_mem_cons.mpr ⟨lw_p32, List.forall_mem_cons.mpr ⟨lw_p33, List.forall_mem_cons.mpr ⟨lw_p34, List.forall_mem_cons.mpr ⟨lw_p35, List.forall_mem_cons.mpr ⟨lw_p36, List.forall_mem_cons.mpr ⟨lw_p37, List.forall_mem_cons.mpr ⟨lw_p38, List.forall_mem_cons.mpr ⟨lw_p39, List.forall_mem_cons.mpr ⟨lw_p40, List.forall_mem_cons.mpr ⟨lw_p41, List.forall_mem_cons.mpr ⟨lw_p42, List.forall_mem_cons.mpr ⟨lw_p43, List.forall_mem_cons.mpr ⟨lw_p44, List.forall_mem_cons.mpr ⟨lw_p45, List.forall_mem_cons.mpr ⟨lw_p46, List.forall_mem_cons.mpr ⟨lw_p47, fun _ h => absurd h List.not_mem_nil⟩⟩⟩⟩⟩⟩⟩⟩⟩⟩⟩⟩⟩⟩⟩⟩
theorem lw_p48 : lw_okq (⟨"StretchedRowsModel", "placeColumn", "(I)V"⟩, 28) := ⟨⟨by decide +kernel, by decide +kernel⟩, List.mem_of_getElem? (i := 836) (by decide +kernel), List.mem_of_getElem? (i := 1092) (by decide +kernel), List.mem_of_getElem? (i := 1093) (by decide +kernel)⟩
theorem lw_p49 : lw_okq (⟨"StretchedRowsModel", "placeAcross", "(III)V"⟩, 28) := ⟨⟨by decide +kernel, by decide +kernel⟩, List.mem_of_getElem? (i := 836) (by decide +kernel), List.mem_of_getElem? (i := 1099) (by decide +kernel), List.mem_of_getElem? (i := 1100) (by decide +kernel)⟩
theorem lw_p50 : lw_okq (⟨"StretchedRowsModel", "placeTracks", "(III)V"⟩, 28) := ⟨⟨by decide +kernel, by decide +kernel⟩, List.mem_of_getElem? (i := 836) (by decide +kernel), List.mem_of_getElem? (i := 1103) (by decide +kernel), List.mem_of_getElem? (i := 1104) (by decide +kernel)⟩
theorem lw_p51 : lw_okq (⟨"StretchedRowsModel", "placeDown", "(III)V"⟩, 28) := ⟨⟨by decide +kernel, by decide +kernel⟩, List.mem_of_getElem? (i := 836) (by decide +kernel), List.mem_of_getElem? (i := 1107) (by decide +kernel), List.mem_of_getElem? (i := 1108) (by decide +kernel)⟩
theorem lw_p52 : lw_okq (⟨"StretchedRowsModel", "isLaid", "(I)Z"⟩, 28) := ⟨⟨by decide +kernel, by decide +kernel⟩, List.mem_of_getElem? (i := 836) (by decide +kernel), List.mem_of_getElem? (i := 1115) (by decide +kernel), List.mem_of_getElem? (i := 1116) (by decide +kernel)⟩
theorem lw_p53 : lw_okq (⟨"StretchedRowsModel", "has", "(III)Z"⟩, 28) := ⟨⟨by decide +kernel, by decide +kernel⟩, List.mem_of_getElem? (i := 836) (by decide +kernel), List.mem_of_getElem? (i := 1127) (by decide +kernel), List.mem_of_getElem? (i := 1128) (by decide +kernel)⟩
def lw_privs_4 : List (MethodName × Nat) := [(⟨"StretchedRowsModel", "placeColumn", "(I)V"⟩, 28), (⟨"StretchedRowsModel", "placeAcross", "(III)V"⟩, 28), (⟨"StretchedRowsModel", "placeTracks", "(III)V"⟩, 28), (⟨"StretchedRowsModel", "placeDown", "(III)V"⟩, 28), (⟨"StretchedRowsModel", "isLaid", "(I)Z"⟩, 28), (⟨"StretchedRowsModel", "has", "(III)Z"⟩, 28)]
theorem lw_r4 : ∀ q ∈ lw_privs_4, lw_okq q := List.forall_mem_cons.mpr ⟨lw_p48, List.forall_mem_cons.mpr ⟨lw_p49, List.forall_mem_cons.mpr ⟨lw_p50, List.forall_mem_cons.mpr ⟨lw_p51, List.forall_mem_cons.mpr ⟨lw_p52, List.forall_mem_cons.mpr ⟨lw_p53, fun _ h => absurd h List.not_mem_nil⟩⟩⟩⟩⟩⟩
def lw_privs : List (MethodName × Nat) := lw_privs_1 ++ (lw_privs_2 ++ (lw_privs_3 ++ (lw_privs_4)))
def lw_tbl : List Cond := k2_sels lw_privs ++ tables_1
theorem lw_privs_ok : ∀ q ∈ lw_privs, lw_okq q := by
  show ∀ q ∈ lw_privs_1 ++ (lw_privs_2 ++ (lw_privs_3 ++ (lw_privs_4))), lw_okq q
  exact List.forall_mem_append.mpr ⟨lw_r1, List.forall_mem_append.mpr ⟨lw_r2, List.forall_mem_append.mpr ⟨lw_r3, lw_r4⟩⟩⟩
-- ===== end of PART A; then your names; then what follows =====
end
section
/-! ===== BEGIN words of one list among another's, by their places ===== -/
theorem goodIn_r {big : List Cond} (ws : List Cond) (ps : List Nat) (hp : ws = ps.filterMap (fun i => big[i]?)) (h : ws.all goodWord = true) : GoodIn big ws := by
  intro w hw
  have h1 := List.all_eq_true.mp h w hw
  rw [hp] at hw
  obtain ⟨i, -, hi⟩ := List.mem_filterMap.mp hw
  have hm : w ∈ big := by first | exact List.mem_of_getElem? hi | exact List.getElem?_mem hi
  exact ⟨hm, good_of_word h1⟩
theorem goodIn_app {big a b : List Cond} (ha : GoodIn big a) (hb : GoodIn big b) : GoodIn big (a ++ b) := fun w h => (List.mem_append.mp h).elim (ha w) (hb w)
theorem goodIn_ca {big a b : List Cond} {c : Cond} (ha : GoodIn big (c :: a)) (hb : GoodIn big b) : GoodIn big (c :: (a ++ b)) := fun w h => (List.mem_cons.mp h).elim (fun e => ha w (List.mem_cons.mpr (Or.inl e))) (fun h => (List.mem_append.mp h).elim (fun h => ha w (List.mem_cons.mpr (Or.inr h))) (hb w))
theorem goodIn_sub {big ws : List Cond} (hm : ∀ w ∈ ws, w ∈ big) (h : ws.all goodWord = true) : GoodIn big ws := fun w hw => ⟨hm w hw, good_of_word (List.all_eq_true.mp h w hw)⟩
/-! ===== END ===== -/

/-! ===== BEGIN exceptions that leave a method, and their catching by the caller (launches without stack traces) ===== -/
section VXA
/-! The laws vx_back, vx_callV, vx_callS, vx_callSW, vx_throw0, vx_throwS follow proofs of the library, with one case more: JvmDerived/Free/Laws.lean (Back.of_free), Shelf42/LK1.lean (callV, callS), Shelf/KitTraced.lean (throwNew0V, throwNewS). -/
/-- where a method has thrown q: the class by its name, the cell, what was written, the world -/
def vx_T (XC : String → State → State → Prop) (st : State) (q : Addr) (t : State) (mc ms : Nat) (free : Addr → Prop) : Prop :=
  ∃ (E : String) (ce : Cell) (L : List Loc), XC E st t ∧ t.heap[q]? = some ce ∧ ce.vm = .none ∧ st.vm.findClass E = some ce.cls ∧ st.WarmedH t.vm ∧ st.sameButNew ({ t with vm := st.vm } : State) L mc ms ∧ ∀ z ∈ L, free z.base
def vx_Q (Qc : Array Value → State → Outcome → State → Prop) (XC : String → State → State → Prop) (mc ms : Nat) (free : Addr → Prop) : Array Value → State → Outcome → State → Prop := fun a st o t =>
  (Qc a st o t ∧ ∃ L, FrameEnd st o t L mc ms ∧ ∀ q ∈ L, free q.base) ∨ ∃ q, o = .threw q ∧ vx_T XC st q t mc ms free
/-- a callee that returns or throws -/
def vx_Met (l : Launch) (y : MethodName) (ws : List Cond) (rm : Room) (Pc : Array Value → State → Prop) (Qc : Array Value → State → Outcome → State → Prop) (XC : String → State → State → Prop) (mc ms : Nat) (free : Addr → Prop) : Prop :=
  MetFree l y (headSpec ws rm) Pc (fun _ _ _ _ _ => True) (vx_Q Qc XC mc ms free)
def vx_Post (XC : String → State → State → Prop) (mc ms : Nat) (free : Addr → Prop) : Pt → Array Value → Addr → Pt → Prop := fun A a q B =>
  ∃ (g : JFrame) (mk : MethodId) (t : State) (L : List Loc) (E : String) (ce : Cell), B.U.heap = t.heap ∧ B.U.vm = t.vm ∧ XC E (A.U.calling g mk a) t ∧ t.heap[q]? = some ce ∧ ce.vm = .none ∧ A.U.vm.findClass E = some ce.cls ∧ B.locs = A.locs ++ L ∧ (∀ z ∈ L, free z.base) ∧ B.cells = A.cells + mc ∧ B.slots = A.slots + ms
def vx_Back (l : Launch) (R : Room) (p : Program) (e : Env) (below : List Frame) (s : State) (sargs : Array Value) (y : MethodName) (len W9 : Nat)
    (Pre : Pt → Array Value → Prop) (Post : Pt → Array Value → Option Value → Pt → Prop) (PostX : Pt → Array Value → Addr → Pt → Prop) : Prop :=
  ∀ (m : MethodId) (meth : Method) (c : Code) (A : Pt) (g : JFrame) (ig : Instr) (mk : MethodId) (a : Array Value),
    Stand p l e R s m sargs below meth c A.U A.locs A.cells A.slots → g.method = m → g.locals.size = c.maxLocals → decode c.code g.pc = .ok (ig, len) →
    2 * g.monitorRoom + (g.stack.map fun v => v.category).sum ≤ W9 → A.U.methodNamed? y = some mk → Pre A a →
    (∃ (v : Option Value) (B : Pt), Stand p l e R s m sargs below meth c B.U B.locs B.cells B.slots ∧ Post A a v B ∧
      Steps p.tables e below (doInvoke e (A.U.setTop g) [] mk a).1 (B.U.setTop { g with pc := g.pc + len, stack := v.toList ++ g.stack })) ∨
    (∃ (q : Addr) (B : Pt), Stand p l e R s m sargs below meth c B.U B.locs B.cells B.slots ∧ PostX A a q B ∧
      Steps p.tables e below (doInvoke e (A.U.setTop g) [] mk a).1 ((B.U.setTop g).pushFrame (.throwing q)))
section Payer
variable {l : Launch} {R : Room} {p : Program} {e : Env} {below : List Frame} {s : State} {sargs : Array Value} {y : MethodName} {len W9 : Nat}
theorem vx_back {ws : List Cond} {rm : Room} {Pc : Array Value → State → Prop} {Qc : Array Value → State → Outcome → State → Prop} {XC : String → State → State → Prop} {mc ms : Nat} {free : Addr → Prop} {bytes : ByteArray} {maxL : Nat} {ret : Option FieldType}
    (hM : vx_Met l y ws rm Pc Qc XC mc ms free) (hblind : FrameBlind Pc) (hrc : rm.cells = mc) (hrs : rm.slots = ms)
    (hframes : rm.frames + 1 ≤ R.frames) (hlocals : W9 + (maxL + 11) + rm.locals ≤ R.locals)
    (hws : ∀ w ∈ ws, ∀ a' U, s.WarmedH U.vm → w.before a' U = true) (hcode : Cond.code y bytes maxL ret ∈ ws) (hinit : ∀ a' U, s.WarmedH U.vm → (Cond.initialized y.cls).before a' U = true) :
    vx_Back l R p e below s sargs y len W9 (PreOf R mc ms Pc) (PostOf Qc mc ms free) (vx_Post XC mc ms free) := by
  intro m meth c A g ig mk a X hg hsize hdg hW hn hp
  have h1 : (headSpec ws rm).pre.before a A.U = true := atoms_intro fun w hw => hws w hw _ _ X.warmed
  have h2 : (Cond.code y bytes maxL ret).before a A.U = true := hws _ hcode _ _ X.warmed
  have h3 : (Cond.initialized y.cls).before a A.U = true := hinit _ _ X.warmed
  have h4 : A.cells + (headSpec ws rm).room.cells ≤ R.cells := by rw [show (headSpec ws rm).room.cells = mc from hrc]; exact hp.1
  have h5 : A.slots + (headSpec ws rm).room.slots ≤ R.slots := by rw [show (headSpec ws rm).room.slots = ms from hrs]; exact hp.2.1
  have hPc : Pc a (A.U.calling g mk a) := hblind _ _ _ _ hp.2.2
  obtain ⟨U, Ls, c0, s0⟩ := A
  dsimp only [Pt.U, Pt.locs, Pt.cells, Pt.slots] at h1 h2 h3 h4 h5 X hn hPc ⊢
  obtain ⟨methY, cY, hmY, hcY, -, hlY, -, -, -, -⟩ := Cond.code_spec hn h2
  obtain ⟨kY, hkY, -⟩ := className_of_methodNamed hn
  have hinitY : kY.init = .initialized := Cond.initialized_spec (findClass_of_methodNamed hn) hkY h3
  have h : At U g.method c below := by rw [hg]; exact X.here
  have hlocals9 : W9 + (maxL + 11) + (headSpec ws rm).room.locals ≤ R.locals := hlocals
  have happ : (headSpec ws rm).appliesLoose y e.platform (U.calling g mk a) = true :=
    Spec.appliesLoose_calling (g := g) h hdg hn hkY hinitY
      (X.room_calling (g := g) (R' := (headSpec ws rm).room) hsize hmY hcY hframes (by rw [hlY]; omega) h4 h5) h1
  obtain ⟨mid, hmid⟩ := h.above
  have hfr : (U.setTop g).frames = (.java g :: mid) ++ below := by rw [State.frames_setTop' g h.top, hmid]; rfl
  obtain ⟨o, s₂, hsteps, -, hend, hq⟩ := Steps.callFree hM p X.admits X.cas X.clock (acts := []) hfr happ hPc trivial
  have hq' : vx_Q Qc XC mc ms free a (U.calling g mk a) o s₂ := hq
  rw [State.frames_setTop' g h.top] at hend
  obtain ⟨g₀, hg0⟩ := Option.isSome_iff_exists.mp h.top
  obtain ⟨r, hr⟩ := State.topJava?_eq_some.mp hg0
  have hr' : (({ U with heap := s₂.heap, slotsUsed := s₂.slotsUsed } : State).setVm s₂.vm).frames = .java g₀ :: r := hr
  rcases hq' with ⟨hqc, L, hfe, hL⟩ | ⟨q, rfl, E, ce, L, hx, hce, hcv, hcl, hW₂, hsm, hL⟩
  · obtain ⟨⟨v, rfl⟩, hW₂, e2, q2, q3, q4, q5, q6⟩ := id hfe
    have e3 : s₂ = ({ (U.calling g mk a).setFrames s₂.frames with heap := s₂.heap, slotsUsed := s₂.slotsUsed } : State).setVm s₂.vm := by
      have : s₂ = ({ s₂ with vm := (U.calling g mk a).vm } : State).setVm s₂.vm := rfl
      rw [e2] at this
      exact this
    obtain ⟨c₂, i₂, len₂, hc₂, hd₂, hf₂⟩ := hend
    have hW' : U.WarmedH s₂.vm := hW₂
    have hcc : c₂ = c := by
      have h1 : s₂.code? g.method = U.code? g.method := by
        rw [State.code?_eq, State.code?_eq, hW'.alike.method?]
      exact Option.some.inj (hc₂.symm.trans (h1.trans h.code))
    subst hcc
    have hlen : len₂ = len := by rw [hdg] at hd₂; cases hd₂; rfl
    subst hlen
    have hs₂ : s₂ = (({ U with heap := s₂.heap, slotsUsed := s₂.slotsUsed } : State).setVm s₂.vm).setTop { g with pc := g.pc + len₂, stack := v.toList ++ g.stack } := by
      refine e3.trans ?_
      rw [hf₂, State.calling_eq h.top, State.setFrames_setFrames, State.setTop_of_frames _ hr', hr]
      rfl
    have hsame : U.sameButNew ({ U with heap := s₂.heap, slotsUsed := s₂.slotsUsed } : State) L mc ms := by
      refine ⟨?_, q2, q3, q4, q5, q6⟩
      obtain ⟨t, ht, -⟩ := State.frames_cons hr
      show ({ U with heap := s₂.heap, slotsUsed := s₂.slotsUsed } : State) = { U.setFrames U.frames with heap := s₂.heap, slotsUsed := s₂.slotsUsed }
      rw [State.setFrames_self ht]
    subst hg
    refine Or.inl ⟨v, ⟨(({ U with heap := s₂.heap, slotsUsed := s₂.slotsUsed } : State).setVm s₂.vm), Ls ++ L, c0 + mc, s0 + ms⟩,
      ⟨X.admits, X.cas, X.clock, X.frames, X.room, X.hears, X.method, X.code, (X.here.setHeapUsed s₂.heap s₂.slotsUsed).setVm hW'.alike, X.tail, State.WarmedH.trans X.warmed hW', X.limits, X.bytes, X.same.trans (hsame.setVm s.vm)⟩,
      ⟨g, mk, s₂, L, rfl, rfl, hqc, rfl, hL, rfl, rfl⟩, ?_⟩
    show Steps p.tables e below _ ((({ U with heap := s₂.heap, slotsUsed := s₂.slotsUsed } : State).setVm s₂.vm).setTop { g with pc := g.pc + len₂, stack := v.toList ++ g.stack })
    rw [← hs₂]
    exact hsteps
  · obtain ⟨e2, q2, q3, q4, q5, q6⟩ := id hsm
    have e3 : s₂ = ({ (U.calling g mk a).setFrames s₂.frames with heap := s₂.heap, slotsUsed := s₂.slotsUsed } : State).setVm s₂.vm := by
      have : s₂ = ({ s₂ with vm := (U.calling g mk a).vm } : State).setVm s₂.vm := rfl
      rw [e2] at this
      exact this
    have hf₂ : s₂.frames = .throwing q :: .java g :: U.frames.tail := hend
    have hW' : U.WarmedH s₂.vm := hW₂
    have hs₂ : s₂ = ((({ U with heap := s₂.heap, slotsUsed := s₂.slotsUsed } : State).setVm s₂.vm).setTop g).pushFrame (.throwing q) := by
      refine e3.trans ?_
      rw [hf₂, State.calling_eq h.top, State.setFrames_setFrames, State.pushFrame, State.frames_setTop _ hr', State.setTop_of_frames _ hr', State.setFrames_setFrames, hr]
      rfl
    have hsame : U.sameButNew ({ U with heap := s₂.heap, slotsUsed := s₂.slotsUsed } : State) L mc ms := by
      refine ⟨?_, q2, q3, q4, q5, q6⟩
      obtain ⟨t, ht, -⟩ := State.frames_cons hr
      show ({ U with heap := s₂.heap, slotsUsed := s₂.slotsUsed } : State) = { U.setFrames U.frames with heap := s₂.heap, slotsUsed := s₂.slotsUsed }
      rw [State.setFrames_self ht]
    subst hg
    refine Or.inr ⟨q, ⟨(({ U with heap := s₂.heap, slotsUsed := s₂.slotsUsed } : State).setVm s₂.vm), Ls ++ L, c0 + mc, s0 + ms⟩,
      ⟨X.admits, X.cas, X.clock, X.frames, X.room, X.hears, X.method, X.code, (X.here.setHeapUsed s₂.heap s₂.slotsUsed).setVm hW'.alike, X.tail, State.WarmedH.trans X.warmed hW', X.limits, X.bytes, X.same.trans (hsame.setVm s.vm)⟩,
      ⟨g, mk, s₂, L, E, ce, rfl, rfl, hx, hce, hcv, hcl, rfl, hL, rfl, rfl⟩, ?_⟩
    show Steps p.tables e below _ (((({ U with heap := s₂.heap, slotsUsed := s₂.slotsUsed } : State).setVm s₂.vm).setTop g).pushFrame (.throwing q))
    rw [← hs₂]
    exact hsteps
end Payer
section Calls
variable {p : Program} {l : Launch} {e : Env} {R : Room} {s : State} {m : MethodId} {args : Array Value} {below : List Frame} {meth : Method} {c : Code} {T : State} {locs : List Loc} {cells slots : Nat}
theorem vx_callV (X : Stand p l e R s m args below meth c T locs cells slots) (hexec : p.tables.exec = Jvm.exec) {own C : String} {index : Nat} {y : MethodName} {bytes : ByteArray} {maxL : Nat} {ret : Option FieldType}
    (hown : s.vm.findClass own = some m.cls) (hlink : (Cond.methodLink own index y).before args s = true) (hinst : (Cond.instanceMethod y).before args s = true) (hsel : (Cond.selects C y y).before args s = true)
    (hcode : (Cond.code y bytes maxL ret).before args s = true) (hy : y.cls ≠ "java/lang/invoke/MethodHandle" ∧ y.cls ≠ "java/lang/invoke/VarHandle")
    {W9 : Nat} {Pre : Pt → Array Value → Prop} {Post : Pt → Array Value → Option Value → Pt → Prop} {PostX : Pt → Array Value → Addr → Pt → Prop} (hK : vx_Back l R p e below s args y 3 W9 Pre Post PostX)
    {b : Addr} {cellB : Cell} (hcell : T.heap[b]? = some cellB) (hobj : cellB.vm.isStatics = false) (hcls : s.vm.findClass C = some cellB.cls)
    {g : JFrame} (hg : g.method = m) (hsize : g.locals.size = c.maxLocals) {argsL rest : List Value} (hlen : ∀ sig, parseMethodDescriptor y.desc = some sig → argsL.length = sig.parameters.length)
    (hstack : g.stack = argsL.reverse ++ .ref b :: rest) (hW : 2 * g.monitorRoom + (rest.map fun v => v.category).sum ≤ W9) (hdg : decode c.code g.pc = .ok (.invokevirtual index, 3))
    (hpre : ∀ vm₁, s.WarmedH vm₁ → Pre ⟨T.setVm vm₁, locs, cells, slots⟩ (Value.ref b :: argsL).toArray) :
    (∃ (v : Option Value) (vm₁ : Vm) (B : Pt), s.WarmedH vm₁ ∧ Stand p l e R s m args below meth c B.U B.locs B.cells B.slots ∧ Post ⟨T.setVm vm₁, locs, cells, slots⟩ (Value.ref b :: argsL).toArray v B ∧
      ∀ target, Steps p.tables e below (B.U.setTop { g with pc := g.pc + 3, stack := v.toList ++ rest }) target → Steps p.tables e below (T.setTop g) target) ∨
    (∃ (q : Addr) (vm₁ : Vm) (B : Pt), s.WarmedH vm₁ ∧ Stand p l e R s m args below meth c B.U B.locs B.cells B.slots ∧ PostX ⟨T.setVm vm₁, locs, cells, slots⟩ (Value.ref b :: argsL).toArray q B ∧
      Steps p.tables e below (T.setTop g) ((B.U.setTop { g with stack := rest }).pushFrame (.throwing q))) := by
  obtain ⟨mk, methM, hnamed, hmethM, hstM, habM⟩ := Cond.instanceMethod_spec hinst
  obtain ⟨methM', cM, hmethM', -, -, -, -, -, -, hsigM⟩ := Cond.code_spec hnamed hcode
  cases hmethM.symm.trans hmethM'
  obtain ⟨c2, r2, m2, q1, q2, q3, q4, kP, hkP, hkPi⟩ := Cond.selects_spec hsel
  cases hcls.symm.trans q1
  cases (State.methodFound?_of_named hnamed hy).symm.trans q2
  cases hnamed.symm.trans q3
  have hselP : selectMethod e.platform s.vm cellB.cls mk = .method mk := by rw [Launch.admits_selectMethod X.admits]; exact q4
  obtain ⟨vm₁, X₁, hstep₁⟩ := X.invokevirtual hexec hown hlink hnamed hmethM hstM hkP hkPi hy (a := b) (cell := cellB) hcell
    (fun z h => by rw [h] at hobj; cases hobj) hselP hmethM habM hkP hkPi (g := g) hg (argsL := argsL) (rest := rest) (hlen _ hsigM) hstack hdg
  rcases hK m meth c ⟨T.setVm vm₁, locs, cells, slots⟩ { g with stack := rest } (.invokevirtual index) mk (Value.ref b :: argsL).toArray X₁ hg hsize hdg hW (X₁.named hnamed) (hpre vm₁ X₁.warmed) with ⟨v, B, X', hpost, hsteps⟩ | ⟨q, B, X', hpost, hsteps⟩
  · exact Or.inl ⟨v, vm₁, B, X₁.warmed, X', hpost, fun target h => hstep₁ _ fun acts => by rw [doInvoke_state]; exact hsteps.trans h⟩
  · exact Or.inr ⟨q, vm₁, B, X₁.warmed, X', hpost, hstep₁ _ fun acts => by rw [doInvoke_state]; exact hsteps⟩
theorem vx_callS (X : Stand p l e R s m args below meth c T locs cells slots) (hexec : p.tables.exec = Jvm.exec) {own : String} {index : Nat} {y : MethodName} {bytes : ByteArray} {maxL : Nat} {ret : Option FieldType}
    (hown : s.vm.findClass own = some m.cls) (hlink : (Cond.methodLink own index y).before args s = true) (hstat : (Cond.static y).before args s = true) (hinit : (Cond.initialized y.cls).before args s = true)
    (hcode : (Cond.code y bytes maxL ret).before args s = true) (hy : y.cls ≠ "java/lang/invoke/MethodHandle" ∧ y.cls ≠ "java/lang/invoke/VarHandle")
    {W9 : Nat} {Pre : Pt → Array Value → Prop} {Post : Pt → Array Value → Option Value → Pt → Prop} {PostX : Pt → Array Value → Addr → Pt → Prop} (hK : vx_Back l R p e below s args y 3 W9 Pre Post PostX)
    {g : JFrame} (hg : g.method = m) (hsize : g.locals.size = c.maxLocals) {argsL rest : List Value} (hlen : ∀ sig, parseMethodDescriptor y.desc = some sig → argsL.length = sig.parameters.length)
    (hstack : g.stack = argsL.reverse ++ rest) (hW : 2 * g.monitorRoom + (rest.map fun v => v.category).sum ≤ W9) (hdg : decode c.code g.pc = .ok (.invokestatic index, 3))
    (hpre : ∀ vm₁, s.WarmedH vm₁ → Pre ⟨T.setVm vm₁, locs, cells, slots⟩ argsL.toArray) :
    (∃ (v : Option Value) (vm₁ : Vm) (B : Pt), s.WarmedH vm₁ ∧ Stand p l e R s m args below meth c B.U B.locs B.cells B.slots ∧ Post ⟨T.setVm vm₁, locs, cells, slots⟩ argsL.toArray v B ∧
      ∀ target, Steps p.tables e below (B.U.setTop { g with pc := g.pc + 3, stack := v.toList ++ rest }) target → Steps p.tables e below (T.setTop g) target) ∨
    (∃ (q : Addr) (vm₁ : Vm) (B : Pt), s.WarmedH vm₁ ∧ Stand p l e R s m args below meth c B.U B.locs B.cells B.slots ∧ PostX ⟨T.setVm vm₁, locs, cells, slots⟩ argsL.toArray q B ∧
      Steps p.tables e below (T.setTop g) ((B.U.setTop { g with stack := rest }).pushFrame (.throwing q))) := by
  obtain ⟨mk, hnamed⟩ := Cond.code_named hcode
  obtain ⟨methM, cM, hmethM, -, -, -, -, -, -, hsigM⟩ := Cond.code_spec hnamed hcode
  have hstatic : methM.isStatic = true := Cond.static_spec hnamed hmethM hstat
  obtain ⟨kP, hkP, -⟩ := className_of_methodNamed hnamed
  have hinitP : kP.init = .initialized := Cond.initialized_spec (findClass_of_methodNamed hnamed) hkP hinit
  obtain ⟨vm₁, X₁, hstep₁⟩ := X.invokestatic hexec hown hlink hnamed hmethM hstatic hkP hinitP hy (g := g) hg (argsL := argsL) (rest := rest) (hlen _ hsigM) hstack hdg
  rcases hK m meth c ⟨T.setVm vm₁, locs, cells, slots⟩ { g with stack := rest } (.invokestatic index) mk argsL.toArray X₁ hg hsize hdg hW (X₁.named hnamed) (hpre vm₁ X₁.warmed) with ⟨v, B, X', hpost, hsteps⟩ | ⟨q, B, X', hpost, hsteps⟩
  · exact Or.inl ⟨v, vm₁, B, X₁.warmed, X', hpost, fun target h => hstep₁ _ fun acts => by rw [doInvoke_state]; exact hsteps.trans h⟩
  · exact Or.inr ⟨q, vm₁, B, X₁.warmed, X', hpost, hstep₁ _ fun acts => by rw [doInvoke_state]; exact hsteps⟩
end Calls
theorem vx_cls {s : State} {T : State} {vm₁ : Vm} {E : String} {k : ClassId} (hW : s.WarmedH vm₁) (h : (T.setVm vm₁).vm.findClass E = some k) : s.vm.findClass E = some k := by
  have h1 : vm₁.findClass E = some k := h
  rw [hW.alike.findClass] at h1
  exact h1
/-- the method's frame g, with q thrown over it -/
def vx_W (p : Program) (l : Launch) (e : Env) (R : Room) (s : State) (m : MethodId) (args : Array Value) (below : List Frame) (meth : Method) (c : Code) (H : Heap) (locs : List Loc) (cells slots : Nat) (Q : State → Prop) (g : JFrame) (q : Addr) : Prop :=
  ∀ T : State, T.heap = H → Stand p l e R s m args below meth c T locs cells slots → ∃ t, Steps p.tables e below ((T.setTop g).pushFrame (.throwing q)) t ∧ Q t
def vx_Run (p : Program) (l : Launch) (e : Env) (R : Room) (s : State) (m : MethodId) (args : Array Value) (below : List Frame) (meth : Method) (c : Code) (H : Heap) (locs : List Loc) (cells slots mc ms : Nat) (g : JFrame) (rest : List Value) (Qa : State → Outcome → State → Prop) (XC : String → State → State → Prop) (free : Addr → Prop) : Prop :=
  ∀ T : State, T.heap = H → Stand p l e R s m args below meth c T locs cells slots →
    (∃ (v : Option Value) (st₀ t T' : State) (L : List Loc), st₀.heap = H ∧ Stand p l e R s m args below meth c T' (locs ++ L) (cells + mc) (slots + ms) ∧ (∀ q ∈ L, free q.base) ∧ T'.heap = t.heap ∧ T'.vm = t.vm ∧ Qa st₀ (.returned v) t ∧
      Goes p e below T g T' { g with pc := g.pc + 3, stack := v.toList ++ rest }) ∨
    (∃ (q : Addr) (st₀ t T' : State) (L : List Loc) (E : String) (ce : Cell), st₀.heap = H ∧ Stand p l e R s m args below meth c T' (locs ++ L) (cells + mc) (slots + ms) ∧ (∀ z ∈ L, free z.base) ∧ T'.heap = t.heap ∧ T'.vm = t.vm ∧ XC E st₀ t ∧ t.heap[q]? = some ce ∧ ce.vm = .none ∧ s.vm.findClass E = some ce.cls ∧
      Steps p.tables e below (T.setTop g) ((T'.setTop { g with stack := rest }).pushFrame (.throwing q)))
def vx_X {S : Type} (px : S → Prop) (B : String → S → State → Prop) (A : Nat → Prop) : String → State → State → Prop := fun E st t => ∃ u : S, px u ∧ B E u t ∧ va_F A st t
section Runs
variable {p : Program} {l : Launch} {e : Env} {R : Room} {s : State} {m : MethodId} {args : Array Value} {below : List Frame} {meth : Method} {c : Code} {H : Heap} {locs : List Loc} {cells slots : Nat}
variable {y : MethodName} {bytes cc : ByteArray} {maxL nL mc ms n index : Nat} {ret : Option FieldType} {ws : List Cond} {rm : Room} {Pc : Array Value → State → Prop} {Qc : Array Value → State → Outcome → State → Prop} {XC : String → State → State → Prop} {free : Addr → Prop} {Ts : List Cond} {own C : String} {b : Addr} {As rest : List Value} {g : JFrame}
theorem vx_callBack (cb : CallB R s args own index y bytes maxL ret ws rm mc ms n) (hM : vx_Met l y ws rm Pc Qc XC mc ms free) (hbl : FrameBlind Pc) : vx_Back l R p e below s args y 3 8 (PreOf R mc ms Pc) (PostOf Qc mc ms free) (vx_Post XC mc ms free) := by
  obtain ⟨hrc, hrs, hfr, hlo, hws, hcw, -, hini, -⟩ := cb
  exact vx_back (bytes := bytes) (maxL := maxL) (ret := ret) hM hbl hrc hrs hfr hlo hws hcw (fun a' U hW => word_at hW (Or.inl (by first | rfl | simp [Cond.onTables, Cond.keeps, Cond.steady])) hini)
theorem vx_runV (S : CallFix p m c cc nL s args Ts own) (hM : vx_Met l y ws rm Pc Qc XC mc ms free) (cw : CallW R s args own C index y bytes maxL ret ws rm mc ms n) (hp : PreV s H C b Pc As)
    (hg : g.method = m) (hn : As.length = n) (hsize : g.locals.size = nL) (hstack : g.stack = As.reverse ++ .ref b :: rest) (hW : 2 * g.monitorRoom + (rest.map fun v => v.category).sum ≤ 8) (hdg : decode cc g.pc = .ok (.invokevirtual index, 3)) (hf : cells + mc ≤ R.cells ∧ slots + ms ≤ R.slots) :
    vx_Run p l e R s m args below meth c H locs cells slots mc ms g rest (Qc (Value.ref b :: As).toArray) XC free := by
  have hK : vx_Back l R p e below s args y 3 8 (PreOf R mc ms Pc) (PostOf Qc mc ms free) (vx_Post XC mc ms free) := vx_callBack cw.1 hM hp.1
  obtain ⟨⟨-, -, -, -, -, -, hcode, -, hy, hlen, hl⟩, hin, hse⟩ := cw
  obtain ⟨hx, hb, hml, ho, -⟩ := S
  obtain ⟨-, ⟨cellB, hcB, hoB, hclB⟩, hPc⟩ := hp
  intro T hT X
  rcases vx_callV X hx (C := C) (bytes := bytes) (maxL := maxL) (ret := ret) ho hl hin hse hcode hy hK (by rw [hT]; exact hcB) hoB hclB hg (hsize.trans hml.symm) (argsL := As) (rest := rest) (fun sig h => hn.trans (hlen sig h)) hstack hW (by rw [hb]; exact hdg)
    (fun vm₁ hW₁ => ⟨hf.1, hf.2, hPc (T.setVm vm₁) hT hW₁⟩) with ⟨v, vm₁, ⟨U', l2, c2, s2⟩, hW₁, X', ⟨g', mk, t, L, e1, e2, hq, h1, hL, h2, h3⟩, st⟩ | ⟨q, vm₁, ⟨U', l2, c2, s2⟩, hW₁, X', ⟨g', mk, t, L, E, ce, e1, e2, hq, hce, hcv, hcl, h1, hL, h2, h3⟩, st⟩
  · dsimp only [Pt.U, Pt.locs, Pt.cells, Pt.slots] at X' e1 e2 h1 h2 h3 st
    subst h1; subst h2; subst h3
    exact Or.inl ⟨v, (T.setVm vm₁).calling g' mk (Value.ref b :: As).toArray, t, U', L, hT, X', hL, e1, e2, hq, st⟩
  · dsimp only [Pt.U, Pt.locs, Pt.cells, Pt.slots] at X' e1 e2 h1 h2 h3 st hcl
    subst h1; subst h2; subst h3
    exact Or.inr ⟨q, (T.setVm vm₁).calling g' mk (Value.ref b :: As).toArray, t, U', L, E, ce, hT, X', hL, e1, e2, hq, hce, hcv, vx_cls hW₁ hcl, st⟩
theorem vx_runS (S : CallFix p m c cc nL s args Ts own) (hM : vx_Met l y ws rm Pc Qc XC mc ms free) (cw : CallB R s args own index y bytes maxL ret ws rm mc ms n ∧ (Cond.static y).before args s = true) (hp : PreS s H Pc As)
    (hg : g.method = m) (hn : As.length = n) (hsize : g.locals.size = nL) (hstack : g.stack = As.reverse ++ rest) (hW : 2 * g.monitorRoom + (rest.map fun v => v.category).sum ≤ 8) (hdg : decode cc g.pc = .ok (.invokestatic index, 3)) (hf : cells + mc ≤ R.cells ∧ slots + ms ≤ R.slots) :
    vx_Run p l e R s m args below meth c H locs cells slots mc ms g rest (Qc As.toArray) XC free := by
  have hK : vx_Back l R p e below s args y 3 8 (PreOf R mc ms Pc) (PostOf Qc mc ms free) (vx_Post XC mc ms free) := vx_callBack cw.1 hM hp.1
  obtain ⟨⟨-, -, -, -, -, -, hcode, hini, hy, hlen, hl⟩, hstt⟩ := cw
  obtain ⟨hx, hb, hml, ho, -⟩ := S
  intro T hT X
  rcases vx_callS X hx (bytes := bytes) (maxL := maxL) (ret := ret) ho hl hstt hini hcode hy hK hg (hsize.trans hml.symm) (argsL := As) (rest := rest) (fun sig h => hn.trans (hlen sig h)) hstack hW (by rw [hb]; exact hdg)
    (fun vm₁ hW₁ => ⟨hf.1, hf.2, hp.2 (T.setVm vm₁) hT hW₁⟩) with ⟨v, vm₁, ⟨U', l2, c2, s2⟩, hW₁, X', ⟨g', mk, t, L, e1, e2, hq, h1, hL, h2, h3⟩, st⟩ | ⟨q, vm₁, ⟨U', l2, c2, s2⟩, hW₁, X', ⟨g', mk, t, L, E, ce, e1, e2, hq, hce, hcv, hcl, h1, hL, h2, h3⟩, st⟩
  · dsimp only [Pt.U, Pt.locs, Pt.cells, Pt.slots] at X' e1 e2 h1 h2 h3 st
    subst h1; subst h2; subst h3
    exact Or.inl ⟨v, (T.setVm vm₁).calling g' mk As.toArray, t, U', L, hT, X', hL, e1, e2, hq, st⟩
  · dsimp only [Pt.U, Pt.locs, Pt.cells, Pt.slots] at X' e1 e2 h1 h2 h3 st hcl
    subst h1; subst h2; subst h3
    exact Or.inr ⟨q, (T.setVm vm₁).calling g' mk As.toArray, t, U', L, E, ce, hT, X', hL, e1, e2, hq, hce, hcv, vx_cls hW₁ hcl, st⟩
end Runs
section Rows
variable {p : Program} {l : Launch} {e : Env} {R : Room} {s : State} {m : MethodId} {args : Array Value} {below : List Frame} {meth : Method} {c : Code} {H : Heap} {locs : List Loc} {cells slots : Nat} {Q : State → Prop}
variable {mc ms : Nat} {free : Addr → Prop} {A0 A1 : Nat → Prop} {H0 : Heap} {a : Array Value} {pc : Nat} {ls : Array Slot} {st0 rest : List Value}
theorem vx_keep {st₀ t T' : State} {L : List Loc} (h0 : st₀.heap = H) (e1 : T'.heap = t.heap) (hS : va_S A0 H0 H locs) (hA : ∀ q, q < H.size → A1 q → A0 q) (hf : ∀ q, free q → A0 q) (hL : ∀ q ∈ L, free q.base) (hF : va_F A1 st₀ t) :
    H.size ≤ T'.heap.size ∧ (∀ q : Nat, q < H.size → ¬ A1 q → T'.heap[q]? = H[q]?) ∧ va_S A0 H0 T'.heap (locs ++ L) := by
  obtain ⟨hz, hk⟩ := hF
  rw [h0] at hz hk
  exact ⟨by rw [e1]; exact hz, fun q h1 h2 => by rw [e1]; exact hk q h1 h2,
    ⟨Nat.le_trans hS.1 (by rw [e1]; exact hz), fun q h1 h2 => by rw [e1, hk q (Nat.lt_of_lt_of_le h1 hS.1) (fun z => h2 (hA q (Nat.lt_of_lt_of_le h1 hS.1) z))]; exact hS.2.1 q h1 h2, fun q hq => by
      rcases List.mem_append.mp hq with h | h
      · exact hS.2.2 q h
      · exact hf _ (hL q h)⟩⟩
theorem vx_calli {S SX : Type} {post : Int32 → S → Prop} {px : SX → Prop} {B : S → State → Prop} {BX : String → SX → State → Prop} {AX : Nat → Prop} (hr : vx_Run p l e R s m args below meth c H locs cells slots mc ms (F0 m pc ls st0) rest (va_Qi post B A1 a) (vx_X px BX AX) free) (hS : va_S A0 H0 H locs) (hA : ∀ q, q < H.size → A1 q → A0 q) (hf : ∀ q, free q → A0 q) (hAX : ∀ q, q < H.size → AX q → A0 q)
    (kx : ∀ (E : String) (ce : Cell) (q9 : Addr) (u : SX) (t : State) (H1 : Heap) (locs1 : List Loc), t.heap = H1 → s.vm.Alike t.vm → px u → BX E u t → H.size ≤ H1.size → (∀ q : Nat, q < H.size → ¬ AX q → H1[q]? = H[q]?) → va_S A0 H0 H1 locs1 → H1[q9]? = some ce → ce.vm = .none → s.vm.findClass E = some ce.cls → vx_W p l e R s m args below meth c H1 locs1 (cells + mc) (slots + ms) Q (F0 m pc ls rest) q9)
    (kk : ∀ (r : Int32) (u : S) (t : State) (H1 : Heap) (locs1 : List Loc), t.heap = H1 → s.vm.Alike t.vm → post r u → B u t → H.size ≤ H1.size → (∀ q : Nat, q < H.size → ¬ A1 q → H1[q]? = H[q]?) → va_S A0 H0 H1 locs1 → W p l e R s m args below meth c H1 locs1 (cells + mc) (slots + ms) Q (F0 m (pc + 3) ls (.int r :: rest))) : W p l e R s m args below meth c H locs cells slots Q (F0 m pc ls st0) := by
  intro T hT X
  rcases hr T hT X with ⟨v, st₀, t, T', L, h0, X', hL, e1, e2, ⟨⟨r, u, hv, hp, hb⟩, hF⟩, st⟩ | ⟨q, st₀, t, T', L, E, ce, h0, X', hL, e1, e2, ⟨u, hp, hb, hF⟩, hce, hcv, hcl, st⟩
  · cases hv
    obtain ⟨k1, k2, k3⟩ := vx_keep h0 e1 hS hA hf hL hF
    obtain ⟨t2, a1, b1⟩ := kk r u t T'.heap (locs ++ L) e1.symm (by rw [← e2]; exact X'.warmed.alike) hp hb k1 k2 k3 T' rfl X'
    exact ⟨t2, st t2 a1, b1⟩
  · obtain ⟨k1, k2, k3⟩ := vx_keep h0 e1 hS hAX hf hL hF
    obtain ⟨t2, a1, b1⟩ := kx E ce q u t T'.heap (locs ++ L) e1.symm (by rw [← e2]; exact X'.warmed.alike) hp hb k1 k2 k3 (by rw [e1]; exact hce) hcv hcl T' rfl X'
    exact ⟨t2, st.trans a1, b1⟩
theorem vx_calll {S SX : Type} {post : Int64 → S → Prop} {px : SX → Prop} {B : S → State → Prop} {BX : String → SX → State → Prop} {AX : Nat → Prop} (hr : vx_Run p l e R s m args below meth c H locs cells slots mc ms (F0 m pc ls st0) rest (va_Ql post B A1 a) (vx_X px BX AX) free) (hS : va_S A0 H0 H locs) (hA : ∀ q, q < H.size → A1 q → A0 q) (hf : ∀ q, free q → A0 q) (hAX : ∀ q, q < H.size → AX q → A0 q)
    (kx : ∀ (E : String) (ce : Cell) (q9 : Addr) (u : SX) (t : State) (H1 : Heap) (locs1 : List Loc), t.heap = H1 → s.vm.Alike t.vm → px u → BX E u t → H.size ≤ H1.size → (∀ q : Nat, q < H.size → ¬ AX q → H1[q]? = H[q]?) → va_S A0 H0 H1 locs1 → H1[q9]? = some ce → ce.vm = .none → s.vm.findClass E = some ce.cls → vx_W p l e R s m args below meth c H1 locs1 (cells + mc) (slots + ms) Q (F0 m pc ls rest) q9)
    (kk : ∀ (r : Int64) (u : S) (t : State) (H1 : Heap) (locs1 : List Loc), t.heap = H1 → s.vm.Alike t.vm → post r u → B u t → H.size ≤ H1.size → (∀ q : Nat, q < H.size → ¬ A1 q → H1[q]? = H[q]?) → va_S A0 H0 H1 locs1 → W p l e R s m args below meth c H1 locs1 (cells + mc) (slots + ms) Q (F0 m (pc + 3) ls (.long r :: rest))) : W p l e R s m args below meth c H locs cells slots Q (F0 m pc ls st0) := by
  intro T hT X
  rcases hr T hT X with ⟨v, st₀, t, T', L, h0, X', hL, e1, e2, ⟨⟨r, u, hv, hp, hb⟩, hF⟩, st⟩ | ⟨q, st₀, t, T', L, E, ce, h0, X', hL, e1, e2, ⟨u, hp, hb, hF⟩, hce, hcv, hcl, st⟩
  · cases hv
    obtain ⟨k1, k2, k3⟩ := vx_keep h0 e1 hS hA hf hL hF
    obtain ⟨t2, a1, b1⟩ := kk r u t T'.heap (locs ++ L) e1.symm (by rw [← e2]; exact X'.warmed.alike) hp hb k1 k2 k3 T' rfl X'
    exact ⟨t2, st t2 a1, b1⟩
  · obtain ⟨k1, k2, k3⟩ := vx_keep h0 e1 hS hAX hf hL hF
    obtain ⟨t2, a1, b1⟩ := kx E ce q u t T'.heap (locs ++ L) e1.symm (by rw [← e2]; exact X'.warmed.alike) hp hb k1 k2 k3 (by rw [e1]; exact hce) hcv hcl T' rfl X'
    exact ⟨t2, st.trans a1, b1⟩
theorem vx_callf {S SX : Type} {post : UInt32 → S → Prop} {px : SX → Prop} {B : S → State → Prop} {BX : String → SX → State → Prop} {AX : Nat → Prop} (hr : vx_Run p l e R s m args below meth c H locs cells slots mc ms (F0 m pc ls st0) rest (va_Qf post B A1 a) (vx_X px BX AX) free) (hS : va_S A0 H0 H locs) (hA : ∀ q, q < H.size → A1 q → A0 q) (hf : ∀ q, free q → A0 q) (hAX : ∀ q, q < H.size → AX q → A0 q)
    (kx : ∀ (E : String) (ce : Cell) (q9 : Addr) (u : SX) (t : State) (H1 : Heap) (locs1 : List Loc), t.heap = H1 → s.vm.Alike t.vm → px u → BX E u t → H.size ≤ H1.size → (∀ q : Nat, q < H.size → ¬ AX q → H1[q]? = H[q]?) → va_S A0 H0 H1 locs1 → H1[q9]? = some ce → ce.vm = .none → s.vm.findClass E = some ce.cls → vx_W p l e R s m args below meth c H1 locs1 (cells + mc) (slots + ms) Q (F0 m pc ls rest) q9)
    (kk : ∀ (r : UInt32) (u : S) (t : State) (H1 : Heap) (locs1 : List Loc), t.heap = H1 → s.vm.Alike t.vm → post r u → B u t → H.size ≤ H1.size → (∀ q : Nat, q < H.size → ¬ A1 q → H1[q]? = H[q]?) → va_S A0 H0 H1 locs1 → W p l e R s m args below meth c H1 locs1 (cells + mc) (slots + ms) Q (F0 m (pc + 3) ls (.float r :: rest))) : W p l e R s m args below meth c H locs cells slots Q (F0 m pc ls st0) := by
  intro T hT X
  rcases hr T hT X with ⟨v, st₀, t, T', L, h0, X', hL, e1, e2, ⟨⟨r, u, hv, hp, hb⟩, hF⟩, st⟩ | ⟨q, st₀, t, T', L, E, ce, h0, X', hL, e1, e2, ⟨u, hp, hb, hF⟩, hce, hcv, hcl, st⟩
  · cases hv
    obtain ⟨k1, k2, k3⟩ := vx_keep h0 e1 hS hA hf hL hF
    obtain ⟨t2, a1, b1⟩ := kk r u t T'.heap (locs ++ L) e1.symm (by rw [← e2]; exact X'.warmed.alike) hp hb k1 k2 k3 T' rfl X'
    exact ⟨t2, st t2 a1, b1⟩
  · obtain ⟨k1, k2, k3⟩ := vx_keep h0 e1 hS hAX hf hL hF
    obtain ⟨t2, a1, b1⟩ := kx E ce q u t T'.heap (locs ++ L) e1.symm (by rw [← e2]; exact X'.warmed.alike) hp hb k1 k2 k3 (by rw [e1]; exact hce) hcv hcl T' rfl X'
    exact ⟨t2, st.trans a1, b1⟩
theorem vx_calld {S SX : Type} {post : UInt64 → S → Prop} {px : SX → Prop} {B : S → State → Prop} {BX : String → SX → State → Prop} {AX : Nat → Prop} (hr : vx_Run p l e R s m args below meth c H locs cells slots mc ms (F0 m pc ls st0) rest (va_Qd post B A1 a) (vx_X px BX AX) free) (hS : va_S A0 H0 H locs) (hA : ∀ q, q < H.size → A1 q → A0 q) (hf : ∀ q, free q → A0 q) (hAX : ∀ q, q < H.size → AX q → A0 q)
    (kx : ∀ (E : String) (ce : Cell) (q9 : Addr) (u : SX) (t : State) (H1 : Heap) (locs1 : List Loc), t.heap = H1 → s.vm.Alike t.vm → px u → BX E u t → H.size ≤ H1.size → (∀ q : Nat, q < H.size → ¬ AX q → H1[q]? = H[q]?) → va_S A0 H0 H1 locs1 → H1[q9]? = some ce → ce.vm = .none → s.vm.findClass E = some ce.cls → vx_W p l e R s m args below meth c H1 locs1 (cells + mc) (slots + ms) Q (F0 m pc ls rest) q9)
    (kk : ∀ (r : UInt64) (u : S) (t : State) (H1 : Heap) (locs1 : List Loc), t.heap = H1 → s.vm.Alike t.vm → post r u → B u t → H.size ≤ H1.size → (∀ q : Nat, q < H.size → ¬ A1 q → H1[q]? = H[q]?) → va_S A0 H0 H1 locs1 → W p l e R s m args below meth c H1 locs1 (cells + mc) (slots + ms) Q (F0 m (pc + 3) ls (.double r :: rest))) : W p l e R s m args below meth c H locs cells slots Q (F0 m pc ls st0) := by
  intro T hT X
  rcases hr T hT X with ⟨v, st₀, t, T', L, h0, X', hL, e1, e2, ⟨⟨r, u, hv, hp, hb⟩, hF⟩, st⟩ | ⟨q, st₀, t, T', L, E, ce, h0, X', hL, e1, e2, ⟨u, hp, hb, hF⟩, hce, hcv, hcl, st⟩
  · cases hv
    obtain ⟨k1, k2, k3⟩ := vx_keep h0 e1 hS hA hf hL hF
    obtain ⟨t2, a1, b1⟩ := kk r u t T'.heap (locs ++ L) e1.symm (by rw [← e2]; exact X'.warmed.alike) hp hb k1 k2 k3 T' rfl X'
    exact ⟨t2, st t2 a1, b1⟩
  · obtain ⟨k1, k2, k3⟩ := vx_keep h0 e1 hS hAX hf hL hF
    obtain ⟨t2, a1, b1⟩ := kx E ce q u t T'.heap (locs ++ L) e1.symm (by rw [← e2]; exact X'.warmed.alike) hp hb k1 k2 k3 (by rw [e1]; exact hce) hcv hcl T' rfl X'
    exact ⟨t2, st.trans a1, b1⟩
theorem vx_callv {S SX : Type} {post : S → Prop} {px : SX → Prop} {B : S → State → Prop} {BX : String → SX → State → Prop} {AX : Nat → Prop} (hr : vx_Run p l e R s m args below meth c H locs cells slots mc ms (F0 m pc ls st0) rest (va_Qv post B A1 a) (vx_X px BX AX) free) (hS : va_S A0 H0 H locs) (hA : ∀ q, q < H.size → A1 q → A0 q) (hf : ∀ q, free q → A0 q) (hAX : ∀ q, q < H.size → AX q → A0 q)
    (kx : ∀ (E : String) (ce : Cell) (q9 : Addr) (u : SX) (t : State) (H1 : Heap) (locs1 : List Loc), t.heap = H1 → s.vm.Alike t.vm → px u → BX E u t → H.size ≤ H1.size → (∀ q : Nat, q < H.size → ¬ AX q → H1[q]? = H[q]?) → va_S A0 H0 H1 locs1 → H1[q9]? = some ce → ce.vm = .none → s.vm.findClass E = some ce.cls → vx_W p l e R s m args below meth c H1 locs1 (cells + mc) (slots + ms) Q (F0 m pc ls rest) q9)
    (kk : ∀ (u : S) (t : State) (H1 : Heap) (locs1 : List Loc), t.heap = H1 → s.vm.Alike t.vm → post u → B u t → H.size ≤ H1.size → (∀ q : Nat, q < H.size → ¬ A1 q → H1[q]? = H[q]?) → va_S A0 H0 H1 locs1 → W p l e R s m args below meth c H1 locs1 (cells + mc) (slots + ms) Q (F0 m (pc + 3) ls (rest))) : W p l e R s m args below meth c H locs cells slots Q (F0 m pc ls st0) := by
  intro T hT X
  rcases hr T hT X with ⟨v, st₀, t, T', L, h0, X', hL, e1, e2, ⟨⟨u, hv, hp, hb⟩, hF⟩, st⟩ | ⟨q, st₀, t, T', L, E, ce, h0, X', hL, e1, e2, ⟨u, hp, hb, hF⟩, hce, hcv, hcl, st⟩
  · cases hv
    obtain ⟨k1, k2, k3⟩ := vx_keep h0 e1 hS hA hf hL hF
    obtain ⟨t2, a1, b1⟩ := kk u t T'.heap (locs ++ L) e1.symm (by rw [← e2]; exact X'.warmed.alike) hp hb k1 k2 k3 T' rfl X'
    exact ⟨t2, st t2 a1, b1⟩
  · obtain ⟨k1, k2, k3⟩ := vx_keep h0 e1 hS hAX hf hL hF
    obtain ⟨t2, a1, b1⟩ := kx E ce q u t T'.heap (locs ++ L) e1.symm (by rw [← e2]; exact X'.warmed.alike) hp hb k1 k2 k3 (by rw [e1]; exact hce) hcv hcl T' rfl X'
    exact ⟨t2, st.trans a1, b1⟩
/-- caught by the row x of this method's table; the rows ahead don't take it -/
theorem vx_catch {own name : String} {E : String} {ce : Cell} {q : Addr} (hown : s.vm.findClass own = some m.cls) (pre : List ExceptionTableEntry) (x : ExceptionTableEntry) (suf : List ExceptionTableEntry) (hsplit : c.exceptionTable.toList = pre ++ x :: suf)
    (hpass : ∀ z ∈ pre, covers z pc = false ∨ (z.catchType ≠ 0 ∧ ∃ nm : String, (Cond.classLink own z.catchType nm).before args s = true ∧ va_Nc E nm s)) (hx : covers x pc = true) (h0 : x.catchType ≠ 0)
    (hlink : (Cond.classLink own x.catchType name).before args s = true) (hcast : (Cond.castable E name).before args s = true) (hcell : H[q]? = some ce) (hv : ce.vm = .none) (hcl : s.vm.findClass E = some ce.cls)
    (kk : W p l e R s m args below meth c H locs cells slots Q (F0 m x.handlerPc ls [.ref q])) : vx_W p l e R s m args below meth c H locs cells slots Q (F0 m pc ls rest) q := by
  intro T hT X
  have hpl : e.platform.magicAccessors = ({} : Platform).magicAccessors := by rw [X.admits.platform]
  obtain ⟨c3, c4, hc3, hc4, hasg⟩ := Cond.castable_spec hcast
  cases Option.some.inj (hc3.symm.trans hcl)
  obtain ⟨c5, hc5, hcl5⟩ := Cond.classLink_spec hown hlink e.platform hpl
  cases Option.some.inj (hc4.symm.trans hc5)
  obtain ⟨vm', X', st⟩ := X.thenCaughtThrough q (g := F0 m pc ls rest) rfl (Steps.refl _) (by rw [hT]; exact hcell) (by rw [hv]; rfl) (by obtain ⟨k9, h9, -⟩ := Vm.findClass_spec hcl; exact ⟨k9, h9⟩) pre x suf hsplit
    (fun z hz => by
      rcases hpass z hz with h | ⟨hz0, nm, hl1, hn1⟩
      · exact Or.inl h
      · obtain ⟨c6, hc6, hcl6⟩ := Cond.classLink_spec hown hl1 e.platform hpl
        obtain ⟨a8, b8, h1, h2, h3⟩ := hn1
        cases Option.some.inj (h1.symm.trans hcl)
        cases Option.some.inj (h2.symm.trans hc6)
        exact Or.inr ⟨hz0, _, hcl6, h3⟩) hx (Or.inr ⟨h0, c4, hcl5, hasg⟩)
  obtain ⟨t, a1, b1⟩ := kk (T.setVm vm') hT X'
  exact ⟨t, st.trans a1, b1⟩
end Rows
section Ends
variable {p : Program} {l : Launch} {e : Env} {R : Room} {s : State} {m : MethodId} {args : Array Value} {below : List Frame} {meth : Method} {c : Code} {H : Heap} {locs : List Loc} {cells slots : Nat} {Q : State → Prop}
variable {mc ms : Nat} {free : Addr → Prop} {A0 A1 : Nat → Prop} {H0 : Heap} {a : Array Value} {ls : Array Slot} {st0 rest : List Value}
variable {Qc : Array Value → State → Outcome → State → Prop} {XC : String → State → State → Prop}
/-- what a body that may throw owes at its end -/
def vx_MQ (below : List Frame) (Qc : Array Value → State → Outcome → State → Prop) (XC : String → State → State → Prop) (a : Array Value) (s : State) (mc ms : Nat) (free : Addr → Prop) : State → Prop := fun t =>
  ∃ o, t.status = .running ∧ Ended t below o ∧ vx_Q Qc XC mc ms free a s o t
theorem vx_ret {g : JFrame} {mc ms : Nat} (k : W p l e R s m args below meth c H locs cells slots (MQ below Qc args s mc ms free) g) : W p l e R s m args below meth c H locs cells slots (vx_MQ below Qc XC args s mc ms free) g := by
  intro T hT X
  obtain ⟨t, a1, o, b1, b2, b3, b4⟩ := k T hT X
  exact ⟨t, a1, o, b1, b2, Or.inl ⟨b3, b4⟩⟩
/-- not caught here: it goes on to the caller -/
theorem vx_widen {g : JFrame} {q : Addr} {k n : Nat} (h1 : cells ≤ k) (h2 : slots ≤ n) (kk : vx_W p l e R s m args below meth c H locs k n Q g q) : vx_W p l e R s m args below meth c H locs cells slots Q g q := fun T hT X => kk T hT (stand_widen X h1 h2)
theorem vx_out {pc : Nat} {E : String} {ce : Cell} {q : Addr} {mc ms : Nat} (hout : ∀ x ∈ c.exceptionTable.toList, covers x pc = false) (hlocks : meth.locks = false) (hcell : H[q]? = some ce) (hv : ce.vm = .none) (hcl : s.vm.findClass E = some ce.cls)
    (hx : ∀ t : State, t.heap = H → s.vm.Alike t.vm → XC E s t) (hf : ∀ z ∈ locs, free z.base) (hc : cells ≤ mc) (hs : slots ≤ ms) :
    vx_W p l e R s m args below meth c H locs cells slots (vx_MQ below Qc XC args s mc ms free) (F0 m pc ls rest) q := by
  intro T hT X
  obtain ⟨st1, hrun, hend, hW, hsm⟩ := X.leaveThrown q (g := F0 m pc ls rest) rfl rfl rfl hout hlocks
  have hcell9 : (T.setFrames (.throwing q :: below)).heap[q]? = some ce := by
    show T.heap[q]? = some ce
    rw [hT]; exact hcell
  exact ⟨_, st1, .threw q, hrun, hend, Or.inr ⟨q, rfl, E, ce, locs, hx _ hT hW.alike, hcell9, hv, hcl, hW, hsm.mono hc hs, hf⟩⟩
theorem vx_frame {U : State} {k n : Nat} (h : s.sameButNew ({ U with vm := s.vm } : State) locs k n) : s.heap.size ≤ U.heap.size ∧ ∀ q : Nat, q < s.heap.size → (∀ z ∈ locs, z.base ≠ q) → U.heap[q]? = s.heap[q]? := by
  obtain ⟨-, h2, -, -, -, h6⟩ := h
  refine ⟨h2, fun q hq hz => ?_⟩
  obtain ⟨c9, e1, e2, e3, e4⟩ := h6 q _ (Array.getElem?_eq_getElem hq)
  have hs : c9.slots = (s.heap[q]).slots := Array.ext_getElem? fun i => e4 i fun hm => hz _ hm rfl
  have h9 : c9 = s.heap[q] := by
    rw [hs] at e2
    exact e2
  have e5 : U.heap[q]? = some c9 := e1
  rw [e5, h9, Array.getElem?_eq_getElem hq]
/-- the words of a throw but the four that speak of the heap -/
def vx_no (w : Cond) : Bool := decide (w ≠ .isRef (.static Bundle.tN "UNASSIGNED_STACK" Bundle.steD)) && decide (w ≠ .isRef (.static Bundle.tN "SUPPRESSED_SENTINEL" Bundle.listD)) && decide (w ≠ .laysStatic Bundle.tN "UNASSIGNED_STACK" Bundle.steD) && decide (w ≠ .laysStatic Bundle.tN "SUPPRESSED_SENTINEL" Bundle.listD)
def vx_at0 (own : String) (ic : Nat) (X : String) (names : List String) : List Cond := (Bundle.ownAtoms0 own ic X names).filter vx_no
def vx_atS (own : String) (ic : Nat) (X : String) (names : List String) : List Cond := (Bundle.ownAtoms own ic X names).filter vx_no
/-- a word that the tables alone decide, or a good one -/
def vx_ot (w : Cond) : Bool := w.onTables || goodWord w
theorem vx_ot_at {args a' : Array Value} {s U : State} {w : Cond} (hW : s.WarmedH U.vm) (hvm : s.vm = U.vm) (hg : vx_ot w = true) (h : w.before args s = true) : w.before a' U = true := by
  simp only [vx_ot, Bool.or_eq_true] at hg
  rcases hg with hg | hg
  · exact va_tabs hg hvm h
  · exact word_at hW (good_of_word hg) h
/-- a list's words: the good ones out of the method's own list, the others by premises of their own -/
theorem vx_hat {args : Array Value} {s : State} {L B : List Cond} (h1 : ∀ w ∈ L.filter goodWord, w.before args s = true) (h2 : ∀ w ∈ L.filter (fun w => !goodWord w), w ∈ B) (h3 : ∀ w ∈ B, w.before args s = true) : ∀ w ∈ L, w.before args s = true := by
  intro w hw
  by_cases g : goodWord w = true
  · exact h1 w (List.mem_filter.mpr ⟨hw, g⟩)
  · refine h3 w (h2 w (List.mem_filter.mpr ⟨hw, ?_⟩))
    show (!goodWord w) = true
    cases hgw : goodWord w
    · rfl
    · exact absurd hgw g
theorem vx_c {args : Array Value} {s : State} {w : Cond} {B : List Cond} (h : w.before args s = true) (t : ∀ w ∈ B, w.before args s = true) : ∀ w' ∈ w :: B, w'.before args s = true := fun w' h' => (List.mem_cons.mp h').elim (fun e => by rw [e]; exact h) (t w')
theorem vx_n {args : Array Value} {s : State} : ∀ w ∈ ([] : List Cond), w.before args s = true := fun _ h => nomatch h
theorem vx_own {args : Array Value} {s : State} {L : List Cond} (h1 : ∀ w ∈ L.filter vx_no, w.before args s = true)
    (hU : (Cond.isRef (.static Bundle.tN "UNASSIGNED_STACK" Bundle.steD)).before args s = true) (hN : (Cond.isRef (.static Bundle.tN "SUPPRESSED_SENTINEL" Bundle.listD)).before args s = true)
    (lU : (Cond.laysStatic Bundle.tN "UNASSIGNED_STACK" Bundle.steD).before args s = true) (lN : (Cond.laysStatic Bundle.tN "SUPPRESSED_SENTINEL" Bundle.listD).before args s = true) : ∀ w ∈ L, w.before args s = true := by
  intro w hw
  by_cases e1 : w = .isRef (.static Bundle.tN "UNASSIGNED_STACK" Bundle.steD)
  · rw [e1]; exact hU
  · by_cases e2 : w = .isRef (.static Bundle.tN "SUPPRESSED_SENTINEL" Bundle.listD)
    · rw [e2]; exact hN
    · by_cases e3 : w = .laysStatic Bundle.tN "UNASSIGNED_STACK" Bundle.steD
      · rw [e3]; exact lU
      · by_cases e4 : w = .laysStatic Bundle.tN "SUPPRESSED_SENTINEL" Bundle.listD
        · rw [e4]; exact lN
        · exact h1 w (List.mem_filter.mpr ⟨hw, by unfold vx_no; rw [decide_eq_true e1, decide_eq_true e2, decide_eq_true e3, decide_eq_true e4]; rfl⟩)
/-- where a static field lies, its class's statics cell in H -/
def vx_L (C n d : String) (A : Nat → Prop) (U : State) (H : Heap) : Prop := ∃ (c : ClassId) (k : Class) (i : Nat) (f : Field) (a : Nat) (cell : Cell), U.vm.findClass C = some c ∧ U.fieldFound? C n d = some (c, k, i, f) ∧ f.isStatic = true ∧ k.statics = some a ∧ H[a]? = some cell ∧ cell.vm.isStatics = true ∧ cell.cls = c ∧ f.slot < cell.slots.size ∧ k.staticTypes[f.slot]? = some f.type ∧ ¬ A a
theorem vx_L.moved {C n d : String} {A : Nat → Prop} {u U : State} {H : Heap} (hvm : u.vm.Alike U.vm) (h : vx_L C n d A u H) : vx_L C n d A U H := by
  obtain ⟨c, k, i, f, a, cell, h1, h2, h3, h4, h5, h6, h7, h8, h9, h10⟩ := h
  obtain ⟨k', hi', he⟩ := State.fieldFound?_setVm hvm h2
  exact ⟨c, k', i, f, a, cell, by rw [hvm.findClass]; exact h1, hi', h3, by rw [he]; exact h4, h5, h6, h7, h8, by rw [he]; exact h9, h10⟩
theorem vx_L.kept {C n d : String} {A : Nat → Prop} {U : State} {H H1 : Heap} (h : vx_L C n d A U H) (hq : ∀ a : Nat, a < H.size → ¬ A a → H1[a]? = H[a]?) : vx_L C n d A U H1 := by
  obtain ⟨c, k, i, f, a, cell, h1, h2, h3, h4, h5, h6, h7, h8, h9, h10⟩ := h
  exact ⟨c, k, i, f, a, cell, h1, h2, h3, h4, by rw [hq a (Array.getElem?_eq_some_iff.mp h5).1 h10]; exact h5, h6, h7, h8, h9, h10⟩
theorem vx_L.narrow {C n d : String} {A B : Nat → Prop} {U : State} {H : Heap} (h : vx_L C n d A U H) (hAB : ∀ q, B q → A q) : vx_L C n d B U H := by
  obtain ⟨c, k, i, f, a, cell, h1, h2, h3, h4, h5, h6, h7, h8, h9, h10⟩ := h
  exact ⟨c, k, i, f, a, cell, h1, h2, h3, h4, h5, h6, h7, h8, h9, fun z => h10 (hAB _ z)⟩
theorem vx_L.word {C n d : String} {A : Nat → Prop} {s : State} {args : Array Value} (h : vx_L C n d A s s.heap) : (Cond.laysStatic C n d).before args s = true := by
  obtain ⟨c, k, i, f, a, cell, h1, h2, h3, h4, h5, h6, h7, h8, h9, -⟩ := h
  show (Cond.laysStatic C n d).holds args s none s [] = true
  exact Cond.laysStatic_of h1 h2 h3 h4 h5 h6 h7 h8 h9
/-- .. and what it holds: null or some reference -/
def vx_Zq (C n d : String) (A : Nat → Prop) (U : State) (H : Heap) : Prop := va_Zq C n d A U H ∧ vx_L C n d A U H
theorem vx_Zq.moved {C n d : String} {A : Nat → Prop} {u U : State} {H : Heap} (hvm : u.vm.Alike U.vm) (h : vx_Zq C n d A u H) : vx_Zq C n d A U H := ⟨va_Zq.moved hvm h.1, vx_L.moved hvm h.2⟩
theorem vx_Zq.kept {C n d : String} {A : Nat → Prop} {U : State} {H H1 : Heap} (h : vx_Zq C n d A U H) (hq : ∀ a : Nat, a < H.size → ¬ A a → H1[a]? = H[a]?) : vx_Zq C n d A U H1 := ⟨va_Zq.kept h.1 hq, vx_L.kept h.2 hq⟩
theorem vx_Zq.narrow {C n d : String} {A B : Nat → Prop} {U : State} {H : Heap} (h : vx_Zq C n d A U H) (hAB : ∀ q, B q → A q) : vx_Zq C n d B U H := ⟨va_Zq.narrow h.1 hAB, vx_L.narrow h.2 hAB⟩
theorem vx_Zqof {args : Array Value} {s : State} {C n d : String} {A : Nat → Prop} (hl : (Cond.laysStatic C n d).before args s = true) (hini : (Cond.initialized C).before args s = true) (h : (Cond.isRef (.static C n d)).before args s = true) (hA : ∀ a : Nat, a < s.heap.size → ¬ A a) : vx_Zq C n d A s s.heap := by
  refine ⟨va_Zqof hl hini h hA, ?_⟩
  obtain ⟨c, k, i, f, a, cell, h1, h2, h3, h4, h5, h6, h7, h8, h9⟩ := Cond.laysStatic_spec hl
  exact ⟨c, k, i, f, a, cell, h1, h2, h3, h4, h5, h6, h7, h8, h9, hA a (Array.getElem?_eq_some_iff.mp h5).1⟩
theorem vx_isRef {C n d : String} {v : Value} {A : Nat → Prop} {s : State} {args : Array Value} (h : va_Z C n d v A s s.heap) (hv : v.isRef = true) : (Cond.isRef (.static C n d)).before args s = true := by
  obtain ⟨cf, kf, fi, f, a, cell, h1, h2, h3, h4, h5, h6, h7, -⟩ := h
  have he : (Term.static C n d).eval args s none [] s = some v := by
    simp [Term.eval, State.fieldNamed?, h1, h2, h4, h5, h6, h7]
  simp only [Cond.before, Cond.holds, Cond.value, he]
  cases v <;> simp_all [Value.isRef]
theorem vx_isRefq {C n d : String} {A : Nat → Prop} {s : State} {args : Array Value} (h : va_Zq C n d A s s.heap) : (Cond.isRef (.static C n d)).before args s = true := by
  rcases h with h | ⟨t, h⟩
  · exact vx_isRef h rfl
  · exact vx_isRef h rfl
/-- the same frame, seen from here: as if the method were called anew in this heap -/
theorem vx_rebase {T : State} (X : Stand p l e R s m args below meth c T locs cells slots) {R' : Room} (hf : R'.frames ≤ R.frames) (hl : R'.locals ≤ R.locals) (hc : cells + R'.cells ≤ R.cells) (hs : slots + R'.slots ≤ R.slots) :
    Stand p l e R' ((T.setVm s.vm).setFrames (.invoking m args :: below)) m args below meth c T [] 0 0 := by
  have htop : (T.setVm s.vm).topJava?.isSome := X.here.top
  have hF : ((T.setVm s.vm).setFrames (.invoking m args :: below)).frames = .invoking m args :: below := State.frames_setFrames _ (State.cur_lt_of_top htop)
  obtain ⟨g₀, hg0⟩ := Option.isSome_iff_exists.mp htop
  obtain ⟨r, hr⟩ := State.topJava?_eq_some.mp hg0
  have hl9 : e.platform.stackLimits (T.setVm s.vm).me = e.platform.stackLimits s.me := X.limits
  have hb9 : (T.setVm s.vm).me.stackBytes = s.me.stackBytes := X.bytes
  refine ⟨X.admits, X.cas, X.clock, hF, ?_, X.hears, X.method, X.code, X.here, X.tail, X.warmed, ?_, ?_, ?_⟩
  · have h := X.room
    have hU : ((T.setVm s.vm).setFrames (.invoking m args :: below)).localsInUse = s.localsInUse := by
      rw [State.localsInUse_invoking hF (meth := meth) (c := c) X.method X.code, State.localsInUse_invoking X.frames X.method X.code]
    simp only [State.hasRoom, Bool.and_eq_true, decide_eq_true_eq] at h ⊢
    obtain ⟨⟨⟨⟨h1, h2, h3, h4, h5, h6⟩, h7⟩, h8⟩, h9⟩ := h
    rw [X.frames, List.length_cons] at h2 h3
    have q1 := X.heapSize
    have q2 := X.used
    simp only [hF, hU, List.length_cons, State.stackLimits_setFrames, State.stackBytes_setFrames, hl9, hb9]
    refine ⟨⟨⟨⟨by omega, by omega, by omega, by omega, by omega, h6⟩, ?_⟩, ?_⟩, X.book⟩
    · show T.heap.size + R'.cells ≤ e.platform.maxCells
      omega
    · show T.slotsUsed + R'.slots ≤ e.platform.maxSlots
      omega
  · rw [State.stackLimits_setFrames]; rfl
  · rw [State.stackBytes_setFrames]; rfl
  · refine ⟨?_, Nat.le_refl _, Nat.le_refl _, ?_, ?_, fun a c9 h9 => ⟨c9, h9, rfl, rfl, fun _ _ => rfl⟩⟩
    · obtain ⟨t, ht, -⟩ := State.frames_cons hr
      show T.setVm s.vm = { ((T.setVm s.vm).setFrames (.invoking m args :: below)).setFrames (T.setVm s.vm).frames with heap := T.heap, slotsUsed := T.slotsUsed }
      rw [State.setFrames_setFrames, State.setFrames_self ht]
      rfl
    · show T.slotsUsed = T.slotsUsed + ((T.heap.toList.drop T.heap.size).map (·.slots.size)).sum
      rw [List.drop_eq_nil_of_le (Nat.le_of_eq Array.length_toList)]
      rfl
    · show ((T.heap.toList.drop T.heap.size).map (·.slots.size)).sum ≤ 0
      rw [List.drop_eq_nil_of_le (Nat.le_of_eq Array.length_toList)]
      exact Nat.le_refl _
/-- 'throw new E()': new; dup; invokespecial; athrow -/
theorem vx_throw0 {cc : ByteArray} {pc : Nat} (hexec : p.tables.exec = Jvm.exec) (hb : c.code = cc) (hl : l.stackTraces = false) {own cls : String} {names : List String} {ik ic mc ms : Nat} {A : Nat → Prop}
    (hown : s.vm.findClass own = some m.cls) (hcls : Bundle.fit cls = true) (hnames : ∀ n ∈ names, Bundle.fit n = true)
    (hk : (Cond.classLink own ik cls).before args s = true) (hini : (Cond.initialized cls).before args s = true) (hat : ∀ w ∈ vx_at0 own ic cls names, w.before args s = true)
    (hgood : ∀ w ∈ Cond.classLink own ik cls :: Cond.initialized cls :: vx_at0 own ic cls names, vx_ot w = true)
    (hU : vx_Zq Bundle.tN "UNASSIGNED_STACK" Bundle.steD A s s.heap) (hN : vx_Zq Bundle.tN "SUPPRESSED_SENTINEL" Bundle.listD A s s.heap) (hS : va_S A s.heap H locs) (hsize : ls.size = c.maxLocals)
    (d0 : decode cc pc = .ok (.new ik, 3)) (d3 : decode cc (pc + 3) = .ok (.dup, 1)) (d4 : decode cc (pc + 4) = .ok (.invokespecial ic, 3)) (d7 : decode cc (pc + 7) = .ok (.athrow, 1))
    (hout : ∀ x ∈ c.exceptionTable.toList, covers x (pc + 7) = false)
    (hRframes : names.length + 3 < R.frames) (hRlocals : (rest.map fun v => v.category).sum + (13 * (names.length + 1) + 42) ≤ R.locals) (hRcells : cells + 1 ≤ R.cells) (hRslots : slots + 6 ≤ R.slots) (hlocks : meth.locks = false)
    (hx : ∀ t : State, s.vm.Alike t.vm → H.size ≤ t.heap.size → (∀ q : Nat, q < H.size → t.heap[q]? = H[q]?) → XC cls s t)
    (hf : ∀ z ∈ locs, free z.base) (hc : cells + 1 ≤ mc) (hs : slots + 6 ≤ ms) :
    W p l e R s m args below meth c H locs cells slots (vx_MQ below Qc XC args s mc ms free) (F0 m pc ls rest) := by
  intro T hT X
  have htr : e.platform.stackTraces = false := (show e.platform.stackTraces = l.stackTraces by rw [X.admits.platform]).trans hl
  have Y := vx_rebase X (R' := { frames := R.frames, locals := R.locals, cells := 1, slots := 6 }) (Nat.le_refl _) (Nat.le_refl _) hRcells hRslots
  obtain ⟨s', hA⟩ : ∃ z, z = (T.setVm s.vm).setFrames (.invoking m args :: below) := ⟨_, rfl⟩
  rw [← hA] at Y
  have hvm : s'.vm = s.vm := by rw [hA]; rfl
  have hhp : s'.heap = H := by rw [hA]; exact hT
  have hW0 : s.WarmedH s'.vm := by rw [hvm]; exact State.WarmedH.refl s
  have hat' : ∀ w ∈ vx_at0 own ic cls names, w.before args s' = true := fun w hw => vx_ot_at hW0 hvm.symm (hgood w (List.mem_cons_of_mem _ (List.mem_cons_of_mem _ hw))) (hat w hw)
  have hk' : (Cond.classLink own ik cls).before args s' = true := vx_ot_at hW0 hvm.symm (hgood _ List.mem_cons_self) hk
  have hini' : (Cond.initialized cls).before args s' = true := vx_ot_at hW0 hvm.symm (hgood _ (List.mem_cons_of_mem _ List.mem_cons_self)) hini
  have hU' : vx_Zq Bundle.tN "UNASSIGNED_STACK" Bundle.steD A s' s'.heap := by rw [hhp]; exact vx_Zq.moved hW0.alike (hU.kept hS.2.1)
  have hN' : vx_Zq Bundle.tN "SUPPRESSED_SENTINEL" Bundle.listD A s' s'.heap := by rw [hhp]; exact vx_Zq.moved hW0.alike (hN.kept hS.2.1)
  have h : ∀ w ∈ Bundle.ownAtoms0 own ic cls names, w.before args s' = true := vx_own hat' (vx_isRefq hU'.1) (vx_isRefq hN'.1) hU'.2.word hN'.2.word
  have hown' : s'.vm.findClass own = some m.cls := by rw [hvm]; exact hown
  have hins : (Cond.instantiable cls 6).before args s' = true := h _ (by simp [Bundle.ownAtoms0])
  obtain ⟨vm₁, cX, kX, hfX, hkX, -, -, X₁, st1⟩ := Y.newCold hexec (own := own) (C := cls) (index := ik) (n := 6) hown' hk' hins hini'
    (g := F0 m pc ls rest) rfl (by rw [hb]; exact d0) (Nat.le_refl _) (Nat.le_refl _)
  generalize hT1 : (T.setVm vm₁).pushCell { cls := cX, slots := kX.instanceTypes.map defaultValue, vm := .none } = T1 at X₁ st1
  have hcat : (Value.ref T.heap.size).category = 1 := rfl
  have hcellA : T1.heap[T.heap.size]? = some (freshCell cX kX) := by rw [← hT1]; exact State.heap_pushCell_size _ _
  have d3' : decode c.code (pc + 3) = .ok (.dup, 1) := by rw [hb]; exact d3
  obtain ⟨U, hsteps, hrun, hend, hW, hsame, ce, hce, hO⟩ := X₁.ctorThrow0 hexec htr (own := own) (cls := cls) (names := names) (ic := ic) hown' hcls hnames h (fun x hx => nomatch hx) hfX hkX hcellA (by rw [hhp, hT]; exact Nat.le_refl _)
    (g := { method := m, pc := pc + 4, locals := ls, stack := .ref T.heap.size :: .ref T.heap.size :: rest, locked := none }) rfl hsize rfl rfl (rest := rest) rfl
    (by rw [hb]; exact d4) (by rw [hb]; exact d7) hout hRframes (by simp only [List.map_cons, List.sum_cons, hcat]; omega) hlocks
  obtain ⟨f1, f2⟩ := vx_frame hsame
  rw [hhp] at f1 f2
  have hWs : s.WarmedH U.vm := State.WarmedH.trans hW0 hW
  have hcl : s.vm.findClass cls = some ce.cls := by
    have h9 := hO.cls
    rw [hvm] at h9
    exact h9
  have hall : s.sameButNew ({ U with vm := s.vm } : State) locs mc ms := by
    subst hA
    obtain ⟨e1, e2⟩ := hsame
    rw [State.setFrames_setFrames] at e1
    have h2 : (T.setVm s.vm).sameButNew ({ U with vm := s.vm } : State) [] (0 + 1) (0 + 6) := ⟨e1, e2⟩
    have h3 := X.same.trans h2
    rw [List.append_nil] at h3
    exact h3.mono hc hs
  refine ⟨U, ?_, .threw T.heap.size, hrun, hend, Or.inr ⟨T.heap.size, rfl, cls, ce, locs, hx U hWs.alike f1 (fun q hq => f2 q hq (fun z hz => nomatch hz)), hce, hO.vm, hcl, hWs, hall, hf⟩⟩
  refine st1 _ ?_
  show Steps p.tables e below (T1.setTop { method := m, pc := pc + 3, locals := ls, stack := .ref T.heap.size :: rest, locked := none }) _
  jvm_step X₁.here [X₁.here.top, hexec, d3', Value.category]
  exact hsteps
/-- 'throw new E("text")': new; dup; ldc; invokespecial; athrow -/
theorem vx_throwS {cc : ByteArray} {pc : Nat} (hexec : p.tables.exec = Jvm.exec) (hb : c.code = cc) (hl : l.stackTraces = false) {own cls text : String} {names : List String} {ik is ic mc ms sa : Nat} {A : Nat → Prop}
    (hown : s.vm.findClass own = some m.cls) (hcls : Bundle.fit cls = true) (hnames : ∀ n ∈ names, Bundle.fit n = true)
    (hk : (Cond.classLink own ik cls).before args s = true) (hini : (Cond.initialized cls).before args s = true) (hstr : vk_R own is text sa s) (hat : ∀ w ∈ vx_atS own ic cls names, w.before args s = true)
    (hgood : ∀ w ∈ Cond.classLink own ik cls :: Cond.initialized cls :: vx_atS own ic cls names, vx_ot w = true)
    (hU : vx_Zq Bundle.tN "UNASSIGNED_STACK" Bundle.steD A s s.heap) (hN : vx_Zq Bundle.tN "SUPPRESSED_SENTINEL" Bundle.listD A s s.heap) (hS : va_S A s.heap H locs) (hsize : ls.size = c.maxLocals)
    (d0 : decode cc pc = .ok (.new ik, 3)) (d3 : decode cc (pc + 3) = .ok (.dup, 1)) (d4 : decode cc (pc + 4) = .ok (.ldc is, 2)) (d6 : decode cc (pc + 6) = .ok (.invokespecial ic, 3)) (d9 : decode cc (pc + 9) = .ok (.athrow, 1))
    (hout : ∀ x ∈ c.exceptionTable.toList, covers x (pc + 9) = false)
    (hRframes : names.length + 3 < R.frames) (hRlocals : (rest.map fun v => v.category).sum + (13 * (names.length + 1) + 43) ≤ R.locals) (hRcells : cells + 1 ≤ R.cells) (hRslots : slots + 6 ≤ R.slots) (hlocks : meth.locks = false)
    (hx : ∀ t : State, s.vm.Alike t.vm → H.size ≤ t.heap.size → (∀ q : Nat, q < H.size → t.heap[q]? = H[q]?) → XC cls s t)
    (hf : ∀ z ∈ locs, free z.base) (hc : cells + 1 ≤ mc) (hs : slots + 6 ≤ ms) :
    W p l e R s m args below meth c H locs cells slots (vx_MQ below Qc XC args s mc ms free) (F0 m pc ls rest) := by
  intro T hT X
  have htr : e.platform.stackTraces = false := (show e.platform.stackTraces = l.stackTraces by rw [X.admits.platform]).trans hl
  have Y := vx_rebase X (R' := { frames := R.frames, locals := R.locals, cells := 1, slots := 6 }) (Nat.le_refl _) (Nat.le_refl _) hRcells hRslots
  obtain ⟨s', hA⟩ : ∃ z, z = (T.setVm s.vm).setFrames (.invoking m args :: below) := ⟨_, rfl⟩
  rw [← hA] at Y
  have hvm : s'.vm = s.vm := by rw [hA]; rfl
  have hhp : s'.heap = H := by rw [hA]; exact hT
  have hW0 : s.WarmedH s'.vm := by rw [hvm]; exact State.WarmedH.refl s
  have hat' : ∀ w ∈ vx_atS own ic cls names, w.before args s' = true := fun w hw => vx_ot_at hW0 hvm.symm (hgood w (List.mem_cons_of_mem _ (List.mem_cons_of_mem _ hw))) (hat w hw)
  have hk' : (Cond.classLink own ik cls).before args s' = true := vx_ot_at hW0 hvm.symm (hgood _ List.mem_cons_self) hk
  have hini' : (Cond.initialized cls).before args s' = true := vx_ot_at hW0 hvm.symm (hgood _ (List.mem_cons_of_mem _ List.mem_cons_self)) hini
  have hU' : vx_Zq Bundle.tN "UNASSIGNED_STACK" Bundle.steD A s' s'.heap := by rw [hhp]; exact vx_Zq.moved hW0.alike (hU.kept hS.2.1)
  have hN' : vx_Zq Bundle.tN "SUPPRESSED_SENTINEL" Bundle.listD A s' s'.heap := by rw [hhp]; exact vx_Zq.moved hW0.alike (hN.kept hS.2.1)
  have h : ∀ w ∈ Bundle.ownAtoms own ic cls names, w.before args s' = true := vx_own hat' (vx_isRefq hU'.1) (vx_isRefq hN'.1) hU'.2.word hN'.2.word
  have hown' : s'.vm.findClass own = some m.cls := by rw [hvm]; exact hown
  have hins : (Cond.instantiable cls 6).before args s' = true := h _ (by simp [Bundle.ownAtoms])
  obtain ⟨vm₁, cX, kX, hfX, hkX, -, -, X₁, st1⟩ := Y.newCold hexec (own := own) (C := cls) (index := ik) (n := 6) hown' hk' hins hini'
    (g := F0 m pc ls rest) rfl (by rw [hb]; exact d0) (Nat.le_refl _) (Nat.le_refl _)
  generalize hT1 : (T.setVm vm₁).pushCell { cls := cX, slots := kX.instanceTypes.map defaultValue, vm := .none } = T1 at X₁ st1
  have hcat : (Value.ref T.heap.size).category = 1 := rfl
  have hcellA : T1.heap[T.heap.size]? = some (freshCell cX kX) := by rw [← hT1]; exact State.heap_pushCell_size _ _
  have d3' : decode c.code (pc + 3) = .ok (.dup, 1) := by rw [hb]; exact d3
  have d4' : decode c.code (pc + 4) = .ok (.ldc is, 2) := by rw [hb]; exact d4
  have hstr' : vk_R own is text sa s' := vk_R.warm hW0 hstr
  obtain ⟨U, hsteps, hrun, hend, hW, hsame, ce, hce, hO⟩ := X₁.ctorThrowS hexec htr (own := own) (cls := cls) (names := names) (ic := ic) hown' hcls hnames h (fun x hx => nomatch hx) hfX hkX hcellA (by rw [hhp, hT]; exact Nat.le_refl _) (msg := .ref sa) rfl
    (g := { method := m, pc := pc + 6, locals := ls, stack := .ref sa :: .ref T.heap.size :: .ref T.heap.size :: rest, locked := none }) rfl hsize rfl rfl (rest := rest) rfl
    (by rw [hb]; exact d6) (by rw [hb]; exact d9) hout hRframes (by simp only [List.map_cons, List.sum_cons, hcat]; omega) hlocks
  obtain ⟨f1, f2⟩ := vx_frame hsame
  rw [hhp] at f1 f2
  have hWs : s.WarmedH U.vm := State.WarmedH.trans hW0 hW
  have hcl : s.vm.findClass cls = some ce.cls := by
    have h9 := hO.cls
    rw [hvm] at h9
    exact h9
  have hall : s.sameButNew ({ U with vm := s.vm } : State) locs mc ms := by
    subst hA
    obtain ⟨e1, e2⟩ := hsame
    rw [State.setFrames_setFrames] at e1
    have h2 : (T.setVm s.vm).sameButNew ({ U with vm := s.vm } : State) [] (0 + 1) (0 + 6) := ⟨e1, e2⟩
    have h3 := X.same.trans h2
    rw [List.append_nil] at h3
    exact h3.mono hc hs
  refine ⟨U, ?_, .threw T.heap.size, hrun, hend, Or.inr ⟨T.heap.size, rfl, cls, ce, locs, hx U hWs.alike f1 (fun q hq => f2 q hq (fun z hz => nomatch hz)), hce, hO.vm, hcl, hWs, hall, hf⟩⟩
  refine st1 _ ?_
  show Steps p.tables e below (T1.setTop { method := m, pc := pc + 3, locals := ls, stack := .ref T.heap.size :: rest, locked := none }) _
  jvm_step X₁.here [X₁.here.top, hexec, d3', Value.category]
  exact X₁.ldcString hexec (own := own) (text := text) (index := is) (a := sa) hown' hstr'.1 hstr'.2
    (g := { method := m, pc := pc + 4, locals := ls, stack := .ref T.heap.size :: .ref T.heap.size :: rest, locked := none }) rfl d4' _ hsteps
/-- 'throw new E("text")', the text by a wide index -/
theorem vx_throwSW {cc : ByteArray} {pc : Nat} (hexec : p.tables.exec = Jvm.exec) (hb : c.code = cc) (hl : l.stackTraces = false) {own cls text : String} {names : List String} {ik is ic mc ms sa : Nat} {A : Nat → Prop}
    (hown : s.vm.findClass own = some m.cls) (hcls : Bundle.fit cls = true) (hnames : ∀ n ∈ names, Bundle.fit n = true)
    (hk : (Cond.classLink own ik cls).before args s = true) (hini : (Cond.initialized cls).before args s = true) (hstr : vk_R own is text sa s) (hat : ∀ w ∈ vx_atS own ic cls names, w.before args s = true)
    (hgood : ∀ w ∈ Cond.classLink own ik cls :: Cond.initialized cls :: vx_atS own ic cls names, vx_ot w = true)
    (hU : vx_Zq Bundle.tN "UNASSIGNED_STACK" Bundle.steD A s s.heap) (hN : vx_Zq Bundle.tN "SUPPRESSED_SENTINEL" Bundle.listD A s s.heap) (hS : va_S A s.heap H locs) (hsize : ls.size = c.maxLocals)
    (d0 : decode cc pc = .ok (.new ik, 3)) (d3 : decode cc (pc + 3) = .ok (.dup, 1)) (d4 : decode cc (pc + 4) = .ok (.ldc_w is, 3)) (d7 : decode cc (pc + 7) = .ok (.invokespecial ic, 3)) (d10 : decode cc (pc + 10) = .ok (.athrow, 1))
    (hout : ∀ x ∈ c.exceptionTable.toList, covers x (pc + 10) = false)
    (hRframes : names.length + 3 < R.frames) (hRlocals : (rest.map fun v => v.category).sum + (13 * (names.length + 1) + 43) ≤ R.locals) (hRcells : cells + 1 ≤ R.cells) (hRslots : slots + 6 ≤ R.slots) (hlocks : meth.locks = false)
    (hx : ∀ t : State, s.vm.Alike t.vm → H.size ≤ t.heap.size → (∀ q : Nat, q < H.size → t.heap[q]? = H[q]?) → XC cls s t)
    (hf : ∀ z ∈ locs, free z.base) (hc : cells + 1 ≤ mc) (hs : slots + 6 ≤ ms) :
    W p l e R s m args below meth c H locs cells slots (vx_MQ below Qc XC args s mc ms free) (F0 m pc ls rest) := by
  intro T hT X
  have htr : e.platform.stackTraces = false := (show e.platform.stackTraces = l.stackTraces by rw [X.admits.platform]).trans hl
  have Y := vx_rebase X (R' := { frames := R.frames, locals := R.locals, cells := 1, slots := 6 }) (Nat.le_refl _) (Nat.le_refl _) hRcells hRslots
  obtain ⟨s', hA⟩ : ∃ z, z = (T.setVm s.vm).setFrames (.invoking m args :: below) := ⟨_, rfl⟩
  rw [← hA] at Y
  have hvm : s'.vm = s.vm := by rw [hA]; rfl
  have hhp : s'.heap = H := by rw [hA]; exact hT
  have hW0 : s.WarmedH s'.vm := by rw [hvm]; exact State.WarmedH.refl s
  have hat' : ∀ w ∈ vx_atS own ic cls names, w.before args s' = true := fun w hw => vx_ot_at hW0 hvm.symm (hgood w (List.mem_cons_of_mem _ (List.mem_cons_of_mem _ hw))) (hat w hw)
  have hk' : (Cond.classLink own ik cls).before args s' = true := vx_ot_at hW0 hvm.symm (hgood _ List.mem_cons_self) hk
  have hini' : (Cond.initialized cls).before args s' = true := vx_ot_at hW0 hvm.symm (hgood _ (List.mem_cons_of_mem _ List.mem_cons_self)) hini
  have hU' : vx_Zq Bundle.tN "UNASSIGNED_STACK" Bundle.steD A s' s'.heap := by rw [hhp]; exact vx_Zq.moved hW0.alike (hU.kept hS.2.1)
  have hN' : vx_Zq Bundle.tN "SUPPRESSED_SENTINEL" Bundle.listD A s' s'.heap := by rw [hhp]; exact vx_Zq.moved hW0.alike (hN.kept hS.2.1)
  have h : ∀ w ∈ Bundle.ownAtoms own ic cls names, w.before args s' = true := vx_own hat' (vx_isRefq hU'.1) (vx_isRefq hN'.1) hU'.2.word hN'.2.word
  have hown' : s'.vm.findClass own = some m.cls := by rw [hvm]; exact hown
  have hins : (Cond.instantiable cls 6).before args s' = true := h _ (by simp [Bundle.ownAtoms])
  obtain ⟨vm₁, cX, kX, hfX, hkX, -, -, X₁, st1⟩ := Y.newCold hexec (own := own) (C := cls) (index := ik) (n := 6) hown' hk' hins hini'
    (g := F0 m pc ls rest) rfl (by rw [hb]; exact d0) (Nat.le_refl _) (Nat.le_refl _)
  generalize hT1 : (T.setVm vm₁).pushCell { cls := cX, slots := kX.instanceTypes.map defaultValue, vm := .none } = T1 at X₁ st1
  have hcat : (Value.ref T.heap.size).category = 1 := rfl
  have hcellA : T1.heap[T.heap.size]? = some (freshCell cX kX) := by rw [← hT1]; exact State.heap_pushCell_size _ _
  have d3' : decode c.code (pc + 3) = .ok (.dup, 1) := by rw [hb]; exact d3
  have d4' : decode c.code (pc + 4) = .ok (.ldc_w is, 3) := by rw [hb]; exact d4
  have hstr' : vk_R own is text sa s' := vk_R.warm hW0 hstr
  obtain ⟨U, hsteps, hrun, hend, hW, hsame, ce, hce, hO⟩ := X₁.ctorThrowS hexec htr (own := own) (cls := cls) (names := names) (ic := ic) hown' hcls hnames h (fun x hx => nomatch hx) hfX hkX hcellA (by rw [hhp, hT]; exact Nat.le_refl _) (msg := .ref sa) rfl
    (g := { method := m, pc := pc + 7, locals := ls, stack := .ref sa :: .ref T.heap.size :: .ref T.heap.size :: rest, locked := none }) rfl hsize rfl rfl (rest := rest) rfl
    (by rw [hb]; exact d7) (by rw [hb]; exact d10) hout hRframes (by simp only [List.map_cons, List.sum_cons, hcat]; omega) hlocks
  obtain ⟨f1, f2⟩ := vx_frame hsame
  rw [hhp] at f1 f2
  have hWs : s.WarmedH U.vm := State.WarmedH.trans hW0 hW
  have hcl : s.vm.findClass cls = some ce.cls := by
    have h9 := hO.cls
    rw [hvm] at h9
    exact h9
  have hall : s.sameButNew ({ U with vm := s.vm } : State) locs mc ms := by
    subst hA
    obtain ⟨e1, e2⟩ := hsame
    rw [State.setFrames_setFrames] at e1
    have h2 : (T.setVm s.vm).sameButNew ({ U with vm := s.vm } : State) [] (0 + 1) (0 + 6) := ⟨e1, e2⟩
    have h3 := X.same.trans h2
    rw [List.append_nil] at h3
    exact h3.mono hc hs
  refine ⟨U, ?_, .threw T.heap.size, hrun, hend, Or.inr ⟨T.heap.size, rfl, cls, ce, locs, hx U hWs.alike f1 (fun q hq => f2 q hq (fun z hz => nomatch hz)), hce, hO.vm, hcl, hWs, hall, hf⟩⟩
  refine st1 _ ?_
  show Steps p.tables e below (T1.setTop { method := m, pc := pc + 3, locals := ls, stack := .ref T.heap.size :: rest, locked := none }) _
  jvm_step X₁.here [X₁.here.top, hexec, d3', Value.category]
  exact X₁.ldcStringW hexec (own := own) (text := text) (index := is) (a := sa) hown' hstr'.1 hstr'.2
    (g := { method := m, pc := pc + 4, locals := ls, stack := .ref T.heap.size :: .ref T.heap.size :: rest, locked := none }) rfl d4' _ hsteps
end Ends
section Bodies
variable {l : Launch}
theorem vx_ofW {y : MethodName} {ws ws' : List Cond} {rm : Room} {Pc : Array Value → State → Prop} {Qc : Array Value → State → Outcome → State → Prop} {XC : String → State → State → Prop} {mc ms : Nat} {free : Addr → Prop} {cc : ByteArray} {maxL : Nat} {ret : Option FieldType}
    (hy : plainName y.cls = true) (hw : ws = Cond.code y cc maxL ret :: ws')
    (body : ∀ p e s m args below meth c s₁, BodyLoose p l y (headSpec ws rm) cc maxL ret e s m args below meth c s₁ → c.maxLocals = maxL → (∀ x ∈ c.exceptionTable.toList, False) → Pc args s →
      W p l e (headSpec ws rm).room s m args below meth c s.heap [] 0 0 (vx_MQ below Qc XC args s mc ms free) (entryFrame m args maxL)) : vx_Met l y ws rm Pc Qc XC mc ms free := by
  refine MetFree.of_bodyS (code := cc) (maxLocals := maxL) (ret := ret) hy ?_ ?_
  · intro args s m h hn
    obtain ⟨meth, c, h1, h2, h3, h4, h5, h6, -, -⟩ := Cond.code_spec hn (atoms_spec (ws := ws) h _ (by rw [hw]; exact List.mem_cons_self))
    exact ⟨meth, c, h1, h2, h3, h4, h5, h6⟩
  · intro p e s m args below meth c s₁ B hml hP _
    have hh0 : s₁.heap = s.heap := by rw [B.state]; rfl
    have ht : ∀ x ∈ c.exceptionTable.toList, False := by
      obtain ⟨meth9, c9, h1, h2, -, -, -, -, h7, -⟩ := Cond.code_spec B.named (atoms_spec (ws := ws) B.pre _ (by rw [hw]; exact List.mem_cons_self))
      cases Option.some.inj (h1.symm.trans B.method)
      cases Option.some.inj (h2.symm.trans (Stand.of_body B).code)
      intro x hx
      rw [Array.isEmpty_iff.mp h7] at hx
      cases hx
    obtain ⟨t, a1, o, b1, b2, b3⟩ := body p e s m args below meth c s₁ B hml ht hP s₁ hh0 (Stand.of_body B)
    exact ⟨t, o, a1, b1, b2, b3⟩
/-- the table of a body with handlers -/
theorem vx_table {p : Program} {x y : MethodName} {S : Spec} {cc bytes : ByteArray} {maxL maxL' : Nat} {ret ret' : Option FieldType} {e : Env} {s s₁ : State} {m : MethodId} {args : Array Value} {below : List Frame} {meth : Method} {c : Code} {hh : List (Nat × Nat × Nat × Nat)}
    (B : BodyLoose p l y S cc maxL ret e s m args below meth c s₁) (h : (Cond.codeWith y bytes maxL' ret' hh).before args s = true) : c.exceptionTable.toList = tableOf hh := by
  obtain ⟨m9, meth9, c9, hn9, h1, h2, -, -, h6, -⟩ := Cond.codeWith_spec h
  cases Option.some.inj (hn9.symm.trans B.named)
  cases Option.some.inj (h1.symm.trans B.method)
  cases Option.some.inj (h2.symm.trans (Stand.of_body B).code)
  rw [← h6, table_eq]
end Bodies
end VXA
/-! ===== END ===== -/
/-! ===== BEGIN a static call of a method with an exception table ===== -/
section VXS
variable {p : Program} {l : Launch} {e : Env} {R : Room} {s : State} {m : MethodId} {args : Array Value} {below : List Frame} {meth : Method} {c : Code} {T : State} {H : Heap} {locs : List Loc} {cells slots : Nat}
abbrev vx_CSW (R : Room) (s : State) (args : Array Value) (own : String) (index : Nat) (y : MethodName) (bytes : ByteArray) (maxL : Nat) (ret : Option FieldType) (hh : List (Nat × Nat × Nat × Nat)) (ws : List Cond) (rm : Room) (mc ms n : Nat) : Prop :=
  (rm.cells = mc ∧ rm.slots = ms ∧ rm.frames + 1 ≤ R.frames ∧ 8 + (maxL + 11) + rm.locals ≤ R.locals ∧ (∀ w ∈ ws, ∀ (a' : Array Value) (U : State), s.WarmedH U.vm → w.before a' U = true) ∧ Cond.codeWith y bytes maxL ret hh ∈ ws) ∧
  (Cond.codeWith y bytes maxL ret hh).before args s = true ∧ (Cond.initialized y.cls).before args s = true ∧ (y.cls ≠ "java/lang/invoke/MethodHandle" ∧ y.cls ≠ "java/lang/invoke/VarHandle") ∧
  (∀ sig, parseMethodDescriptor y.desc = some sig → n = sig.parameters.length) ∧ (Cond.methodLink own index y).before args s = true ∧ (Cond.static y).before args s = true
theorem vx_cwSW {own : String} {index maxL mc ms : Nat} {y : MethodName} {bytes : ByteArray} {ret : Option FieldType} {hh : List (Nat × Nat × Nat × Nat)} {Ts ws ws' : List Cond} {rm : Room} (n : Nat) (ht : ∀ w ∈ Ts, w.before args s = true) (hT : GoodIn Ts (va_wsS own index y ws)) (hw : ws = Cond.codeWith y bytes maxL ret hh :: ws') (hrc : rm.cells = mc) (hrs : rm.slots = ms)
    (hd : y.cls ≠ "java/lang/invoke/MethodHandle" ∧ y.cls ≠ "java/lang/invoke/VarHandle" ∧ (parseMethodDescriptor y.desc).map (fun d => d.parameters.length) = some n) (hR : rm.frames + 1 ≤ R.frames ∧ 8 + (maxL + 11) + rm.locals ≤ R.locals) :
    vx_CSW R s args own index y bytes maxL ret hh ws rm mc ms n := by
  have ok : ∀ w ∈ va_wsS own index y ws, w.before args s = true := fun w h => ht w (hT w h).1
  have hG : GoodIn Ts ws := fun w h => hT w (by unfold va_wsS; exact List.mem_append_right _ h)
  have hc : Cond.codeWith y bytes maxL ret hh ∈ ws := by rw [hw]; exact List.mem_cons_self
  refine ⟨⟨hrc, hrs, hR.1, hR.2, pay_in ht hG, hc⟩, ht _ (hG _ hc).1, ok _ (by simp [va_wsS]), ⟨hd.1, hd.2.1⟩, fun sig h => ?_, ok _ (by simp [va_wsS]), ok _ (by simp [va_wsS])⟩
  have h2 := hd.2.2
  rw [h] at h2
  exact (Option.some.inj h2).symm
theorem vx_callSW (X : Stand p l e R s m args below meth c T locs cells slots) (hexec : p.tables.exec = Jvm.exec) {own : String} {index : Nat} {y : MethodName} {bytes : ByteArray} {maxL : Nat} {ret : Option FieldType} {hh : List (Nat × Nat × Nat × Nat)}
    (hown : s.vm.findClass own = some m.cls) (hlink : (Cond.methodLink own index y).before args s = true) (hstat : (Cond.static y).before args s = true) (hinit : (Cond.initialized y.cls).before args s = true)
    (hcode : (Cond.codeWith y bytes maxL ret hh).before args s = true) (hy : y.cls ≠ "java/lang/invoke/MethodHandle" ∧ y.cls ≠ "java/lang/invoke/VarHandle")
    {W9 : Nat} {Pre : Pt → Array Value → Prop} {Post : Pt → Array Value → Option Value → Pt → Prop} (hK : Back l R p e below s args y 3 W9 Pre Post)
    {g : JFrame} (hg : g.method = m) (hsize : g.locals.size = c.maxLocals) {argsL rest : List Value} (hlen : ∀ sig, parseMethodDescriptor y.desc = some sig → argsL.length = sig.parameters.length)
    (hstack : g.stack = argsL.reverse ++ rest) (hW : 2 * g.monitorRoom + (rest.map fun v => v.category).sum ≤ W9) (hdg : decode c.code g.pc = .ok (.invokestatic index, 3))
    (hpre : ∀ vm₁, s.WarmedH vm₁ → Pre ⟨T.setVm vm₁, locs, cells, slots⟩ argsL.toArray) :
    ∃ (v : Option Value) (vm₁ : Vm) (B : Pt), s.WarmedH vm₁ ∧ Stand p l e R s m args below meth c B.U B.locs B.cells B.slots ∧ Post ⟨T.setVm vm₁, locs, cells, slots⟩ argsL.toArray v B ∧
      ∀ target, Steps p.tables e below (B.U.setTop { g with pc := g.pc + 3, stack := v.toList ++ rest }) target → Steps p.tables e below (T.setTop g) target := by
  obtain ⟨mk, methM, cM, hnamed, hmethM, -, -, -, -, -, -, hsigM⟩ := Cond.codeWith_spec hcode
  have hstatic : methM.isStatic = true := Cond.static_spec hnamed hmethM hstat
  obtain ⟨kP, hkP, -⟩ := className_of_methodNamed hnamed
  have hinitP : kP.init = .initialized := Cond.initialized_spec (findClass_of_methodNamed hnamed) hkP hinit
  obtain ⟨vm₁, X₁, hstep₁⟩ := X.invokestatic hexec hown hlink hnamed hmethM hstatic hkP hinitP hy (g := g) hg (argsL := argsL) (rest := rest) (hlen _ hsigM) hstack hdg
  obtain ⟨v, B, X', hpost, hsteps⟩ := hK m meth c ⟨T.setVm vm₁, locs, cells, slots⟩ { g with stack := rest } (.invokestatic index) mk argsL.toArray X₁ hg hsize hdg hW (X₁.named hnamed) (hpre vm₁ X₁.warmed)
  exact ⟨v, vm₁, B, X₁.warmed, X', hpost, fun target h => hstep₁ _ fun acts => by rw [doInvoke_state]; exact hsteps.trans h⟩
theorem vx_runSW {y : MethodName} {bytes cc : ByteArray} {maxL nL mc ms n index : Nat} {ret : Option FieldType} {hh : List (Nat × Nat × Nat × Nat)} {ws : List Cond} {rm : Room} {Pc : Array Value → State → Prop} {Qc : Array Value → State → Outcome → State → Prop} {free : Addr → Prop} {Ts : List Cond} {own : String} {As rest : List Value} {g : JFrame}
    (S : CallFix p m c cc nL s args Ts own) (hM : Met l y ws rm Pc Qc mc ms free) (cw : vx_CSW R s args own index y bytes maxL ret hh ws rm mc ms n) (hp : PreS s H Pc As)
    (hg : g.method = m) (hn : As.length = n) (hsize : g.locals.size = nL) (hstack : g.stack = As.reverse ++ rest) (hW : 2 * g.monitorRoom + (rest.map fun v => v.category).sum ≤ 8) (hdg : decode cc g.pc = .ok (.invokestatic index, 3)) (hf : cells + mc ≤ R.cells ∧ slots + ms ≤ R.slots) :
    va_Run p l e R s m args below meth c H locs cells slots mc ms g rest (Qc As.toArray) (free) := by
  obtain ⟨⟨hrc, hrs, hfr, hlo, hws, hcw⟩, hcode, hini, hy, hlen, hl, hstt⟩ := cw
  have hK : Back l R p e below s args y 3 8 (PreOf R mc ms Pc) (PostOf Qc mc ms free) := va_backW (hh := hh) (bytes := bytes) (maxL := maxL) (ret := ret) hM hp.1 hrc hrs hfr hlo hws hcw (fun a' U hW => word_at hW (Or.inl (by first | rfl | simp [Cond.onTables, Cond.keeps, Cond.steady])) hini)
  obtain ⟨hx, hb, hml, ho, -⟩ := S
  intro T hT X
  obtain ⟨v, vm₁, ⟨U', l2, c2, s2⟩, hW₁, X', ⟨g', mk, t, L, e1, e2, hq, h1, hL, h2, h3⟩, st⟩ := vx_callSW X hx (hh := hh) (bytes := bytes) (maxL := maxL) (ret := ret) ho hl hstt hini hcode hy hK hg (hsize.trans hml.symm) (argsL := As) (rest := rest) (fun sig h => hn.trans (hlen sig h)) hstack hW (by rw [hb]; exact hdg)
    (fun vm₁ hW₁ => ⟨hf.1, hf.2, hp.2 (T.setVm vm₁) hT hW₁⟩)
  dsimp only [Pt.U, Pt.locs, Pt.cells, Pt.slots] at X' e1 e2 h1 h2 h3 st
  subst h1; subst h2; subst h3
  exact ⟨v, (T.setVm vm₁).calling g' mk As.toArray, t, U', L, hT, X', hL, e1, e2, hq, st⟩
/-- not caught here, past rows that name other classes: it goes on to the caller -/
theorem vx_outP {p : Program} {l : Launch} {e : Env} {R : Room} {s : State} {m : MethodId} {args : Array Value} {below : List Frame} {meth : Method} {c : Code} {H : Heap} {locs : List Loc} {cells slots : Nat} {free : Addr → Prop} {ls : Array Slot} {rest : List Value} {Qc : Array Value → State → Outcome → State → Prop} {XC : String → State → State → Prop}
    {pc : Nat} {own E : String} {ce : Cell} {q : Addr} {mc ms : Nat} (hown : s.vm.findClass own = some m.cls) (hlocks : meth.locks = false)
    (hpass : ∀ z ∈ c.exceptionTable.toList, covers z pc = false ∨ (z.catchType ≠ 0 ∧ ∃ nm : String, (Cond.classLink own z.catchType nm).before args s = true ∧ va_Nc E nm s)) (hcell : H[q]? = some ce) (hv : ce.vm = .none) (hcl : s.vm.findClass E = some ce.cls)
    (hx : ∀ t : State, t.heap = H → s.vm.Alike t.vm → XC E s t) (hf : ∀ z ∈ locs, free z.base) (hc : cells ≤ mc) (hs : slots ≤ ms) :
    vx_W p l e R s m args below meth c H locs cells slots (vx_MQ below Qc XC args s mc ms free) (F0 m pc ls rest) q := by
  intro T hT X
  have hpl : e.platform.magicAccessors = ({} : Platform).magicAccessors := by rw [X.admits.platform]
  obtain ⟨vm', hW', X', st⟩ := X.outThrough hlocks q (g := F0 m pc ls rest) rfl rfl rfl (cell := ce) (by rw [hT]; exact hcell) (by rw [hv]; rfl)
    (by obtain ⟨k9, h9, -⟩ := Vm.findClass_spec hcl; exact ⟨k9, h9⟩) (fun z hz => by
      rcases hpass z hz with h | ⟨hz0, nm, hl1, hn1⟩
      · exact Or.inl h
      · obtain ⟨c6, hc6, hcl6⟩ := Cond.classLink_spec hown hl1 e.platform hpl
        obtain ⟨a8, b8, h1, h2, h3⟩ := hn1
        cases Option.some.inj (h1.symm.trans hcl)
        cases Option.some.inj (h2.symm.trans hc6)
        exact Or.inr ⟨hz0, _, hcl6, h3⟩)
  obtain ⟨g₀, hfr⟩ := X'.frames_eq
  have hcell9 : ((T.setVm vm').setFrames (.throwing q :: below)).heap[q]? = some ce := by
    show T.heap[q]? = some ce
    rw [hT]; exact hcell
  have hend : Ended ((T.setVm vm').setFrames (.throwing q :: below)) below (.threw q) := State.frames_setFrames _ (State.cur_lt_of_frames hfr)
  refine ⟨(T.setVm vm').setFrames (.throwing q :: below), ?_, .threw q, X'.here.running, hend, Or.inr ⟨q, rfl, E, ce, locs, hx _ hT (X'.ends _).1.alike, hcell9, hv, hcl, (X'.ends _).1, (X'.ends _).2.mono hc hs, hf⟩⟩
  rw [X.pushThrowing_eq]
  exact st
/-- a thing of a world lies in the heap -/
theorem vx_lt {D : va_G} {cl : List vw_C} {ws : va_W} {H1 : Heap} (h : va_P D cl ws H1) {k : Nat} {q : Nat × va_E} (hk : ws[k]? = some q) : q.1 < H1.size := (h k q hk).lt
end VXS
/-! ===== END ===== -/
/-! ===== BEGIN methods with a table of their own: called by a name, returning or throwing ===== -/
section VXH
/-! vx_backW, vx_callVX, vx_callSX, vx_callVW, vx_runVW, vx_runVX, vx_runSX, vx_ofWH follow the same proofs as their sisters above (Free/Laws.lean, Shelf42/LK1.lean); vx_outP calls Shelf42/NT130.lean (outThrough). -/
section
variable {l : Launch} {R : Room} {p : Program} {e : Env} {below : List Frame} {s : State} {sargs : Array Value} {y : MethodName} {len W9 : Nat}
theorem vx_backW {ws : List Cond} {rm : Room} {Pc : Array Value → State → Prop} {Qc : Array Value → State → Outcome → State → Prop} {XC : String → State → State → Prop} {mc ms : Nat} {free : Addr → Prop} {bytes : ByteArray} {maxL : Nat} {ret : Option FieldType} {hh : List (Nat × Nat × Nat × Nat)}
    (hM : vx_Met l y ws rm Pc Qc XC mc ms free) (hblind : FrameBlind Pc) (hrc : rm.cells = mc) (hrs : rm.slots = ms)
    (hframes : rm.frames + 1 ≤ R.frames) (hlocals : W9 + (maxL + 11) + rm.locals ≤ R.locals)
    (hws : ∀ w ∈ ws, ∀ a' U, s.WarmedH U.vm → w.before a' U = true) (hcode : Cond.codeWith y bytes maxL ret hh ∈ ws) (hinit : ∀ a' U, s.WarmedH U.vm → (Cond.initialized y.cls).before a' U = true) :
    vx_Back l R p e below s sargs y len W9 (PreOf R mc ms Pc) (PostOf Qc mc ms free) (vx_Post XC mc ms free) := by
  intro m meth c A g ig mk a X hg hsize hdg hW hn hp
  have h1 : (headSpec ws rm).pre.before a A.U = true := atoms_intro fun w hw => hws w hw _ _ X.warmed
  have h2 : (Cond.codeWith y bytes maxL ret hh).before a A.U = true := hws _ hcode _ _ X.warmed
  have h3 : (Cond.initialized y.cls).before a A.U = true := hinit _ _ X.warmed
  have h4 : A.cells + (headSpec ws rm).room.cells ≤ R.cells := by rw [show (headSpec ws rm).room.cells = mc from hrc]; exact hp.1
  have h5 : A.slots + (headSpec ws rm).room.slots ≤ R.slots := by rw [show (headSpec ws rm).room.slots = ms from hrs]; exact hp.2.1
  have hPc : Pc a (A.U.calling g mk a) := hblind _ _ _ _ hp.2.2
  obtain ⟨U, Ls, c0, s0⟩ := A
  dsimp only [Pt.U, Pt.locs, Pt.cells, Pt.slots] at h1 h2 h3 h4 h5 X hn hPc ⊢
  obtain ⟨m9, methY, cY, hn9, hmY, hcY, -, hlY, -⟩ := Cond.codeWith_spec h2
  cases Option.some.inj (hn9.symm.trans hn)
  obtain ⟨kY, hkY, -⟩ := className_of_methodNamed hn
  have hinitY : kY.init = .initialized := Cond.initialized_spec (findClass_of_methodNamed hn) hkY h3
  have h : At U g.method c below := by rw [hg]; exact X.here
  have hlocals9 : W9 + (maxL + 11) + (headSpec ws rm).room.locals ≤ R.locals := hlocals
  have happ : (headSpec ws rm).appliesLoose y e.platform (U.calling g mk a) = true :=
    Spec.appliesLoose_calling (g := g) h hdg hn hkY hinitY
      (X.room_calling (g := g) (R' := (headSpec ws rm).room) hsize hmY hcY hframes (by rw [hlY]; omega) h4 h5) h1
  obtain ⟨mid, hmid⟩ := h.above
  have hfr : (U.setTop g).frames = (.java g :: mid) ++ below := by rw [State.frames_setTop' g h.top, hmid]; rfl
  obtain ⟨o, s₂, hsteps, -, hend, hq⟩ := Steps.callFree hM p X.admits X.cas X.clock (acts := []) hfr happ hPc trivial
  have hq' : vx_Q Qc XC mc ms free a (U.calling g mk a) o s₂ := hq
  rw [State.frames_setTop' g h.top] at hend
  obtain ⟨g₀, hg0⟩ := Option.isSome_iff_exists.mp h.top
  obtain ⟨r, hr⟩ := State.topJava?_eq_some.mp hg0
  have hr' : (({ U with heap := s₂.heap, slotsUsed := s₂.slotsUsed } : State).setVm s₂.vm).frames = .java g₀ :: r := hr
  rcases hq' with ⟨hqc, L, hfe, hL⟩ | ⟨q, rfl, E, ce, L, hx, hce, hcv, hcl, hW₂, hsm, hL⟩
  · obtain ⟨⟨v, rfl⟩, hW₂, e2, q2, q3, q4, q5, q6⟩ := id hfe
    have e3 : s₂ = ({ (U.calling g mk a).setFrames s₂.frames with heap := s₂.heap, slotsUsed := s₂.slotsUsed } : State).setVm s₂.vm := by
      have : s₂ = ({ s₂ with vm := (U.calling g mk a).vm } : State).setVm s₂.vm := rfl
      rw [e2] at this
      exact this
    obtain ⟨c₂, i₂, len₂, hc₂, hd₂, hf₂⟩ := hend
    have hW' : U.WarmedH s₂.vm := hW₂
    have hcc : c₂ = c := by
      have h1 : s₂.code? g.method = U.code? g.method := by
        rw [State.code?_eq, State.code?_eq, hW'.alike.method?]
      exact Option.some.inj (hc₂.symm.trans (h1.trans h.code))
    subst hcc
    have hlen : len₂ = len := by rw [hdg] at hd₂; cases hd₂; rfl
    subst hlen
    have hs₂ : s₂ = (({ U with heap := s₂.heap, slotsUsed := s₂.slotsUsed } : State).setVm s₂.vm).setTop { g with pc := g.pc + len₂, stack := v.toList ++ g.stack } := by
      refine e3.trans ?_
      rw [hf₂, State.calling_eq h.top, State.setFrames_setFrames, State.setTop_of_frames _ hr', hr]
      rfl
    have hsame : U.sameButNew ({ U with heap := s₂.heap, slotsUsed := s₂.slotsUsed } : State) L mc ms := by
      refine ⟨?_, q2, q3, q4, q5, q6⟩
      obtain ⟨t, ht, -⟩ := State.frames_cons hr
      show ({ U with heap := s₂.heap, slotsUsed := s₂.slotsUsed } : State) = { U.setFrames U.frames with heap := s₂.heap, slotsUsed := s₂.slotsUsed }
      rw [State.setFrames_self ht]
    subst hg
    refine Or.inl ⟨v, ⟨(({ U with heap := s₂.heap, slotsUsed := s₂.slotsUsed } : State).setVm s₂.vm), Ls ++ L, c0 + mc, s0 + ms⟩,
      ⟨X.admits, X.cas, X.clock, X.frames, X.room, X.hears, X.method, X.code, (X.here.setHeapUsed s₂.heap s₂.slotsUsed).setVm hW'.alike, X.tail, State.WarmedH.trans X.warmed hW', X.limits, X.bytes, X.same.trans (hsame.setVm s.vm)⟩,
      ⟨g, mk, s₂, L, rfl, rfl, hqc, rfl, hL, rfl, rfl⟩, ?_⟩
    show Steps p.tables e below _ ((({ U with heap := s₂.heap, slotsUsed := s₂.slotsUsed } : State).setVm s₂.vm).setTop { g with pc := g.pc + len₂, stack := v.toList ++ g.stack })
    rw [← hs₂]
    exact hsteps
  · obtain ⟨e2, q2, q3, q4, q5, q6⟩ := id hsm
    have e3 : s₂ = ({ (U.calling g mk a).setFrames s₂.frames with heap := s₂.heap, slotsUsed := s₂.slotsUsed } : State).setVm s₂.vm := by
      have : s₂ = ({ s₂ with vm := (U.calling g mk a).vm } : State).setVm s₂.vm := rfl
      rw [e2] at this
      exact this
    have hf₂ : s₂.frames = .throwing q :: .java g :: U.frames.tail := hend
    have hW' : U.WarmedH s₂.vm := hW₂
    have hs₂ : s₂ = ((({ U with heap := s₂.heap, slotsUsed := s₂.slotsUsed } : State).setVm s₂.vm).setTop g).pushFrame (.throwing q) := by
      refine e3.trans ?_
      rw [hf₂, State.calling_eq h.top, State.setFrames_setFrames, State.pushFrame, State.frames_setTop _ hr', State.setTop_of_frames _ hr', State.setFrames_setFrames, hr]
      rfl
    have hsame : U.sameButNew ({ U with heap := s₂.heap, slotsUsed := s₂.slotsUsed } : State) L mc ms := by
      refine ⟨?_, q2, q3, q4, q5, q6⟩
      obtain ⟨t, ht, -⟩ := State.frames_cons hr
      show ({ U with heap := s₂.heap, slotsUsed := s₂.slotsUsed } : State) = { U.setFrames U.frames with heap := s₂.heap, slotsUsed := s₂.slotsUsed }
      rw [State.setFrames_self ht]
    subst hg
    refine Or.inr ⟨q, ⟨(({ U with heap := s₂.heap, slotsUsed := s₂.slotsUsed } : State).setVm s₂.vm), Ls ++ L, c0 + mc, s0 + ms⟩,
      ⟨X.admits, X.cas, X.clock, X.frames, X.room, X.hears, X.method, X.code, (X.here.setHeapUsed s₂.heap s₂.slotsUsed).setVm hW'.alike, X.tail, State.WarmedH.trans X.warmed hW', X.limits, X.bytes, X.same.trans (hsame.setVm s.vm)⟩,
      ⟨g, mk, s₂, L, E, ce, rfl, rfl, hx, hce, hcv, hcl, rfl, hL, rfl, rfl⟩, ?_⟩
    show Steps p.tables e below _ (((({ U with heap := s₂.heap, slotsUsed := s₂.slotsUsed } : State).setVm s₂.vm).setTop g).pushFrame (.throwing q))
    rw [← hs₂]
    exact hsteps
end
variable {p : Program} {l : Launch} {e : Env} {R : Room} {s : State} {m : MethodId} {args : Array Value} {below : List Frame} {meth : Method} {c : Code} {T : State} {H : Heap} {locs : List Loc} {cells slots : Nat}
theorem vx_callVX (X : Stand p l e R s m args below meth c T locs cells slots) (hexec : p.tables.exec = Jvm.exec) {own C : String} {index : Nat} {y : MethodName} {bytes : ByteArray} {maxL : Nat} {ret : Option FieldType} {hh : List (Nat × Nat × Nat × Nat)}
    (hown : s.vm.findClass own = some m.cls) (hlink : (Cond.methodLink own index y).before args s = true) (hinst : (Cond.instanceMethod y).before args s = true) (hsel : (Cond.selects C y y).before args s = true)
    (hcode : (Cond.codeWith y bytes maxL ret hh).before args s = true) (hy : y.cls ≠ "java/lang/invoke/MethodHandle" ∧ y.cls ≠ "java/lang/invoke/VarHandle")
    {W9 : Nat} {Pre : Pt → Array Value → Prop} {Post : Pt → Array Value → Option Value → Pt → Prop} {PostX : Pt → Array Value → Addr → Pt → Prop} (hK : vx_Back l R p e below s args y 3 W9 Pre Post PostX)
    {b : Addr} {cellB : Cell} (hcell : T.heap[b]? = some cellB) (hobj : cellB.vm.isStatics = false) (hcls : s.vm.findClass C = some cellB.cls)
    {g : JFrame} (hg : g.method = m) (hsize : g.locals.size = c.maxLocals) {argsL rest : List Value} (hlen : ∀ sig, parseMethodDescriptor y.desc = some sig → argsL.length = sig.parameters.length)
    (hstack : g.stack = argsL.reverse ++ .ref b :: rest) (hW : 2 * g.monitorRoom + (rest.map fun v => v.category).sum ≤ W9) (hdg : decode c.code g.pc = .ok (.invokevirtual index, 3))
    (hpre : ∀ vm₁, s.WarmedH vm₁ → Pre ⟨T.setVm vm₁, locs, cells, slots⟩ (Value.ref b :: argsL).toArray) :
    (∃ (v : Option Value) (vm₁ : Vm) (B : Pt), s.WarmedH vm₁ ∧ Stand p l e R s m args below meth c B.U B.locs B.cells B.slots ∧ Post ⟨T.setVm vm₁, locs, cells, slots⟩ (Value.ref b :: argsL).toArray v B ∧
      ∀ target, Steps p.tables e below (B.U.setTop { g with pc := g.pc + 3, stack := v.toList ++ rest }) target → Steps p.tables e below (T.setTop g) target) ∨
    (∃ (q : Addr) (vm₁ : Vm) (B : Pt), s.WarmedH vm₁ ∧ Stand p l e R s m args below meth c B.U B.locs B.cells B.slots ∧ PostX ⟨T.setVm vm₁, locs, cells, slots⟩ (Value.ref b :: argsL).toArray q B ∧
      Steps p.tables e below (T.setTop g) ((B.U.setTop { g with stack := rest }).pushFrame (.throwing q))) := by
  obtain ⟨mk, methM, hnamed, hmethM, hstM, habM⟩ := Cond.instanceMethod_spec hinst
  obtain ⟨m8, methM', cM, hn8, hmethM', -, -, -, -, -, -, hsigM⟩ := Cond.codeWith_spec hcode
  cases Option.some.inj (hn8.symm.trans hnamed)
  cases hmethM.symm.trans hmethM'
  obtain ⟨c2, r2, m2, q1, q2, q3, q4, kP, hkP, hkPi⟩ := Cond.selects_spec hsel
  cases hcls.symm.trans q1
  cases (State.methodFound?_of_named hnamed hy).symm.trans q2
  cases hnamed.symm.trans q3
  have hselP : selectMethod e.platform s.vm cellB.cls mk = .method mk := by rw [Launch.admits_selectMethod X.admits]; exact q4
  obtain ⟨vm₁, X₁, hstep₁⟩ := X.invokevirtual hexec hown hlink hnamed hmethM hstM hkP hkPi hy (a := b) (cell := cellB) hcell
    (fun z h => by rw [h] at hobj; cases hobj) hselP hmethM habM hkP hkPi (g := g) hg (argsL := argsL) (rest := rest) (hlen _ hsigM) hstack hdg
  rcases hK m meth c ⟨T.setVm vm₁, locs, cells, slots⟩ { g with stack := rest } (.invokevirtual index) mk (Value.ref b :: argsL).toArray X₁ hg hsize hdg hW (X₁.named hnamed) (hpre vm₁ X₁.warmed) with ⟨v, B, X', hpost, hsteps⟩ | ⟨q, B, X', hpost, hsteps⟩
  · exact Or.inl ⟨v, vm₁, B, X₁.warmed, X', hpost, fun target h => hstep₁ _ fun acts => by rw [doInvoke_state]; exact hsteps.trans h⟩
  · exact Or.inr ⟨q, vm₁, B, X₁.warmed, X', hpost, hstep₁ _ fun acts => by rw [doInvoke_state]; exact hsteps⟩
theorem vx_callSX (X : Stand p l e R s m args below meth c T locs cells slots) (hexec : p.tables.exec = Jvm.exec) {own : String} {index : Nat} {y : MethodName} {bytes : ByteArray} {maxL : Nat} {ret : Option FieldType} {hh : List (Nat × Nat × Nat × Nat)}
    (hown : s.vm.findClass own = some m.cls) (hlink : (Cond.methodLink own index y).before args s = true) (hstat : (Cond.static y).before args s = true) (hinit : (Cond.initialized y.cls).before args s = true)
    (hcode : (Cond.codeWith y bytes maxL ret hh).before args s = true) (hy : y.cls ≠ "java/lang/invoke/MethodHandle" ∧ y.cls ≠ "java/lang/invoke/VarHandle")
    {W9 : Nat} {Pre : Pt → Array Value → Prop} {Post : Pt → Array Value → Option Value → Pt → Prop} {PostX : Pt → Array Value → Addr → Pt → Prop} (hK : vx_Back l R p e below s args y 3 W9 Pre Post PostX)
    {g : JFrame} (hg : g.method = m) (hsize : g.locals.size = c.maxLocals) {argsL rest : List Value} (hlen : ∀ sig, parseMethodDescriptor y.desc = some sig → argsL.length = sig.parameters.length)
    (hstack : g.stack = argsL.reverse ++ rest) (hW : 2 * g.monitorRoom + (rest.map fun v => v.category).sum ≤ W9) (hdg : decode c.code g.pc = .ok (.invokestatic index, 3))
    (hpre : ∀ vm₁, s.WarmedH vm₁ → Pre ⟨T.setVm vm₁, locs, cells, slots⟩ argsL.toArray) :
    (∃ (v : Option Value) (vm₁ : Vm) (B : Pt), s.WarmedH vm₁ ∧ Stand p l e R s m args below meth c B.U B.locs B.cells B.slots ∧ Post ⟨T.setVm vm₁, locs, cells, slots⟩ argsL.toArray v B ∧
      ∀ target, Steps p.tables e below (B.U.setTop { g with pc := g.pc + 3, stack := v.toList ++ rest }) target → Steps p.tables e below (T.setTop g) target) ∨
    (∃ (q : Addr) (vm₁ : Vm) (B : Pt), s.WarmedH vm₁ ∧ Stand p l e R s m args below meth c B.U B.locs B.cells B.slots ∧ PostX ⟨T.setVm vm₁, locs, cells, slots⟩ argsL.toArray q B ∧
      Steps p.tables e below (T.setTop g) ((B.U.setTop { g with stack := rest }).pushFrame (.throwing q))) := by
  obtain ⟨mk, methM, cM, hnamed, hmethM, -, -, -, -, -, -, hsigM⟩ := Cond.codeWith_spec hcode
  have hstatic : methM.isStatic = true := Cond.static_spec hnamed hmethM hstat
  obtain ⟨kP, hkP, -⟩ := className_of_methodNamed hnamed
  have hinitP : kP.init = .initialized := Cond.initialized_spec (findClass_of_methodNamed hnamed) hkP hinit
  obtain ⟨vm₁, X₁, hstep₁⟩ := X.invokestatic hexec hown hlink hnamed hmethM hstatic hkP hinitP hy (g := g) hg (argsL := argsL) (rest := rest) (hlen _ hsigM) hstack hdg
  rcases hK m meth c ⟨T.setVm vm₁, locs, cells, slots⟩ { g with stack := rest } (.invokestatic index) mk argsL.toArray X₁ hg hsize hdg hW (X₁.named hnamed) (hpre vm₁ X₁.warmed) with ⟨v, B, X', hpost, hsteps⟩ | ⟨q, B, X', hpost, hsteps⟩
  · exact Or.inl ⟨v, vm₁, B, X₁.warmed, X', hpost, fun target h => hstep₁ _ fun acts => by rw [doInvoke_state]; exact hsteps.trans h⟩
  · exact Or.inr ⟨q, vm₁, B, X₁.warmed, X', hpost, hstep₁ _ fun acts => by rw [doInvoke_state]; exact hsteps⟩
theorem vx_callVW (X : Stand p l e R s m args below meth c T locs cells slots) (hexec : p.tables.exec = Jvm.exec) {own C : String} {index : Nat} {y : MethodName} {bytes : ByteArray} {maxL : Nat} {ret : Option FieldType} {hh : List (Nat × Nat × Nat × Nat)}
    (hown : s.vm.findClass own = some m.cls) (hlink : (Cond.methodLink own index y).before args s = true) (hinst : (Cond.instanceMethod y).before args s = true) (hsel : (Cond.selects C y y).before args s = true)
    (hcode : (Cond.codeWith y bytes maxL ret hh).before args s = true) (hy : y.cls ≠ "java/lang/invoke/MethodHandle" ∧ y.cls ≠ "java/lang/invoke/VarHandle")
    {W9 : Nat} {Pre : Pt → Array Value → Prop} {Post : Pt → Array Value → Option Value → Pt → Prop} (hK : Back l R p e below s args y 3 W9 Pre Post)
    {b : Addr} {cellB : Cell} (hcell : T.heap[b]? = some cellB) (hobj : cellB.vm.isStatics = false) (hcls : s.vm.findClass C = some cellB.cls)
    {g : JFrame} (hg : g.method = m) (hsize : g.locals.size = c.maxLocals) {argsL rest : List Value} (hlen : ∀ sig, parseMethodDescriptor y.desc = some sig → argsL.length = sig.parameters.length)
    (hstack : g.stack = argsL.reverse ++ .ref b :: rest) (hW : 2 * g.monitorRoom + (rest.map fun v => v.category).sum ≤ W9) (hdg : decode c.code g.pc = .ok (.invokevirtual index, 3))
    (hpre : ∀ vm₁, s.WarmedH vm₁ → Pre ⟨T.setVm vm₁, locs, cells, slots⟩ (Value.ref b :: argsL).toArray) :
    ∃ (v : Option Value) (vm₁ : Vm) (B : Pt), s.WarmedH vm₁ ∧ Stand p l e R s m args below meth c B.U B.locs B.cells B.slots ∧ Post ⟨T.setVm vm₁, locs, cells, slots⟩ (Value.ref b :: argsL).toArray v B ∧
      ∀ target, Steps p.tables e below (B.U.setTop { g with pc := g.pc + 3, stack := v.toList ++ rest }) target → Steps p.tables e below (T.setTop g) target := by
  obtain ⟨mk, methM, hnamed, hmethM, hstM, habM⟩ := Cond.instanceMethod_spec hinst
  obtain ⟨m8, methM', cM, hn8, hmethM', -, -, -, -, -, -, hsigM⟩ := Cond.codeWith_spec hcode
  cases Option.some.inj (hn8.symm.trans hnamed)
  cases hmethM.symm.trans hmethM'
  obtain ⟨c2, r2, m2, q1, q2, q3, q4, kP, hkP, hkPi⟩ := Cond.selects_spec hsel
  cases hcls.symm.trans q1
  cases (State.methodFound?_of_named hnamed hy).symm.trans q2
  cases hnamed.symm.trans q3
  have hselP : selectMethod e.platform s.vm cellB.cls mk = .method mk := by rw [Launch.admits_selectMethod X.admits]; exact q4
  obtain ⟨vm₁, X₁, hstep₁⟩ := X.invokevirtual hexec hown hlink hnamed hmethM hstM hkP hkPi hy (a := b) (cell := cellB) hcell
    (fun z h => by rw [h] at hobj; cases hobj) hselP hmethM habM hkP hkPi (g := g) hg (argsL := argsL) (rest := rest) (hlen _ hsigM) hstack hdg
  obtain ⟨v, B, X', hpost, hsteps⟩ := hK m meth c ⟨T.setVm vm₁, locs, cells, slots⟩ { g with stack := rest } (.invokevirtual index) mk (Value.ref b :: argsL).toArray X₁ hg hsize hdg hW (X₁.named hnamed) (hpre vm₁ X₁.warmed)
  exact ⟨v, vm₁, B, X₁.warmed, X', hpost, fun target h => hstep₁ _ fun acts => by rw [doInvoke_state]; exact hsteps.trans h⟩
abbrev vx_CVW (R : Room) (s : State) (args : Array Value) (own C : String) (index : Nat) (y : MethodName) (bytes : ByteArray) (maxL : Nat) (ret : Option FieldType) (hh : List (Nat × Nat × Nat × Nat)) (ws : List Cond) (rm : Room) (mc ms n : Nat) : Prop :=
  (rm.cells = mc ∧ rm.slots = ms ∧ rm.frames + 1 ≤ R.frames ∧ 8 + (maxL + 11) + rm.locals ≤ R.locals ∧ (∀ w ∈ ws, ∀ (a' : Array Value) (U : State), s.WarmedH U.vm → w.before a' U = true) ∧ Cond.codeWith y bytes maxL ret hh ∈ ws) ∧
  (Cond.codeWith y bytes maxL ret hh).before args s = true ∧ (Cond.initialized y.cls).before args s = true ∧ (y.cls ≠ "java/lang/invoke/MethodHandle" ∧ y.cls ≠ "java/lang/invoke/VarHandle") ∧
  (∀ sig, parseMethodDescriptor y.desc = some sig → n = sig.parameters.length) ∧ (Cond.methodLink own index y).before args s = true ∧ (Cond.instanceMethod y).before args s = true ∧ (Cond.selects C y y).before args s = true
theorem vx_cwVW {own C : String} {index maxL mc ms : Nat} {y : MethodName} {bytes : ByteArray} {ret : Option FieldType} {hh : List (Nat × Nat × Nat × Nat)} {Ts ws ws' : List Cond} {rm : Room} (n : Nat) (ht : ∀ w ∈ Ts, w.before args s = true) (hT : GoodIn Ts (wsV own index C y ws)) (hw : ws = Cond.codeWith y bytes maxL ret hh :: ws') (hrc : rm.cells = mc) (hrs : rm.slots = ms)
    (hd : y.cls = C ∧ y.cls ≠ "java/lang/invoke/MethodHandle" ∧ y.cls ≠ "java/lang/invoke/VarHandle" ∧ (parseMethodDescriptor y.desc).map (fun d => d.parameters.length) = some n) (hR : rm.frames + 1 ≤ R.frames ∧ 8 + (maxL + 11) + rm.locals ≤ R.locals) :
    vx_CVW R s args own C index y bytes maxL ret hh ws rm mc ms n := by
  obtain ⟨hC, hd⟩ := hd
  subst hC
  have ok : ∀ w ∈ wsV own index y.cls y ws, w.before args s = true := fun w h => ht w (hT w h).1
  have hG : GoodIn Ts ws := fun w h => hT w (by unfold wsV; exact List.mem_append_right _ h)
  have hc : Cond.codeWith y bytes maxL ret hh ∈ ws := by rw [hw]; exact List.mem_cons_self
  refine ⟨⟨hrc, hrs, hR.1, hR.2, pay_in ht hG, hc⟩, ht _ (hG _ hc).1, ok _ (by simp [wsV]), ⟨hd.1, hd.2.1⟩, fun sig h => ?_, ok _ (by simp [wsV]), ok _ (by simp [wsV]), ok _ (by simp [wsV])⟩
  have h2 := hd.2.2
  rw [h] at h2
  exact (Option.some.inj h2).symm
theorem vx_runVW {y : MethodName} {bytes cc : ByteArray} {maxL nL mc ms n index : Nat} {ret : Option FieldType} {hh : List (Nat × Nat × Nat × Nat)} {ws : List Cond} {rm : Room} {Pc : Array Value → State → Prop} {Qc : Array Value → State → Outcome → State → Prop} {free : Addr → Prop} {Ts : List Cond} {own C : String} {b : Addr} {As rest : List Value} {g : JFrame}
    (S : CallFix p m c cc nL s args Ts own) (hM : Met l y ws rm Pc Qc mc ms free) (cw : vx_CVW R s args own C index y bytes maxL ret hh ws rm mc ms n) (hp : PreV s H C b Pc As)
    (hg : g.method = m) (hn : As.length = n) (hsize : g.locals.size = nL) (hstack : g.stack = As.reverse ++ .ref b :: rest) (hW : 2 * g.monitorRoom + (rest.map fun v => v.category).sum ≤ 8) (hdg : decode cc g.pc = .ok (.invokevirtual index, 3)) (hf : cells + mc ≤ R.cells ∧ slots + ms ≤ R.slots) :
    va_Run p l e R s m args below meth c H locs cells slots mc ms g rest (Qc (Value.ref b :: As).toArray) free := by
  obtain ⟨⟨hrc, hrs, hfr, hlo, hws, hcw⟩, hcode, hini, hy, hlen, hl, hin, hse⟩ := cw
  have hK : Back l R p e below s args y 3 8 (PreOf R mc ms Pc) (PostOf Qc mc ms free) := va_backW (hh := hh) (bytes := bytes) (maxL := maxL) (ret := ret) hM hp.1 hrc hrs hfr hlo hws hcw (fun a' U hW => word_at hW (Or.inl (by first | rfl | simp [Cond.onTables, Cond.keeps, Cond.steady])) hini)
  obtain ⟨hx, hb, hml, ho, -⟩ := S
  obtain ⟨-, ⟨cellB, hcB, hoB, hclB⟩, hPc⟩ := hp
  intro T hT X
  obtain ⟨v, vm₁, ⟨U', l2, c2, s2⟩, hW₁, X', ⟨g', mk, t, L, e1, e2, hq, h1, hL, h2, h3⟩, st⟩ := vx_callVW X hx (C := C) (hh := hh) (bytes := bytes) (maxL := maxL) (ret := ret) ho hl hin hse hcode hy hK (by rw [hT]; exact hcB) hoB hclB hg (hsize.trans hml.symm) (argsL := As) (rest := rest) (fun sig h => hn.trans (hlen sig h)) hstack hW (by rw [hb]; exact hdg)
    (fun vm₁ hW₁ => ⟨hf.1, hf.2, hPc (T.setVm vm₁) hT hW₁⟩)
  dsimp only [Pt.U, Pt.locs, Pt.cells, Pt.slots] at X' e1 e2 h1 h2 h3 st
  subst h1; subst h2; subst h3
  exact ⟨v, (T.setVm vm₁).calling g' mk (Value.ref b :: As).toArray, t, U', L, hT, X', hL, e1, e2, hq, st⟩
section
variable {y : MethodName} {bytes cc : ByteArray} {maxL nL mc ms n index : Nat} {ret : Option FieldType} {ws : List Cond} {rm : Room} {Pc : Array Value → State → Prop} {Qc : Array Value → State → Outcome → State → Prop} {XC : String → State → State → Prop} {free : Addr → Prop} {Ts : List Cond} {own C : String} {b : Addr} {As rest : List Value} {g : JFrame}
theorem vx_runVX {hh : List (Nat × Nat × Nat × Nat)} (S : CallFix p m c cc nL s args Ts own) (hM : vx_Met l y ws rm Pc Qc XC mc ms free) (cw : vx_CVW R s args own C index y bytes maxL ret hh ws rm mc ms n) (hp : PreV s H C b Pc As)
    (hg : g.method = m) (hn : As.length = n) (hsize : g.locals.size = nL) (hstack : g.stack = As.reverse ++ .ref b :: rest) (hW : 2 * g.monitorRoom + (rest.map fun v => v.category).sum ≤ 8) (hdg : decode cc g.pc = .ok (.invokevirtual index, 3)) (hf : cells + mc ≤ R.cells ∧ slots + ms ≤ R.slots) :
    vx_Run p l e R s m args below meth c H locs cells slots mc ms g rest (Qc (Value.ref b :: As).toArray) XC free := by
  obtain ⟨⟨hrc, hrs, hfr, hlo, hws, hcw⟩, hcode, hini, hy, hlen, hl, hin, hse⟩ := cw
  have hK : vx_Back l R p e below s args y 3 8 (PreOf R mc ms Pc) (PostOf Qc mc ms free) (vx_Post XC mc ms free) := vx_backW (hh := hh) (bytes := bytes) (maxL := maxL) (ret := ret) hM hp.1 hrc hrs hfr hlo hws hcw (fun a' U hW => word_at hW (Or.inl (by first | rfl | simp [Cond.onTables, Cond.keeps, Cond.steady])) hini)
  obtain ⟨hx, hb, hml, ho, -⟩ := S
  obtain ⟨-, ⟨cellB, hcB, hoB, hclB⟩, hPc⟩ := hp
  intro T hT X
  rcases vx_callVX X hx (C := C) (hh := hh) (bytes := bytes) (maxL := maxL) (ret := ret) ho hl hin hse hcode hy hK (by rw [hT]; exact hcB) hoB hclB hg (hsize.trans hml.symm) (argsL := As) (rest := rest) (fun sig h => hn.trans (hlen sig h)) hstack hW (by rw [hb]; exact hdg)
    (fun vm₁ hW₁ => ⟨hf.1, hf.2, hPc (T.setVm vm₁) hT hW₁⟩) with ⟨v, vm₁, ⟨U', l2, c2, s2⟩, hW₁, X', ⟨g', mk, t, L, e1, e2, hq, h1, hL, h2, h3⟩, st⟩ | ⟨q, vm₁, ⟨U', l2, c2, s2⟩, hW₁, X', ⟨g', mk, t, L, E, ce, e1, e2, hq, hce, hcv, hcl, h1, hL, h2, h3⟩, st⟩
  · dsimp only [Pt.U, Pt.locs, Pt.cells, Pt.slots] at X' e1 e2 h1 h2 h3 st
    subst h1; subst h2; subst h3
    exact Or.inl ⟨v, (T.setVm vm₁).calling g' mk (Value.ref b :: As).toArray, t, U', L, hT, X', hL, e1, e2, hq, st⟩
  · dsimp only [Pt.U, Pt.locs, Pt.cells, Pt.slots] at X' e1 e2 h1 h2 h3 st hcl
    subst h1; subst h2; subst h3
    exact Or.inr ⟨q, (T.setVm vm₁).calling g' mk (Value.ref b :: As).toArray, t, U', L, E, ce, hT, X', hL, e1, e2, hq, hce, hcv, vx_cls hW₁ hcl, st⟩
theorem vx_runSX {hh : List (Nat × Nat × Nat × Nat)} (S : CallFix p m c cc nL s args Ts own) (hM : vx_Met l y ws rm Pc Qc XC mc ms free) (cw : vx_CSW R s args own index y bytes maxL ret hh ws rm mc ms n) (hp : PreS s H Pc As)
    (hg : g.method = m) (hn : As.length = n) (hsize : g.locals.size = nL) (hstack : g.stack = As.reverse ++ rest) (hW : 2 * g.monitorRoom + (rest.map fun v => v.category).sum ≤ 8) (hdg : decode cc g.pc = .ok (.invokestatic index, 3)) (hf : cells + mc ≤ R.cells ∧ slots + ms ≤ R.slots) :
    vx_Run p l e R s m args below meth c H locs cells slots mc ms g rest (Qc As.toArray) XC free := by
  obtain ⟨⟨hrc, hrs, hfr, hlo, hws, hcw⟩, hcode, hini, hy, hlen, hl, hstt⟩ := cw
  have hK : vx_Back l R p e below s args y 3 8 (PreOf R mc ms Pc) (PostOf Qc mc ms free) (vx_Post XC mc ms free) := vx_backW (hh := hh) (bytes := bytes) (maxL := maxL) (ret := ret) hM hp.1 hrc hrs hfr hlo hws hcw (fun a' U hW => word_at hW (Or.inl (by first | rfl | simp [Cond.onTables, Cond.keeps, Cond.steady])) hini)
  obtain ⟨hx, hb, hml, ho, -⟩ := S
  intro T hT X
  rcases vx_callSX X hx (hh := hh) (bytes := bytes) (maxL := maxL) (ret := ret) ho hl hstt hini hcode hy hK hg (hsize.trans hml.symm) (argsL := As) (rest := rest) (fun sig h => hn.trans (hlen sig h)) hstack hW (by rw [hb]; exact hdg)
    (fun vm₁ hW₁ => ⟨hf.1, hf.2, hp.2 (T.setVm vm₁) hT hW₁⟩) with ⟨v, vm₁, ⟨U', l2, c2, s2⟩, hW₁, X', ⟨g', mk, t, L, e1, e2, hq, h1, hL, h2, h3⟩, st⟩ | ⟨q, vm₁, ⟨U', l2, c2, s2⟩, hW₁, X', ⟨g', mk, t, L, E, ce, e1, e2, hq, hce, hcv, hcl, h1, hL, h2, h3⟩, st⟩
  · dsimp only [Pt.U, Pt.locs, Pt.cells, Pt.slots] at X' e1 e2 h1 h2 h3 st
    subst h1; subst h2; subst h3
    exact Or.inl ⟨v, (T.setVm vm₁).calling g' mk As.toArray, t, U', L, hT, X', hL, e1, e2, hq, st⟩
  · dsimp only [Pt.U, Pt.locs, Pt.cells, Pt.slots] at X' e1 e2 h1 h2 h3 st hcl
    subst h1; subst h2; subst h3
    exact Or.inr ⟨q, (T.setVm vm₁).calling g' mk As.toArray, t, U', L, E, ce, hT, X', hL, e1, e2, hq, hce, hcv, vx_cls hW₁ hcl, st⟩
end
end VXH
theorem vx_ofWH {l : Launch} {y : MethodName} {ws ws' : List Cond} {rm : Room} {Pc : Array Value → State → Prop} {Qc : Array Value → State → Outcome → State → Prop} {XC : String → State → State → Prop} {mc ms : Nat} {free : Addr → Prop} {cc : ByteArray} {maxL : Nat} {ret : Option FieldType} {hh : List (Nat × Nat × Nat × Nat)}
    (hy : plainName y.cls = true) (hw : ws = Cond.codeWith y cc maxL ret hh :: ws')
    (body : ∀ p e s m args below meth c s₁, BodyLoose p l y (headSpec ws rm) cc maxL ret e s m args below meth c s₁ → c.maxLocals = maxL → Pc args s →
      W p l e (headSpec ws rm).room s m args below meth c s.heap [] 0 0 (vx_MQ below Qc XC args s mc ms free) (entryFrame m args maxL)) : vx_Met l y ws rm Pc Qc XC mc ms free := by
  refine MetFree.of_bodyS (code := cc) (maxLocals := maxL) (ret := ret) hy ?_ ?_
  · intro args s m h hn
    obtain ⟨m9, meth, c, hn9, h1, h2, h3, h4, -, h5, h6, -⟩ := Cond.codeWith_spec (atoms_spec (ws := ws) h _ (by rw [hw]; exact List.mem_cons_self))
    cases hn.symm.trans hn9
    exact ⟨meth, c, h1, h2, h3, h4, h5, h6⟩
  · intro p e s m args below meth c s₁ B hml hP _
    have hh0 : s₁.heap = s.heap := by rw [B.state]; rfl
    obtain ⟨t, a1, o, b1, b2, b3⟩ := body p e s m args below meth c s₁ B hml hP s₁ hh0 (Stand.of_body B)
    exact ⟨t, o, a1, b1, b2, b3⟩
/-! ===== END ===== -/
end
section
/-! The classes whose objects the memory holds, their fields, the words of the tables, what the launch gives. -/
def jx_T0 : u_T := fun k => match k with
  | 0 => ("StretchedRows", "there", "[LStretchedRows$Node;", true)
  | 1 => ("StretchedRows", "thereCount", "I", false)
  | _ => ("StretchedRows", "madeCount", "I", false)
def jx_ty0 : Nat → FieldType := fun k => match k with
  | 0 => (.array (.object "StretchedRows$Node"))
  | 1 => .int
  | _ => .int
def jx_T1 : u_T := fun k => match k with
  | 0 => ("StretchedRowsModel", "thrown", "I", false)
  | 1 => ("StretchedRowsModel", "made", "I", false)
  | 2 => ("StretchedRowsModel", "count", "I", false)
  | 3 => ("StretchedRowsModel", "there", "[Z", true)
  | 4 => ("StretchedRowsModel", "kinds", "[I", true)
  | 5 => ("StretchedRowsModel", "parents", "[I", true)
  | 6 => ("StretchedRowsModel", "depths", "[I", true)
  | 7 => ("StretchedRowsModel", "numbers", "[I", true)
  | 8 => ("StretchedRowsModel", "words", "[I", true)
  | 9 => ("StretchedRowsModel", "wordCounts", "[I", true)
  | 10 => ("StretchedRowsModel", "tracks", "[I", true)
  | 11 => ("StretchedRowsModel", "shares", "[Z", true)
  | 12 => ("StretchedRowsModel", "trackCounts", "[I", true)
  | 13 => ("StretchedRowsModel", "naturals", "[I", true)
  | 14 => ("StretchedRowsModel", "laid", "[Z", true)
  | 15 => ("StretchedRowsModel", "lefts", "[I", true)
  | 16 => ("StretchedRowsModel", "tops", "[I", true)
  | 17 => ("StretchedRowsModel", "widths", "[I", true)
  | 18 => ("StretchedRowsModel", "heights", "[I", true)
  | 19 => ("StretchedRowsModel", "lineCounts", "[I", true)
  | 20 => ("StretchedRowsModel", "ranks", "[I", true)
  | 21 => ("StretchedRowsModel", "owns", "[I", true)
  | 22 => ("StretchedRowsModel", "kidCount", "I", false)
  | 23 => ("StretchedRowsModel", "kids", "[I", true)
  | 24 => ("StretchedRowsModel", "settled", "[Z", true)
  | 25 => ("StretchedRowsModel", "sizes", "[I", true)
  | 26 => ("StretchedRowsModel", "clamped", "[I", true)
  | _ => ("StretchedRowsModel", "trackWidths", "[I", true)
def jx_ty1 : Nat → FieldType := fun k => match k with
  | 0 => .int
  | 1 => .int
  | 2 => .int
  | 3 => (.array .boolean)
  | 4 => (.array .int)
  | 5 => (.array .int)
  | 6 => (.array .int)
  | 7 => (.array .int)
  | 8 => (.array .int)
  | 9 => (.array .int)
  | 10 => (.array .int)
  | 11 => (.array .boolean)
  | 12 => (.array .int)
  | 13 => (.array .int)
  | 14 => (.array .boolean)
  | 15 => (.array .int)
  | 16 => (.array .int)
  | 17 => (.array .int)
  | 18 => (.array .int)
  | 19 => (.array .int)
  | 20 => (.array .int)
  | 21 => (.array .int)
  | 22 => .int
  | 23 => (.array .int)
  | 24 => (.array .boolean)
  | 25 => (.array .int)
  | 26 => (.array .int)
  | _ => (.array .int)
def jx_T2 : u_T := fun k => match k with
  | 0 => ("StretchedRows$Shares", "weights", "[J", true)
  | _ => ("StretchedRows$Shares", "parts", "[I", true)
def jx_ty2 : Nat → FieldType := fun k => match k with
  | 0 => (.array .long)
  | _ => (.array .int)
def jx_T3 : u_T := fun k => match k with
  | 0 => ("StretchedRows$Node", "number", "I", true)
  | 1 => ("StretchedRows$Node", "parent", "LStretchedRows$Container;", true)
  | 2 => ("StretchedRows$Node", "depth", "I", true)
  | 3 => ("StretchedRows$Node", "numbers", "[I", true)
  | 4 => ("StretchedRows$Node", "takenAway", "Z", false)
  | 5 => ("StretchedRows$Node", "naturalWidth", "I", false)
  | 6 => ("StretchedRows$Node", "base", "I", false)
  | 7 => ("StretchedRows$Node", "hypo", "I", false)
  | 8 => ("StretchedRows$Node", "laidOut", "Z", false)
  | 9 => ("StretchedRows$Node", "left", "I", false)
  | 10 => ("StretchedRows$Node", "top", "I", false)
  | 11 => ("StretchedRows$Node", "width", "I", false)
  | _ => ("StretchedRows$Node", "height", "I", false)
def jx_ty3 : Nat → FieldType := fun k => match k with
  | 0 => .int
  | 1 => (.object "StretchedRows$Container")
  | 2 => .int
  | 3 => (.array .int)
  | 4 => .boolean
  | 5 => .int
  | 6 => .int
  | 7 => .int
  | 8 => .boolean
  | 9 => .int
  | 10 => .int
  | 11 => .int
  | _ => .int
def jx_T4 : u_T := fun k => match k with
  | 0 => ("StretchedRows$Node", "number", "I", true)
  | 1 => ("StretchedRows$Node", "parent", "LStretchedRows$Container;", true)
  | 2 => ("StretchedRows$Node", "depth", "I", true)
  | 3 => ("StretchedRows$Node", "numbers", "[I", true)
  | 4 => ("StretchedRows$Node", "takenAway", "Z", false)
  | 5 => ("StretchedRows$Node", "naturalWidth", "I", false)
  | 6 => ("StretchedRows$Node", "base", "I", false)
  | 7 => ("StretchedRows$Node", "hypo", "I", false)
  | 8 => ("StretchedRows$Node", "laidOut", "Z", false)
  | 9 => ("StretchedRows$Node", "left", "I", false)
  | 10 => ("StretchedRows$Node", "top", "I", false)
  | 11 => ("StretchedRows$Node", "width", "I", false)
  | 12 => ("StretchedRows$Node", "height", "I", false)
  | 13 => ("StretchedRows$Text", "words", "[I", true)
  | 14 => ("StretchedRows$Text", "wordCount", "I", false)
  | _ => ("StretchedRows$Text", "lineCount", "I", false)
def jx_ty4 : Nat → FieldType := fun k => match k with
  | 0 => .int
  | 1 => (.object "StretchedRows$Container")
  | 2 => .int
  | 3 => (.array .int)
  | 4 => .boolean
  | 5 => .int
  | 6 => .int
  | 7 => .int
  | 8 => .boolean
  | 9 => .int
  | 10 => .int
  | 11 => .int
  | 12 => .int
  | 13 => (.array .int)
  | 14 => .int
  | _ => .int
def jx_T5 : u_T := fun k => match k with
  | 0 => ("StretchedRows$Node", "number", "I", true)
  | 1 => ("StretchedRows$Node", "parent", "LStretchedRows$Container;", true)
  | 2 => ("StretchedRows$Node", "depth", "I", true)
  | 3 => ("StretchedRows$Node", "numbers", "[I", true)
  | 4 => ("StretchedRows$Node", "takenAway", "Z", false)
  | 5 => ("StretchedRows$Node", "naturalWidth", "I", false)
  | 6 => ("StretchedRows$Node", "base", "I", false)
  | 7 => ("StretchedRows$Node", "hypo", "I", false)
  | 8 => ("StretchedRows$Node", "laidOut", "Z", false)
  | 9 => ("StretchedRows$Node", "left", "I", false)
  | 10 => ("StretchedRows$Node", "top", "I", false)
  | 11 => ("StretchedRows$Node", "width", "I", false)
  | 12 => ("StretchedRows$Node", "height", "I", false)
  | 13 => ("StretchedRows$Container", "shown", "[LStretchedRows$Node;", true)
  | 14 => ("StretchedRows$Container", "shownCount", "I", false)
  | 15 => ("StretchedRows$Container", "laid", "[LStretchedRows$Node;", true)
  | 16 => ("StretchedRows$Container", "laidCount", "I", false)
  | 17 => ("StretchedRows$Container", "lineEnds", "[I", true)
  | 18 => ("StretchedRows$Container", "lineCount", "I", false)
  | _ => ("StretchedRows$Container", "inner", "I", false)
def jx_ty5 : Nat → FieldType := fun k => match k with
  | 0 => .int
  | 1 => (.object "StretchedRows$Container")
  | 2 => .int
  | 3 => (.array .int)
  | 4 => .boolean
  | 5 => .int
  | 6 => .int
  | 7 => .int
  | 8 => .boolean
  | 9 => .int
  | 10 => .int
  | 11 => .int
  | 12 => .int
  | 13 => (.array (.object "StretchedRows$Node"))
  | 14 => .int
  | 15 => (.array (.object "StretchedRows$Node"))
  | 16 => .int
  | 17 => (.array .int)
  | 18 => .int
  | _ => .int
def jx_T6 : u_T := fun k => match k with
  | 0 => ("StretchedRows$Node", "number", "I", true)
  | 1 => ("StretchedRows$Node", "parent", "LStretchedRows$Container;", true)
  | 2 => ("StretchedRows$Node", "depth", "I", true)
  | 3 => ("StretchedRows$Node", "numbers", "[I", true)
  | 4 => ("StretchedRows$Node", "takenAway", "Z", false)
  | 5 => ("StretchedRows$Node", "naturalWidth", "I", false)
  | 6 => ("StretchedRows$Node", "base", "I", false)
  | 7 => ("StretchedRows$Node", "hypo", "I", false)
  | 8 => ("StretchedRows$Node", "laidOut", "Z", false)
  | 9 => ("StretchedRows$Node", "left", "I", false)
  | 10 => ("StretchedRows$Node", "top", "I", false)
  | 11 => ("StretchedRows$Node", "width", "I", false)
  | 12 => ("StretchedRows$Node", "height", "I", false)
  | 13 => ("StretchedRows$Container", "shown", "[LStretchedRows$Node;", true)
  | 14 => ("StretchedRows$Container", "shownCount", "I", false)
  | 15 => ("StretchedRows$Container", "laid", "[LStretchedRows$Node;", true)
  | 16 => ("StretchedRows$Container", "laidCount", "I", false)
  | 17 => ("StretchedRows$Container", "lineEnds", "[I", true)
  | 18 => ("StretchedRows$Container", "lineCount", "I", false)
  | 19 => ("StretchedRows$Container", "inner", "I", false)
  | 20 => ("StretchedRows$Row", "shares", "LStretchedRows$Shares;", true)
  | 21 => ("StretchedRows$Row", "asked", "[I", true)
  | _ => ("StretchedRows$Row", "settled", "[Z", true)
def jx_ty6 : Nat → FieldType := fun k => match k with
  | 0 => .int
  | 1 => (.object "StretchedRows$Container")
  | 2 => .int
  | 3 => (.array .int)
  | 4 => .boolean
  | 5 => .int
  | 6 => .int
  | 7 => .int
  | 8 => .boolean
  | 9 => .int
  | 10 => .int
  | 11 => .int
  | 12 => .int
  | 13 => (.array (.object "StretchedRows$Node"))
  | 14 => .int
  | 15 => (.array (.object "StretchedRows$Node"))
  | 16 => .int
  | 17 => (.array .int)
  | 18 => .int
  | 19 => .int
  | 20 => (.object "StretchedRows$Shares")
  | 21 => (.array .int)
  | _ => (.array .boolean)
def jx_T7 : u_T := fun k => match k with
  | 0 => ("StretchedRows$Node", "number", "I", true)
  | 1 => ("StretchedRows$Node", "parent", "LStretchedRows$Container;", true)
  | 2 => ("StretchedRows$Node", "depth", "I", true)
  | 3 => ("StretchedRows$Node", "numbers", "[I", true)
  | 4 => ("StretchedRows$Node", "takenAway", "Z", false)
  | 5 => ("StretchedRows$Node", "naturalWidth", "I", false)
  | 6 => ("StretchedRows$Node", "base", "I", false)
  | 7 => ("StretchedRows$Node", "hypo", "I", false)
  | 8 => ("StretchedRows$Node", "laidOut", "Z", false)
  | 9 => ("StretchedRows$Node", "left", "I", false)
  | 10 => ("StretchedRows$Node", "top", "I", false)
  | 11 => ("StretchedRows$Node", "width", "I", false)
  | 12 => ("StretchedRows$Node", "height", "I", false)
  | 13 => ("StretchedRows$Container", "shown", "[LStretchedRows$Node;", true)
  | 14 => ("StretchedRows$Container", "shownCount", "I", false)
  | 15 => ("StretchedRows$Container", "laid", "[LStretchedRows$Node;", true)
  | 16 => ("StretchedRows$Container", "laidCount", "I", false)
  | 17 => ("StretchedRows$Container", "lineEnds", "[I", true)
  | 18 => ("StretchedRows$Container", "lineCount", "I", false)
  | 19 => ("StretchedRows$Container", "inner", "I", false)
  | 20 => ("StretchedRows$Grid", "isShare", "[Z", true)
  | 21 => ("StretchedRows$Grid", "trackNumbers", "[I", true)
  | 22 => ("StretchedRows$Grid", "trackWidths", "[I", true)
  | 23 => ("StretchedRows$Grid", "trackCount", "I", false)
  | _ => ("StretchedRows$Grid", "shares", "LStretchedRows$Shares;", true)
def jx_ty7 : Nat → FieldType := fun k => match k with
  | 0 => .int
  | 1 => (.object "StretchedRows$Container")
  | 2 => .int
  | 3 => (.array .int)
  | 4 => .boolean
  | 5 => .int
  | 6 => .int
  | 7 => .int
  | 8 => .boolean
  | 9 => .int
  | 10 => .int
  | 11 => .int
  | 12 => .int
  | 13 => (.array (.object "StretchedRows$Node"))
  | 14 => .int
  | 15 => (.array (.object "StretchedRows$Node"))
  | 16 => .int
  | 17 => (.array .int)
  | 18 => .int
  | 19 => .int
  | 20 => (.array .boolean)
  | 21 => (.array .int)
  | 22 => (.array .int)
  | 23 => .int
  | _ => (.object "StretchedRows$Shares")
def jx_cl : List vw_C := [("StretchedRows", jx_T0, 3), ("StretchedRowsModel", jx_T1, 28), ("StretchedRows$Shares", jx_T2, 2), ("StretchedRows$Box", jx_T3, 13), ("StretchedRows$Text", jx_T4, 16), ("StretchedRows$Column", jx_T5, 20), ("StretchedRows$Row", jx_T6, 23), ("StretchedRows$Grid", jx_T7, 25)]
def jx_ty (ci k : Nat) : FieldType := match ci with
  | 0 => jx_ty0 k
  | 1 => jx_ty1 k
  | 2 => jx_ty2 k
  | 3 => jx_ty3 k
  | 4 => jx_ty4 k
  | 5 => jx_ty5 k
  | 6 => jx_ty6 k
  | _ => jx_ty7 k
def jx_isr : FieldType → Bool
  | .object _ => true
  | .array _ => true
  | _ => false
def jx_rt (ci k : Nat) : Bool := jx_isr (jx_ty ci k)
theorem jx_rt_ty (ci k : Nat) : jx_rt ci k = jx_isr (jx_ty ci k) := rfl
abbrev jx_ND : String := "StretchedRows$Node"
abbrev jx_N0 : Nat := 3
abbrev jx_N1 : Nat := 7
def jx_ws : List Cond := lw_tbl.filter goodWord
theorem jx_good : ∀ w ∈ jx_ws, (w.onTables && w.keeps) = true ∨ ∃ ty, w = .arrayClass ty := fun w h => good_of_word (List.mem_filter.mp h).2
theorem jx_in {w : Cond} (i : Nat) (h : tables_1[i]? = some w) (hg : goodWord w = true) : w ∈ jx_ws := List.mem_filter.mpr ⟨List.mem_append_right _ (List.mem_of_getElem? h), hg⟩
theorem jx_word_of {w : Cond} (h : (w.onTables && w.keeps) = true ∨ ∃ ty, w = .arrayClass ty) : goodWord w = true := by
  rcases h with h | ⟨ty, rfl⟩
  · cases w <;> first | rfl | exact h
  · rfl
theorem jx_ins {ws : List Cond} (h : GoodIn tables_1 ws) : ∀ w ∈ ws, w ∈ jx_ws := fun w hw => List.mem_filter.mpr ⟨List.mem_append_right _ (h w hw).1, jx_word_of (h w hw).2⟩
theorem jx_GI {ws : List Cond} (h : ∀ w ∈ ws, w ∈ jx_ws) : GoodIn jx_ws ws := fun w hw => ⟨h w hw, jx_good w (h w hw)⟩
theorem jx_i0 : GoodIn tables_1 (u_ws "StretchedRows" jx_T0 3) := goodIn_r _ [30, 32, 34] (by decide +kernel) (by decide +kernel)
theorem jx_n0 : ∀ a, a < 3 → ∀ b, b < 3 → a ≠ b → (jx_T0 a).2.1 ≠ (jx_T0 b).2.1 := by decide +kernel
theorem jx_t0 : ∀ k, k < 3 → parseFieldDescriptor (jx_T0 k).2.2.1 = some (jx_ty 0 k) := by decide +kernel
theorem jx_i1 : GoodIn tables_1 (u_ws "StretchedRowsModel" jx_T1 28) := goodIn_r _ [869, 871, 873, 875, 877, 879, 881, 883, 885, 887, 889, 891, 893, 895, 897, 899, 901, 903, 905, 907, 909, 911, 913, 915, 917, 919, 921, 923] (by decide +kernel) (by decide +kernel)
theorem jx_n1 : ∀ a, a < 28 → ∀ b, b < 28 → a ≠ b → (jx_T1 a).2.1 ≠ (jx_T1 b).2.1 := by decide +kernel
theorem jx_t1 : ∀ k, k < 28 → parseFieldDescriptor (jx_T1 k).2.2.1 = some (jx_ty 1 k) := by decide +kernel
theorem jx_i2 : GoodIn tables_1 (u_ws "StretchedRows$Shares" jx_T2 2) := goodIn_r _ [397, 399] (by decide +kernel) (by decide +kernel)
theorem jx_n2 : ∀ a, a < 2 → ∀ b, b < 2 → a ≠ b → (jx_T2 a).2.1 ≠ (jx_T2 b).2.1 := by decide +kernel
theorem jx_t2 : ∀ k, k < 2 → parseFieldDescriptor (jx_T2 k).2.2.1 = some (jx_ty 2 k) := by decide +kernel
theorem jx_i3 : GoodIn tables_1 (u_ws "StretchedRows$Box" jx_T3 13) := goodIn_r _ [485, 486, 487, 488, 489, 490, 491, 492, 493, 494, 495, 496, 497] (by decide +kernel) (by decide +kernel)
theorem jx_n3 : ∀ a, a < 13 → ∀ b, b < 13 → a ≠ b → (jx_T3 a).2.1 ≠ (jx_T3 b).2.1 := by decide +kernel
theorem jx_t3 : ∀ k, k < 13 → parseFieldDescriptor (jx_T3 k).2.2.1 = some (jx_ty 3 k) := by decide +kernel
theorem jx_i4 : GoodIn tables_1 (u_ws "StretchedRows$Text" jx_T4 16) := goodIn_r _ [269, 271, 273, 275, 277, 279, 281, 283, 285, 287, 289, 291, 293, 263, 265, 267] (by decide +kernel) (by decide +kernel)
theorem jx_n4 : ∀ a, a < 16 → ∀ b, b < 16 → a ≠ b → (jx_T4 a).2.1 ≠ (jx_T4 b).2.1 := by decide +kernel
theorem jx_t4 : ∀ k, k < 16 → parseFieldDescriptor (jx_T4 k).2.2.1 = some (jx_ty 4 k) := by decide +kernel
theorem jx_i5 : GoodIn tables_1 (u_ws "StretchedRows$Column" jx_T5 20) := goodIn_r _ [365, 366, 367, 368, 369, 370, 371, 372, 373, 374, 375, 376, 377, 351, 353, 355, 357, 359, 361, 363] (by decide +kernel) (by decide +kernel)
theorem jx_n5 : ∀ a, a < 20 → ∀ b, b < 20 → a ≠ b → (jx_T5 a).2.1 ≠ (jx_T5 b).2.1 := by decide +kernel
theorem jx_t5 : ∀ k, k < 20 → parseFieldDescriptor (jx_T5 k).2.2.1 = some (jx_ty 5 k) := by decide +kernel
theorem jx_i6 : GoodIn tables_1 (u_ws "StretchedRows$Row" jx_T6 23) := goodIn_r _ [419, 420, 421, 422, 423, 424, 425, 426, 427, 428, 429, 430, 431, 412, 413, 414, 415, 416, 417, 418, 406, 408, 410] (by decide +kernel) (by decide +kernel)
theorem jx_n6 : ∀ a, a < 23 → ∀ b, b < 23 → a ≠ b → (jx_T6 a).2.1 ≠ (jx_T6 b).2.1 := by decide +kernel
theorem jx_t6 : ∀ k, k < 23 → parseFieldDescriptor (jx_T6 k).2.2.1 = some (jx_ty 6 k) := by decide +kernel
theorem jx_i7 : GoodIn tables_1 (u_ws "StretchedRows$Grid" jx_T7 25) := goodIn_r _ [465, 466, 467, 468, 469, 470, 471, 472, 473, 474, 475, 476, 477, 458, 459, 460, 461, 462, 463, 464, 448, 450, 452, 454, 456] (by decide +kernel) (by decide +kernel)
theorem jx_n7 : ∀ a, a < 25 → ∀ b, b < 25 → a ≠ b → (jx_T7 a).2.1 ≠ (jx_T7 b).2.1 := by decide +kernel
theorem jx_t7 : ∀ k, k < 25 → parseFieldDescriptor (jx_T7 k).2.2.1 = some (jx_ty 7 k) := by decide +kernel
theorem jx_ct {ci : Nat} {C : String} {T : u_T} {N : Nat} (h : jx_cl[ci]? = some (C, T, N)) : (∀ w ∈ u_ws C T N, w ∈ jx_ws) ∧ (∀ k, k < N → parseFieldDescriptor (T k).2.2.1 = some (jx_ty ci k)) ∧ (∀ a, a < N → ∀ b, b < N → a ≠ b → (T a).2.1 ≠ (T b).2.1) := by
  match ci, h with
  | 0, h => cases h; exact ⟨jx_ins jx_i0, jx_t0, jx_n0⟩
  | 1, h => cases h; exact ⟨jx_ins jx_i1, jx_t1, jx_n1⟩
  | 2, h => cases h; exact ⟨jx_ins jx_i2, jx_t2, jx_n2⟩
  | 3, h => cases h; exact ⟨jx_ins jx_i3, jx_t3, jx_n3⟩
  | 4, h => cases h; exact ⟨jx_ins jx_i4, jx_t4, jx_n4⟩
  | 5, h => cases h; exact ⟨jx_ins jx_i5, jx_t5, jx_n5⟩
  | 6, h => cases h; exact ⟨jx_ins jx_i6, jx_t6, jx_n6⟩
  | 7, h => cases h; exact ⟨jx_ins jx_i7, jx_t7, jx_n7⟩
  | n + 8, h => cases h
theorem jx_dv : ∀ ci, ci < 8 → ∀ k, k < 28 → defaultValue (jx_ty ci k) = if jx_rt ci k = true then va_rf none else .int 0 := by decide +kernel
theorem jx_bd {ci : Nat} {C : String} {T : u_T} {N : Nat} (h : jx_cl[ci]? = some (C, T, N)) : ci < 8 ∧ N ≤ 28 := by
  match ci, h with
  | 0, h => cases h; exact ⟨by decide, by decide⟩
  | 1, h => cases h; exact ⟨by decide, by decide⟩
  | 2, h => cases h; exact ⟨by decide, by decide⟩
  | 3, h => cases h; exact ⟨by decide, by decide⟩
  | 4, h => cases h; exact ⟨by decide, by decide⟩
  | 5, h => cases h; exact ⟨by decide, by decide⟩
  | 6, h => cases h; exact ⟨by decide, by decide⟩
  | 7, h => cases h; exact ⟨by decide, by decide⟩
  | n + 8, h => cases h
def jx_wM : List (String × Nat × MethodName × String) := [("StretchedRows$Column", 55, ⟨"StretchedRows", "shiftWithin", "(II)I"⟩, "StretchedRows"), ("StretchedRows$Row", 127, ⟨"StretchedRows", "shiftWithin", "(II)I"⟩, "StretchedRows"), ("StretchedRows$Container", 74, ⟨"StretchedRows", "shiftWithin", "(II)I"⟩, "StretchedRows")]
def jx_wF : List (String × Nat × String × String × String × String) := [("StretchedRows$Node", 22, "StretchedRows", "AT_FIRST", "[I", "StretchedRows")]
def jx_wC : List (String × String) := [("java/lang/IllegalArgumentException", "java/lang/IllegalArgumentException"), ("java/lang/IllegalStateException", "java/lang/IllegalStateException"), ("[I", "java/lang/Cloneable"), ("StretchedRows$Column", "StretchedRows$Container"), ("StretchedRows$Grid", "StretchedRows$Container"), ("StretchedRows$Row", "StretchedRows$Container"), ("StretchedRows$Text", "StretchedRows$Text"), ("StretchedRows$Grid", "StretchedRows$Grid"), ("StretchedRows$Box", "StretchedRows$Node"), ("StretchedRows$Column", "StretchedRows$Node"), ("StretchedRows$Grid", "StretchedRows$Node"), ("StretchedRows$Row", "StretchedRows$Node"), ("StretchedRows$Text", "StretchedRows$Node")]
def jx_wD : List MethodName := [⟨"java/lang/RuntimeException", "<init>", "()V"⟩, ⟨"java/lang/RuntimeException", "<init>", "(Ljava/lang/String;)V"⟩, ⟨"java/lang/Exception", "<init>", "()V"⟩, ⟨"java/lang/Exception", "<init>", "(Ljava/lang/String;)V"⟩, ⟨"java/lang/Throwable", "<init>", "()V"⟩, ⟨"java/lang/Throwable", "<init>", "(Ljava/lang/String;)V"⟩, ⟨"StretchedRows$Node", "findNaturalWidth", "()I"⟩, ⟨"StretchedRows$Container", "findNaturalInside", "()I"⟩, ⟨"StretchedRows$Container", "gapsAmong", "(I)I"⟩, ⟨"StretchedRows$Container", "breakLines", "()V"⟩, ⟨"StretchedRows$Container", "putInLine", "(IZ)V"⟩, ⟨"StretchedRows$Container", "spreadChildren", "()V"⟩, ⟨"StretchedRows$Node", "stack", "()V"⟩]
def jx_wS : List (Nat × String) := [(28, "no such kind"), (37, "no such parent"), (46, "no room for a node"), (60, "no such node"), (74, "no such number"), (83, "the number is out of its range"), (90, "the width is out of its range"), (95, "no room for a word"), (101, "no such text"), (108, "no room for a track"), (114, "no such grid"), (120, "nothing to lay out"), (159, "the node is not laid out"), (161, "no such measure")]
def jx_wN : List (String × String) := [("StretchedRows", "java/lang/IllegalArgumentException"), ("StretchedRowsModel", "java/lang/IllegalArgumentException"), ("java/lang/IllegalStateException", "java/lang/IllegalArgumentException"), ("StretchedRows$Text", "java/lang/IllegalArgumentException"), ("StretchedRows$Column", "java/lang/IllegalArgumentException"), ("StretchedRows$Row", "java/lang/IllegalArgumentException"), ("StretchedRows$Shares", "java/lang/IllegalArgumentException"), ("StretchedRows$Grid", "java/lang/IllegalArgumentException"), ("StretchedRows$Box", "java/lang/IllegalArgumentException"), ("StretchedRows", "java/lang/IllegalStateException"), ("StretchedRowsModel", "java/lang/IllegalStateException"), ("java/lang/IllegalArgumentException", "java/lang/IllegalStateException"), ("StretchedRows$Text", "java/lang/IllegalStateException"), ("StretchedRows$Column", "java/lang/IllegalStateException"), ("StretchedRows$Row", "java/lang/IllegalStateException"), ("StretchedRows$Shares", "java/lang/IllegalStateException"), ("StretchedRows$Grid", "java/lang/IllegalStateException"), ("StretchedRows$Box", "java/lang/IllegalStateException"), ("StretchedRows", "StretchedRows$Container"), ("StretchedRowsModel", "StretchedRows$Container"), ("java/lang/IllegalArgumentException", "StretchedRows$Container"), ("java/lang/IllegalStateException", "StretchedRows$Container"), ("StretchedRows$Text", "StretchedRows$Container"), ("StretchedRows$Shares", "StretchedRows$Container"), ("StretchedRows$Box", "StretchedRows$Container"), ("StretchedRows", "StretchedRows$Text"), ("StretchedRowsModel", "StretchedRows$Text"), ("java/lang/IllegalArgumentException", "StretchedRows$Text"), ("java/lang/IllegalStateException", "StretchedRows$Text"), ("StretchedRows$Column", "StretchedRows$Text"), ("StretchedRows$Row", "StretchedRows$Text"), ("StretchedRows$Shares", "StretchedRows$Text"), ("StretchedRows$Grid", "StretchedRows$Text"), ("StretchedRows$Box", "StretchedRows$Text"), ("StretchedRows", "StretchedRows$Grid"), ("StretchedRowsModel", "StretchedRows$Grid"), ("java/lang/IllegalArgumentException", "StretchedRows$Grid"), ("java/lang/IllegalStateException", "StretchedRows$Grid"), ("StretchedRows$Text", "StretchedRows$Grid"), ("StretchedRows$Column", "StretchedRows$Grid"), ("StretchedRows$Row", "StretchedRows$Grid"), ("StretchedRows$Shares", "StretchedRows$Grid"), ("StretchedRows$Box", "StretchedRows$Grid")]
abbrev jx_G : Type := Launch × va_G × Nat × (Nat → Nat)
/-- what the launch gives, at a state U whose heap is H; B is where ours begins -/
def jx_Ga (g : jx_G) (U : State) (H : Heap) : Prop :=
  va_K g.2.1 jx_cl [] U ∧ va_AO jx_ND U ∧ (∀ q ∈ jx_wM, va_Nw (.methodLinkNest q.1 q.2.1 q.2.2.1 q.2.2.2) U) ∧ (∀ q ∈ jx_wF, va_Nw (.fieldLinkNest q.1 q.2.1 q.2.2.1 q.2.2.2.1 q.2.2.2.2.1 q.2.2.2.2.2) U) ∧ (∀ q ∈ jx_wC, va_Nw (.castable q.1 q.2) U) ∧ (∀ q ∈ jx_wD, va_Nw (.declares q) U) ∧
  (∀ q ∈ jx_wN, va_Nc q.1 q.2 U) ∧ (∀ q ∈ jx_wS, vk_R "StretchedRows" q.1 q.2 (g.2.2.2 q.1) U) ∧
  va_Z "StretchedRows" "LOWEST" "[I" (.ref (g.2.2.2 1000)) (fun q => g.2.2.1 ≤ q) U H ∧ va_Z "StretchedRows" "HIGHEST" "[I" (.ref (g.2.2.2 1001)) (fun q => g.2.2.1 ≤ q) U H ∧ va_Z "StretchedRows" "AT_FIRST" "[I" (.ref (g.2.2.2 1002)) (fun q => g.2.2.1 ≤ q) U H ∧
  vx_Zq Bundle.tN "UNASSIGNED_STACK" Bundle.steD (fun q => g.2.2.1 ≤ q) U H ∧ vx_Zq Bundle.tN "SUPPRESSED_SENTINEL" Bundle.listD (fun q => g.2.2.1 ≤ q) U H ∧ g.1.stackTraces = false
theorem jx_Ga_K {g : jx_G} {U : State} {H : Heap} (h : jx_Ga g U H) : va_K g.2.1 jx_cl [] U := h.1
theorem jx_Ga_AO {g : jx_G} {U : State} {H : Heap} (h : jx_Ga g U H) : va_AO jx_ND U := h.2.1
theorem jx_Ga_warm {g : jx_G} {s U : State} {H H1 : Heap} (hW : s.WarmedH U.vm) (hq : ∀ a : Nat, a < H.size → ¬ g.2.2.1 ≤ a → H1[a]? = H[a]?) (h : jx_Ga g s H) : jx_Ga g U H1 := by
  obtain ⟨a1, a2, a3, a4, a5, a6, a7, a8, a9, a10, a11, a12, a13, a14⟩ := h
  exact ⟨va_K.moved hW.alike a1, va_AO.moved hW.alike a2, fun q hq => va_Nw.warmM hW (a3 q hq), fun q hq => va_Nw.warmF hW (a4 q hq), fun q hq => va_Nw.warmC hW (a5 q hq), fun q hq => va_Nw.warmD hW (a6 q hq),
    fun q hq => va_Nc.moved hW.alike (a7 q hq), fun q hq => vk_R.warm hW (a8 q hq), va_Z.moved hW.alike (a9.kept hq), va_Z.moved hW.alike (a10.kept hq), va_Z.moved hW.alike (a11.kept hq), vx_Zq.moved hW.alike (a12.kept hq), vx_Zq.moved hW.alike (a13.kept hq), a14⟩
def jx_rv : Value → Option Nat
  | .ref a => some a
  | _ => none
theorem jx_rv_rf {o : Option Nat} : jx_rv (va_rf o) = o := by cases o <;> rfl
theorem jx_rv_r {a : Nat} : jx_rv (.ref a) = some a := rfl
theorem jx_rv_n : jx_rv .null = none := rfl
theorem jx_nar_rf {ty : FieldType} {o : Option Nat} (h : jx_isr ty = true) : narrow ty (va_rf o) = va_rf o := by
  cases ty <;> first | (cases h; done) | (cases o <;> rfl)
theorem jx_fit_rf {ty : FieldType} {o : Option Nat} (h : jx_isr ty = true) : fits ty (va_rf o) = true := by
  cases ty <;> first | (cases h; done) | (cases o <;> rfl)
theorem jx_castw {ci : Nat} (h1 : jx_N0 ≤ ci) (h2 : ci ≤ jx_N1) {r : vw_C} (hr : jx_cl[ci]? = some r) : (r.1, jx_ND) ∈ jx_wC := by
  rcases (show ci = 3 ∨ ci = 4 ∨ ci = 5 ∨ ci = 6 ∨ ci = 7 by unfold jx_N0 at h1; unfold jx_N1 at h2; omega) with rfl | rfl | rfl | rfl | rfl <;> (cases hr; decide +kernel)
end
section
/-! The core: a typed memory, a judgement over it, and one row an instruction. -/
abbrev jx_K : Type := Nat ⊕ (FieldType × Nat × Bool)
abbrev jx_M : Type := Nat × (Nat → Option jx_K) × (Nat → Nat → Int32) × (Nat → Nat → Int64) × (Nat → Nat → Option Nat)
def jx_sz (μ : jx_M) : Nat := μ.1
def jx_kn (μ : jx_M) : Nat → Option jx_K := μ.2.1
def jx_vi (μ : jx_M) : Nat → Nat → Int32 := μ.2.2.1
def jx_vl (μ : jx_M) : Nat → Nat → Int64 := μ.2.2.2.1
def jx_vr (μ : jx_M) : Nat → Nat → Option Nat := μ.2.2.2.2
def jx_ln (μ : jx_M) (a : Nat) : Int32 := match jx_kn μ a with
  | some (.inr (_, n, _)) => nI n
  | _ => 0
def jx_u2 {α : Type} (f : Nat → Nat → α) (a k : Nat) (v : α) : Nat → Nat → α := fun a' k' => if a' = a ∧ k' = k then v else f a' k'
def jx_si (μ : jx_M) (a k : Nat) (v : Int32) : jx_M := (jx_sz μ, jx_kn μ, jx_u2 (jx_vi μ) a k v, jx_vl μ, jx_vr μ)
def jx_sl (μ : jx_M) (a k : Nat) (v : Int64) : jx_M := (jx_sz μ, jx_kn μ, jx_vi μ, jx_u2 (jx_vl μ) a k v, jx_vr μ)
def jx_sr (μ : jx_M) (a k : Nat) (v : Option Nat) : jx_M := (jx_sz μ, jx_kn μ, jx_vi μ, jx_vl μ, jx_u2 (jx_vr μ) a k v)
/-- a new cell of kind k at the end, all zero -/
def jx_nw (μ : jx_M) (k : jx_K) : jx_M := (jx_sz μ + 1, (fun a => if a = jx_sz μ then some k else jx_kn μ a), (fun a j => if a = jx_sz μ then 0 else jx_vi μ a j), (fun a j => if a = jx_sz μ then 0 else jx_vl μ a j), (fun a j => if a = jx_sz μ then none else jx_vr μ a j))
/-- a field's value, by the table of reference fields -/
def jx_V (μ : jx_M) (a ci k : Nat) : Value := if jx_rt ci k = true then va_rf (jx_vr μ a k) else .int (jx_vi μ a k)
def jx_el (ty : FieldType) (μ : jx_M) (a j : Nat) : Value := match ty with
  | .long => .long (jx_vl μ a j)
  | .object _ => va_rf (jx_vr μ a j)
  | _ => .int (jx_vi μ a j)
def jx_RA (U : State) (cA : ClassId) (ty : FieldType) : Prop := match ty with
  | .object C => ∃ (kA : Class) (comp : ClassId), U.vm.classes[cA]? = some kA ∧ kA.kind = .array comp (.object C) ∧ U.vm.findClass C = some comp
  | _ => True
def jx_at (g : jx_G) (U : State) (μ : jx_M) (H : Heap) (a : Nat) (k : jx_K) : Prop := match k with
  | .inl ci => g.2.2.1 ≤ a ∧ ∃ r : vw_C, jx_cl[ci]? = some r ∧ t_OB a (g.2.1.1 ci) r.2.2 (g.2.1.2 ci) H (jx_V μ a ci)
  | .inr (ty, n, b) => (b = true → g.2.2.1 ≤ a) ∧ n < 2 ^ 31 ∧ ∃ cell : Cell, H[a]? = some cell ∧ U.isArrayOf cell ty ∧ cell.vm ≠ .unknown ∧ jx_RA U cell.cls ty ∧ cell.slots.size = n ∧ ∀ j, j < n → cell.slots[j]? = some (jx_el ty μ a j)
def jx_H (g : jx_G) (U : State) (H : Heap) (μ : jx_M) : Prop := g.2.2.1 ≤ H.size ∧ H.size = jx_sz μ ∧ ∀ a k, jx_kn μ a = some k → jx_at g U μ H a k
theorem jx_RA_moved {u U : State} (hvm : u.vm.Alike U.vm) {cA : ClassId} {ty : FieldType} (h : jx_RA u cA ty) : jx_RA U cA ty := by
  cases ty with
  | object C =>
    obtain ⟨kA, comp, h1, h2, h3⟩ := h
    obtain ⟨k', hk', he⟩ := hvm.2.2 _ _ h1
    exact ⟨k', comp, hk', by rw [he]; exact h2, by rw [hvm.findClass]; exact h3⟩
  | _ => trivial
theorem jx_at_moved {g : jx_G} {u U : State} {μ : jx_M} {H : Heap} {a : Nat} {k : jx_K} (hvm : u.vm.Alike U.vm) (h : jx_at g u μ H a k) : jx_at g U μ H a k := by
  cases k with
  | inl ci => exact h
  | inr x =>
    obtain ⟨ty, n, b⟩ := x
    obtain ⟨h1, h2, cell, h3, h4, h5, h6, h7⟩ := h
    exact ⟨h1, h2, cell, h3, State.isArrayOf_alike hvm h4, h5, jx_RA_moved hvm h6, h7⟩
theorem jx_H_moved {g : jx_G} {u U : State} {μ : jx_M} {H : Heap} (hvm : u.vm.Alike U.vm) (h : jx_H g u H μ) : jx_H g U H μ := ⟨h.1, h.2.1, fun a k hk => jx_at_moved hvm (h.2.2 a k hk)⟩
theorem jx_at_lt {g : jx_G} {U : State} {μ : jx_M} {H : Heap} {a : Nat} {k : jx_K} (h : jx_at g U μ H a k) : a < H.size := by
  cases k with
  | inl ci =>
    obtain ⟨-, r, -, cell, h2, -⟩ := h
    exact (Array.getElem?_eq_some_iff.mp h2).1
  | inr x =>
    obtain ⟨ty, n, b⟩ := x
    obtain ⟨h1, h2, cell, h3, -⟩ := h
    exact (Array.getElem?_eq_some_iff.mp h3).1
theorem jx_at_kept {g : jx_G} {U : State} {μ μ' : jx_M} {H H' : Heap} {a : Nat} {k : jx_K} (h : jx_at g U μ H a k) (hq : H'[a]? = H[a]?) (hi : ∀ j, jx_vi μ' a j = jx_vi μ a j) (hl : ∀ j, jx_vl μ' a j = jx_vl μ a j) (hr : ∀ j, jx_vr μ' a j = jx_vr μ a j) : jx_at g U μ' H' a k := by
  cases k with
  | inl ci =>
    obtain ⟨h0, r, h1, h2⟩ := h
    refine ⟨h0, r, h1, ?_⟩
    have e : jx_V μ' a ci = jx_V μ a ci := by
      funext j
      simp only [jx_V, hi, hr]
    rw [e]
    exact h2.kept hq
  | inr x =>
    obtain ⟨ty, n, b⟩ := x
    obtain ⟨h1, h2, cell, h3, h4, h5, h6, h7, h8⟩ := h
    refine ⟨h1, h2, cell, hq.trans h3, h4, h5, h6, h7, fun j hj => ?_⟩
    rw [h8 j hj]
    cases ty <;> simp only [jx_el, hi, hl, hr]

/-! states and judgement -/
abbrev jx_S : Type := List (Nat × Value) × List Value × jx_M × Nat × Nat
abbrev jx_tr : Type := jx_S → (jx_S → Prop) → Prop
abbrev jx_Kt : Type := (Option Value ⊕ String) → jx_M → Prop
def jx_lq : List (Nat × Value) → Nat → Option Value
  | [], _ => none
  | (j, v) :: r, i => if j = i then some v else jx_lq r i
def jx_lk (lv : List (Nat × Value)) (i : Nat) : Value := (jx_lq lv i).getD .null
theorem jx_lq_e {j i : Nat} {v : Value} {r : List (Nat × Value)} : jx_lq ((j, v) :: r) i = if j = i then some v else jx_lq r i := rfl
theorem jx_lk_e {j i : Nat} {v : Value} {r : List (Nat × Value)} : jx_lk ((j, v) :: r) i = if j = i then v else jx_lk r i := by
  unfold jx_lk
  rw [jx_lq_e]
  by_cases h : j = i
  · rw [if_pos h, if_pos h]; rfl
  · rw [if_neg h, if_neg h]
def jx_L (ls : Array Slot) (n : Nat) (lv : List (Nat × Value)) : Prop := ls.size = n ∧ lv_wf ls ∧ ∀ i v, jx_lq lv i = some v → ls[i]? = some (.val v)
def jx_all (n : Nat) (lv : List (Nat × Value)) : List (Nat × Value) := (List.range n).filterMap (fun j => (jx_lq lv j).map fun v => (j, v))
theorem jx_all_mem {ls : Array Slot} {n : Nat} {lv : List (Nat × Value)} (h : jx_L ls n lv) {j : Nat} {v : Value} (hj : jx_lq lv j = some v) : (j, v) ∈ jx_all n lv := by
  have h1 := h.2.2 j v hj
  have h2 : j < n := by rw [← h.1]; exact (Array.getElem?_eq_some_iff.mp h1).1
  exact List.mem_filterMap.mpr ⟨j, List.mem_range.mpr h2, by rw [hj]; rfl⟩
theorem jx_all_has {ls : Array Slot} {n : Nat} {lv : List (Nat × Value)} (h : jx_L ls n lv) : lv_has ls n (jx_all n lv) := by
  refine ⟨h.1, h.2.1, fun q hq => ?_⟩
  obtain ⟨j, -, hj⟩ := List.mem_filterMap.mp hq
  cases e : jx_lq lv j with
  | none => rw [e] at hj; cases hj
  | some v =>
    rw [e] at hj
    cases hj
    exact h.2.2 j v e
def jx_nc (lv : List (Nat × Value)) (i : Nat) : Prop := (jx_lk lv (i - 1)).category = 1
theorem jx_L_store {ls ls' : Array Slot} {n i : Nat} {x : Value} {lv : List (Nat × Value)} (h : jx_L ls n lv) (hnc : jx_nc lv i) (h' : lv_has ls' n ((i, x) :: (jx_all n lv).filter (fun q => !(q.1 == i) && !(q.1 + 1 == i && q.2.category == 2)))) : jx_L ls' n ((i, x) :: lv) := by
  refine ⟨h'.1, h'.2.1, fun j v hj => ?_⟩
  by_cases e : i = j
  · subst e
    rw [jx_lq_e, if_pos rfl] at hj
    cases hj
    exact h'.2.2 _ List.mem_cons_self
  · rw [jx_lq_e, if_neg e] at hj
    refine h'.2.2 (j, v) (List.mem_cons_of_mem _ (List.mem_filter.mpr ⟨jx_all_mem h hj, ?_⟩))
    have e1 : (j == i) = false := by simpa using (fun q : j = i => e q.symm)
    have e2 : (j + 1 == i && v.category == 2) = false := by
      by_cases q : j + 1 = i
      · have q2 : jx_lk lv (i - 1) = v := by
          unfold jx_lk
          rw [show i - 1 = j by omega, hj]; rfl
        unfold jx_nc at hnc
        rw [q2] at hnc
        simp [hnc]
      · simp [q]
    show (!(j == i) && !(j + 1 == i && v.category == 2)) = true
    rw [e1, e2]; rfl
theorem jx_L_lstore {ls ls' : Array Slot} {n i : Nat} {x : Value} {lv : List (Nat × Value)} (h : jx_L ls n lv) (hnc : jx_nc lv i) (hn2 : jx_lq lv (i + 1) = none) (h' : lv_has ls' n ((i, x) :: (jx_all n lv).filter (fun q => !(q.1 == i) && (!(q.1 == i + 1) && !(q.1 + 1 == i && q.2.category == 2))))) : jx_L ls' n ((i, x) :: lv) := by
  refine ⟨h'.1, h'.2.1, fun j v hj => ?_⟩
  by_cases e : i = j
  · subst e
    rw [jx_lq_e, if_pos rfl] at hj
    cases hj
    exact h'.2.2 _ List.mem_cons_self
  · rw [jx_lq_e, if_neg e] at hj
    refine h'.2.2 (j, v) (List.mem_cons_of_mem _ (List.mem_filter.mpr ⟨jx_all_mem h hj, ?_⟩))
    have e1 : (j == i) = false := by simpa using (fun q : j = i => e q.symm)
    have e3 : (j == i + 1) = false := by
      by_cases q : j = i + 1
      · subst q; rw [hn2] at hj; cases hj
      · simpa using q
    have e2 : (j + 1 == i && v.category == 2) = false := by
      by_cases q : j + 1 = i
      · have q2 : jx_lk lv (i - 1) = v := by
          unfold jx_lk
          rw [show i - 1 = j by omega, hj]; rfl
        unfold jx_nc at hnc
        rw [q2] at hnc
        simp [hnc]
      · simp [q]
    show (!(j == i) && (!(j == i + 1) && !(j + 1 == i && v.category == 2))) = true
    rw [e1, e2, e3]; rfl
abbrev jx_me : Type := String × ByteArray × Nat × Option FieldType × (Nat × Nat) × Bool × List ExceptionTableEntry
abbrev jx_ow (me : jx_me) : String := me.1
abbrev jx_cc (me : jx_me) : ByteArray := me.2.1
abbrev jx_ml (me : jx_me) : Nat := me.2.2.1
abbrev jx_re (me : jx_me) : Option FieldType := me.2.2.2.1
abbrev jx_ht (me : jx_me) : Nat × Nat := me.2.2.2.2.1
abbrev jx_ini (me : jx_me) : Bool := me.2.2.2.2.2.1
abbrev jx_tb (me : jx_me) : List ExceptionTableEntry := me.2.2.2.2.2.2
def jx_Qc (g : jx_G) (K : jx_Kt) : Array Value → State → Outcome → State → Prop := fun _ st o t => ∃ (v : Option Value) (μ : jx_M), o = .returned v ∧ K (.inl v) μ ∧ jx_H g t t.heap μ ∧ va_F (fun q => g.2.2.1 ≤ q) st t
def jx_Xc (g : jx_G) (K : jx_Kt) : String → State → State → Prop := fun E st t => ∃ μ : jx_M, K (.inr E) μ ∧ jx_H g t t.heap μ ∧ va_F (fun q => g.2.2.1 ≤ q) st t
def jx_C (g : jx_G) (me : jx_me) (p : Program) (R : Room) (s : State) (m : MethodId) (args : Array Value) (meth : Method) (c : Code) : Prop :=
  p.tables.exec = Jvm.exec ∧ c.code = jx_cc me ∧ c.maxLocals = jx_ml me ∧ s.vm.findClass (jx_ow me) = some m.cls ∧ meth.sig.returnType = jx_re me ∧ meth.locks = false ∧ (jx_ini me = true → meth.name = "<init>") ∧ c.exceptionTable.toList = jx_tb me ∧
  (∀ w ∈ jx_ws, w.before args s = true) ∧ jx_Ga g s s.heap ∧ g.2.2.1 ≤ s.heap.size ∧ (jx_ht me).1 ≤ R.frames ∧ (jx_ht me).2 ≤ R.locals
def jx_J (g : jx_G) (me : jx_me) (pc : Nat) (σ : jx_S) (K : jx_Kt) : Prop :=
  ∀ (p : Program) (e : Env) (R : Room) (s : State) (m : MethodId) (args : Array Value) (below : List Frame) (meth : Method) (c : Code) (H : Heap) (locs : List Loc) (cells slots : Nat) (ls : Array Slot) (mc ms : Nat),
    jx_C g me p R s m args meth c → jx_H g s H σ.2.2.1 → va_S (fun q => g.2.2.1 ≤ q) s.heap H locs → jx_L ls (jx_ml me) σ.1 → cells + σ.2.2.2.1 ≤ mc → slots + σ.2.2.2.2 ≤ ms → mc ≤ R.cells → ms ≤ R.slots →
    W p g.1 e R s m args below meth c H locs cells slots (vx_MQ below (jx_Qc g K) (jx_Xc g K) args s mc ms (fun q => g.2.2.1 ≤ q)) (F0 m pc ls σ.2.1)
/-- a row is sound: from pc to pc' -/
def jx_So (g : jx_G) (me : jx_me) (pc pc' : Nat) (t : jx_tr) : Prop := ∀ (K : jx_Kt) (P : jx_S → Prop) (σ : jx_S), (∀ σ' : jx_S, P σ' → jx_J g me pc' σ' K) → t σ P → jx_J g me pc σ K
def jx_sq (t u : jx_tr) : jx_tr := fun σ P => t σ (fun σ' => u σ' P)
theorem jx_sq_e {t u : jx_tr} {σ : jx_S} {P : jx_S → Prop} : jx_sq t u σ P = t σ (fun σ' => u σ' P) := rfl
theorem jx_So.c {g : jx_G} {me : jx_me} {a b d : Nat} {t u : jx_tr} (h1 : jx_So g me a b t) (h2 : jx_So g me b d u) : jx_So g me a d (jx_sq t u) :=
  fun K P σ hP ht => h1 K (fun σ' => u σ' P) σ (fun σ' h => h2 K P σ' hP h) ht
/-- a stretch of rows, then the rest -/
theorem jx_So.go {g : jx_G} {me : jx_me} {a b : Nat} {t : jx_tr} (h : jx_So g me a b t) {K : jx_Kt} {σ : jx_S} (k : t σ (fun σ' => jx_J g me b σ' K)) : jx_J g me a σ K := h K _ σ (fun _ h => h) k
def jx_iv : Value → Int32
  | .int v => v
  | _ => 0
def jx_lv : Value → Int64
  | .long v => v
  | _ => 0
def jx_ad : Value → Nat
  | .ref a => a
  | _ => 0
def jx_i (x : Value) : Prop := ∃ v, x = .int v
def jx_l (x : Value) : Prop := ∃ v, x = .long v
def jx_r (x : Value) : Prop := ∃ v, x = .ref v
def jx_a (x : Value) : Prop := x = .null ∨ ∃ v, x = .ref v
def jx_c1 (x : Value) : Prop := x.category = 1
theorem jx_iv_e {v : Int32} : jx_iv (.int v) = v := rfl
theorem jx_lv_e {v : Int64} : jx_lv (.long v) = v := rfl
theorem jx_ad_e {v : Nat} : jx_ad (.ref v) = v := rfl
theorem jx_i_e {v : Int32} : jx_i (.int v) = True := eq_true ⟨v, rfl⟩
theorem jx_l_e {v : Int64} : jx_l (.long v) = True := eq_true ⟨v, rfl⟩
theorem jx_r_e {v : Nat} : jx_r (.ref v) = True := eq_true ⟨v, rfl⟩
theorem jx_a_e {v : Nat} : jx_a (.ref v) = True := eq_true (Or.inr ⟨v, rfl⟩)
theorem jx_a_n : jx_a .null = True := eq_true (Or.inl rfl)
theorem jx_a_rf {o : Option Nat} : jx_a (va_rf o) = True := by
  cases o with
  | none => exact jx_a_n
  | some a => exact jx_a_e
theorem jx_rf_s {a : Nat} : va_rf (some a) = .ref a := rfl
theorem jx_rf_n : va_rf none = .null := rfl
theorem jx_c1_i {v : Int32} : jx_c1 (.int v) = True := eq_true rfl
theorem jx_c1_r {v : Nat} : jx_c1 (.ref v) = True := eq_true rfl
theorem jx_c1_n : jx_c1 .null = True := eq_true rfl
theorem jx_c1_rf {o : Option Nat} : jx_c1 (va_rf o) = True := by
  cases o <;> exact eq_true rfl
theorem jx_nc_e {lv : List (Nat × Value)} {i : Nat} : jx_nc lv i = jx_c1 (jx_lk lv (i - 1)) := rfl

def jt_iadd : jx_tr := fun σ P => match σ with
  | (lv, y :: x :: st, μ, b) => jx_i x ∧ jx_i y ∧ P (lv, .int (jx_iv x + jx_iv y) :: st, μ, b)
  | _ => False
theorem jt_iadd_e {y x : Value} {lv : List (Nat × Value)} {st : List Value} {μ : jx_M} {b : Nat × Nat} {P : jx_S → Prop} : jt_iadd (lv, y :: x :: st, μ, b) P = (jx_i x ∧ jx_i y ∧ P (lv, .int (jx_iv x + jx_iv y) :: st, μ, b)) := rfl
theorem js_iadd {g : jx_G} {me : jx_me} {pc : Nat} (hd : decode (jx_cc me) pc = .ok (.iadd, 1)) : jx_So g me pc (pc + 1) (jt_iadd) := by
  intro K P σ hP ht
  obtain ⟨lv, st, μ, b⟩ := σ
  rcases st with _ | ⟨y, _ | ⟨x, st⟩⟩
  · exact False.elim ht
  · exact False.elim ht
  · obtain ⟨⟨x, rfl⟩, ⟨y, rfl⟩, ht⟩ := ht
    intro p e R s m args below meth c H locs cells slots ls mc ms hC hH hS hl h1 h2 h3 h4
    exact lv_iadd hC.1 hC.2.1 hd (hP _ ht p e R s m args below meth c H locs cells slots ls mc ms hC hH hS hl h1 h2 h3 h4)
def jt_isub : jx_tr := fun σ P => match σ with
  | (lv, y :: x :: st, μ, b) => jx_i x ∧ jx_i y ∧ P (lv, .int (jx_iv x - jx_iv y) :: st, μ, b)
  | _ => False
theorem jt_isub_e {y x : Value} {lv : List (Nat × Value)} {st : List Value} {μ : jx_M} {b : Nat × Nat} {P : jx_S → Prop} : jt_isub (lv, y :: x :: st, μ, b) P = (jx_i x ∧ jx_i y ∧ P (lv, .int (jx_iv x - jx_iv y) :: st, μ, b)) := rfl
theorem js_isub {g : jx_G} {me : jx_me} {pc : Nat} (hd : decode (jx_cc me) pc = .ok (.isub, 1)) : jx_So g me pc (pc + 1) (jt_isub) := by
  intro K P σ hP ht
  obtain ⟨lv, st, μ, b⟩ := σ
  rcases st with _ | ⟨y, _ | ⟨x, st⟩⟩
  · exact False.elim ht
  · exact False.elim ht
  · obtain ⟨⟨x, rfl⟩, ⟨y, rfl⟩, ht⟩ := ht
    intro p e R s m args below meth c H locs cells slots ls mc ms hC hH hS hl h1 h2 h3 h4
    exact lv_isub hC.1 hC.2.1 hd (hP _ ht p e R s m args below meth c H locs cells slots ls mc ms hC hH hS hl h1 h2 h3 h4)
def jt_imul : jx_tr := fun σ P => match σ with
  | (lv, y :: x :: st, μ, b) => jx_i x ∧ jx_i y ∧ P (lv, .int (jx_iv x * jx_iv y) :: st, μ, b)
  | _ => False
theorem jt_imul_e {y x : Value} {lv : List (Nat × Value)} {st : List Value} {μ : jx_M} {b : Nat × Nat} {P : jx_S → Prop} : jt_imul (lv, y :: x :: st, μ, b) P = (jx_i x ∧ jx_i y ∧ P (lv, .int (jx_iv x * jx_iv y) :: st, μ, b)) := rfl
theorem js_imul {g : jx_G} {me : jx_me} {pc : Nat} (hd : decode (jx_cc me) pc = .ok (.imul, 1)) : jx_So g me pc (pc + 1) (jt_imul) := by
  intro K P σ hP ht
  obtain ⟨lv, st, μ, b⟩ := σ
  rcases st with _ | ⟨y, _ | ⟨x, st⟩⟩
  · exact False.elim ht
  · exact False.elim ht
  · obtain ⟨⟨x, rfl⟩, ⟨y, rfl⟩, ht⟩ := ht
    intro p e R s m args below meth c H locs cells slots ls mc ms hC hH hS hl h1 h2 h3 h4
    exact lv_imul hC.1 hC.2.1 hd (hP _ ht p e R s m args below meth c H locs cells slots ls mc ms hC hH hS hl h1 h2 h3 h4)
def jt_iand : jx_tr := fun σ P => match σ with
  | (lv, y :: x :: st, μ, b) => jx_i x ∧ jx_i y ∧ P (lv, .int (jx_iv x &&& jx_iv y) :: st, μ, b)
  | _ => False
theorem jt_iand_e {y x : Value} {lv : List (Nat × Value)} {st : List Value} {μ : jx_M} {b : Nat × Nat} {P : jx_S → Prop} : jt_iand (lv, y :: x :: st, μ, b) P = (jx_i x ∧ jx_i y ∧ P (lv, .int (jx_iv x &&& jx_iv y) :: st, μ, b)) := rfl
theorem js_iand {g : jx_G} {me : jx_me} {pc : Nat} (hd : decode (jx_cc me) pc = .ok (.iand, 1)) : jx_So g me pc (pc + 1) (jt_iand) := by
  intro K P σ hP ht
  obtain ⟨lv, st, μ, b⟩ := σ
  rcases st with _ | ⟨y, _ | ⟨x, st⟩⟩
  · exact False.elim ht
  · exact False.elim ht
  · obtain ⟨⟨x, rfl⟩, ⟨y, rfl⟩, ht⟩ := ht
    intro p e R s m args below meth c H locs cells slots ls mc ms hC hH hS hl h1 h2 h3 h4
    exact lv_iand hC.1 hC.2.1 hd (hP _ ht p e R s m args below meth c H locs cells slots ls mc ms hC hH hS hl h1 h2 h3 h4)
def jt_ishr : jx_tr := fun σ P => match σ with
  | (lv, y :: x :: st, μ, b) => jx_i x ∧ jx_i y ∧ P (lv, .int (jx_iv x >>> (jx_iv y &&& 31)) :: st, μ, b)
  | _ => False
theorem jt_ishr_e {y x : Value} {lv : List (Nat × Value)} {st : List Value} {μ : jx_M} {b : Nat × Nat} {P : jx_S → Prop} : jt_ishr (lv, y :: x :: st, μ, b) P = (jx_i x ∧ jx_i y ∧ P (lv, .int (jx_iv x >>> (jx_iv y &&& 31)) :: st, μ, b)) := rfl
theorem js_ishr {g : jx_G} {me : jx_me} {pc : Nat} (hd : decode (jx_cc me) pc = .ok (.ishr, 1)) : jx_So g me pc (pc + 1) (jt_ishr) := by
  intro K P σ hP ht
  obtain ⟨lv, st, μ, b⟩ := σ
  rcases st with _ | ⟨y, _ | ⟨x, st⟩⟩
  · exact False.elim ht
  · exact False.elim ht
  · obtain ⟨⟨x, rfl⟩, ⟨y, rfl⟩, ht⟩ := ht
    intro p e R s m args below meth c H locs cells slots ls mc ms hC hH hS hl h1 h2 h3 h4
    exact lv_ishr hC.1 hC.2.1 hd (hP _ ht p e R s m args below meth c H locs cells slots ls mc ms hC hH hS hl h1 h2 h3 h4)
def jt_idiv : jx_tr := fun σ P => match σ with
  | (lv, y :: x :: st, μ, b) => jx_i x ∧ jx_i y ∧ ¬ jx_iv y = 0 ∧ P (lv, .int (jx_iv x / jx_iv y) :: st, μ, b)
  | _ => False
theorem jt_idiv_e {y x : Value} {lv : List (Nat × Value)} {st : List Value} {μ : jx_M} {b : Nat × Nat} {P : jx_S → Prop} : jt_idiv (lv, y :: x :: st, μ, b) P = (jx_i x ∧ jx_i y ∧ ¬ jx_iv y = 0 ∧ P (lv, .int (jx_iv x / jx_iv y) :: st, μ, b)) := rfl
theorem js_idiv {g : jx_G} {me : jx_me} {pc : Nat} (hd : decode (jx_cc me) pc = .ok (.idiv, 1)) : jx_So g me pc (pc + 1) (jt_idiv) := by
  intro K P σ hP ht
  obtain ⟨lv, st, μ, b⟩ := σ
  rcases st with _ | ⟨y, _ | ⟨x, st⟩⟩
  · exact False.elim ht
  · exact False.elim ht
  · obtain ⟨⟨x, rfl⟩, ⟨y, rfl⟩, hne, ht⟩ := ht
    intro p e R s m args below meth c H locs cells slots ls mc ms hC hH hS hl h1 h2 h3 h4
    exact lv_idiv hC.1 hC.2.1 hd hne (hP _ ht p e R s m args below meth c H locs cells slots ls mc ms hC hH hS hl h1 h2 h3 h4)
def jt_irem : jx_tr := fun σ P => match σ with
  | (lv, y :: x :: st, μ, b) => jx_i x ∧ jx_i y ∧ ¬ jx_iv y = 0 ∧ P (lv, .int (jx_iv x - jx_iv x / jx_iv y * jx_iv y) :: st, μ, b)
  | _ => False
theorem jt_irem_e {y x : Value} {lv : List (Nat × Value)} {st : List Value} {μ : jx_M} {b : Nat × Nat} {P : jx_S → Prop} : jt_irem (lv, y :: x :: st, μ, b) P = (jx_i x ∧ jx_i y ∧ ¬ jx_iv y = 0 ∧ P (lv, .int (jx_iv x - jx_iv x / jx_iv y * jx_iv y) :: st, μ, b)) := rfl
theorem js_irem {g : jx_G} {me : jx_me} {pc : Nat} (hd : decode (jx_cc me) pc = .ok (.irem, 1)) : jx_So g me pc (pc + 1) (jt_irem) := by
  intro K P σ hP ht
  obtain ⟨lv, st, μ, b⟩ := σ
  rcases st with _ | ⟨y, _ | ⟨x, st⟩⟩
  · exact False.elim ht
  · exact False.elim ht
  · obtain ⟨⟨x, rfl⟩, ⟨y, rfl⟩, hne, ht⟩ := ht
    intro p e R s m args below meth c H locs cells slots ls mc ms hC hH hS hl h1 h2 h3 h4
    exact lv_irem hC.1 hC.2.1 hd hne (hP _ ht p e R s m args below meth c H locs cells slots ls mc ms hC hH hS hl h1 h2 h3 h4)
def jt_ladd : jx_tr := fun σ P => match σ with
  | (lv, y :: x :: st, μ, b) => jx_l x ∧ jx_l y ∧ P (lv, .long (jx_lv x + jx_lv y) :: st, μ, b)
  | _ => False
theorem jt_ladd_e {y x : Value} {lv : List (Nat × Value)} {st : List Value} {μ : jx_M} {b : Nat × Nat} {P : jx_S → Prop} : jt_ladd (lv, y :: x :: st, μ, b) P = (jx_l x ∧ jx_l y ∧ P (lv, .long (jx_lv x + jx_lv y) :: st, μ, b)) := rfl
theorem js_ladd {g : jx_G} {me : jx_me} {pc : Nat} (hd : decode (jx_cc me) pc = .ok (.ladd, 1)) : jx_So g me pc (pc + 1) (jt_ladd) := by
  intro K P σ hP ht
  obtain ⟨lv, st, μ, b⟩ := σ
  rcases st with _ | ⟨y, _ | ⟨x, st⟩⟩
  · exact False.elim ht
  · exact False.elim ht
  · obtain ⟨⟨x, rfl⟩, ⟨y, rfl⟩, ht⟩ := ht
    intro p e R s m args below meth c H locs cells slots ls mc ms hC hH hS hl h1 h2 h3 h4
    exact lv_ladd hC.1 hC.2.1 hd (hP _ ht p e R s m args below meth c H locs cells slots ls mc ms hC hH hS hl h1 h2 h3 h4)
def jt_lsub : jx_tr := fun σ P => match σ with
  | (lv, y :: x :: st, μ, b) => jx_l x ∧ jx_l y ∧ P (lv, .long (jx_lv x - jx_lv y) :: st, μ, b)
  | _ => False
theorem jt_lsub_e {y x : Value} {lv : List (Nat × Value)} {st : List Value} {μ : jx_M} {b : Nat × Nat} {P : jx_S → Prop} : jt_lsub (lv, y :: x :: st, μ, b) P = (jx_l x ∧ jx_l y ∧ P (lv, .long (jx_lv x - jx_lv y) :: st, μ, b)) := rfl
theorem js_lsub {g : jx_G} {me : jx_me} {pc : Nat} (hd : decode (jx_cc me) pc = .ok (.lsub, 1)) : jx_So g me pc (pc + 1) (jt_lsub) := by
  intro K P σ hP ht
  obtain ⟨lv, st, μ, b⟩ := σ
  rcases st with _ | ⟨y, _ | ⟨x, st⟩⟩
  · exact False.elim ht
  · exact False.elim ht
  · obtain ⟨⟨x, rfl⟩, ⟨y, rfl⟩, ht⟩ := ht
    intro p e R s m args below meth c H locs cells slots ls mc ms hC hH hS hl h1 h2 h3 h4
    exact lv_lsub hC.1 hC.2.1 hd (hP _ ht p e R s m args below meth c H locs cells slots ls mc ms hC hH hS hl h1 h2 h3 h4)
def jt_lmul : jx_tr := fun σ P => match σ with
  | (lv, y :: x :: st, μ, b) => jx_l x ∧ jx_l y ∧ P (lv, .long (jx_lv x * jx_lv y) :: st, μ, b)
  | _ => False
theorem jt_lmul_e {y x : Value} {lv : List (Nat × Value)} {st : List Value} {μ : jx_M} {b : Nat × Nat} {P : jx_S → Prop} : jt_lmul (lv, y :: x :: st, μ, b) P = (jx_l x ∧ jx_l y ∧ P (lv, .long (jx_lv x * jx_lv y) :: st, μ, b)) := rfl
theorem js_lmul {g : jx_G} {me : jx_me} {pc : Nat} (hd : decode (jx_cc me) pc = .ok (.lmul, 1)) : jx_So g me pc (pc + 1) (jt_lmul) := by
  intro K P σ hP ht
  obtain ⟨lv, st, μ, b⟩ := σ
  rcases st with _ | ⟨y, _ | ⟨x, st⟩⟩
  · exact False.elim ht
  · exact False.elim ht
  · obtain ⟨⟨x, rfl⟩, ⟨y, rfl⟩, ht⟩ := ht
    intro p e R s m args below meth c H locs cells slots ls mc ms hC hH hS hl h1 h2 h3 h4
    exact lv_lmul hC.1 hC.2.1 hd (hP _ ht p e R s m args below meth c H locs cells slots ls mc ms hC hH hS hl h1 h2 h3 h4)
def jt_ldiv : jx_tr := fun σ P => match σ with
  | (lv, y :: x :: st, μ, b) => jx_l x ∧ jx_l y ∧ ¬ jx_lv y = 0 ∧ P (lv, .long (jx_lv x / jx_lv y) :: st, μ, b)
  | _ => False
theorem jt_ldiv_e {y x : Value} {lv : List (Nat × Value)} {st : List Value} {μ : jx_M} {b : Nat × Nat} {P : jx_S → Prop} : jt_ldiv (lv, y :: x :: st, μ, b) P = (jx_l x ∧ jx_l y ∧ ¬ jx_lv y = 0 ∧ P (lv, .long (jx_lv x / jx_lv y) :: st, μ, b)) := rfl
theorem js_ldiv {g : jx_G} {me : jx_me} {pc : Nat} (hd : decode (jx_cc me) pc = .ok (.ldiv, 1)) : jx_So g me pc (pc + 1) (jt_ldiv) := by
  intro K P σ hP ht
  obtain ⟨lv, st, μ, b⟩ := σ
  rcases st with _ | ⟨y, _ | ⟨x, st⟩⟩
  · exact False.elim ht
  · exact False.elim ht
  · obtain ⟨⟨x, rfl⟩, ⟨y, rfl⟩, hne, ht⟩ := ht
    intro p e R s m args below meth c H locs cells slots ls mc ms hC hH hS hl h1 h2 h3 h4
    exact lv_ldiv hC.1 hC.2.1 hd hne (hP _ ht p e R s m args below meth c H locs cells slots ls mc ms hC hH hS hl h1 h2 h3 h4)
def jt_lcmp : jx_tr := fun σ P => match σ with
  | (lv, y :: x :: st, μ, b) => jx_l x ∧ jx_l y ∧ P (lv, .int (lg_cmp (jx_lv x) (jx_lv y)) :: st, μ, b)
  | _ => False
theorem jt_lcmp_e {y x : Value} {lv : List (Nat × Value)} {st : List Value} {μ : jx_M} {b : Nat × Nat} {P : jx_S → Prop} : jt_lcmp (lv, y :: x :: st, μ, b) P = (jx_l x ∧ jx_l y ∧ P (lv, .int (lg_cmp (jx_lv x) (jx_lv y)) :: st, μ, b)) := rfl
theorem js_lcmp {g : jx_G} {me : jx_me} {pc : Nat} (hd : decode (jx_cc me) pc = .ok (.lcmp, 1)) : jx_So g me pc (pc + 1) (jt_lcmp) := by
  intro K P σ hP ht
  obtain ⟨lv, st, μ, b⟩ := σ
  rcases st with _ | ⟨y, _ | ⟨x, st⟩⟩
  · exact False.elim ht
  · exact False.elim ht
  · obtain ⟨⟨x, rfl⟩, ⟨y, rfl⟩, ht⟩ := ht
    intro p e R s m args below meth c H locs cells slots ls mc ms hC hH hS hl h1 h2 h3 h4
    exact W.lcmp hC.1 hC.2.1 hd (hP _ ht p e R s m args below meth c H locs cells slots ls mc ms hC hH hS hl h1 h2 h3 h4)
def jt_ineg : jx_tr := fun σ P => match σ with
  | (lv, x :: st, μ, b) => jx_i x ∧ P (lv, .int (-jx_iv x) :: st, μ, b)
  | _ => False
theorem jt_ineg_e {x : Value} {lv : List (Nat × Value)} {st : List Value} {μ : jx_M} {b : Nat × Nat} {P : jx_S → Prop} : jt_ineg (lv, x :: st, μ, b) P = (jx_i x ∧ P (lv, .int (-jx_iv x) :: st, μ, b)) := rfl
theorem js_ineg {g : jx_G} {me : jx_me} {pc : Nat} (hd : decode (jx_cc me) pc = .ok (.ineg, 1)) : jx_So g me pc (pc + 1) (jt_ineg) := by
  intro K P σ hP ht
  obtain ⟨lv, st, μ, b⟩ := σ
  rcases st with _ | ⟨x, st⟩
  · exact False.elim ht
  · obtain ⟨⟨x, rfl⟩, ht⟩ := ht
    intro p e R s m args below meth c H locs cells slots ls mc ms hC hH hS hl h1 h2 h3 h4
    exact lv_ineg hC.1 hC.2.1 hd (hP _ ht p e R s m args below meth c H locs cells slots ls mc ms hC hH hS hl h1 h2 h3 h4)
def jt_lneg : jx_tr := fun σ P => match σ with
  | (lv, x :: st, μ, b) => jx_l x ∧ P (lv, .long (-jx_lv x) :: st, μ, b)
  | _ => False
theorem jt_lneg_e {x : Value} {lv : List (Nat × Value)} {st : List Value} {μ : jx_M} {b : Nat × Nat} {P : jx_S → Prop} : jt_lneg (lv, x :: st, μ, b) P = (jx_l x ∧ P (lv, .long (-jx_lv x) :: st, μ, b)) := rfl
theorem js_lneg {g : jx_G} {me : jx_me} {pc : Nat} (hd : decode (jx_cc me) pc = .ok (.lneg, 1)) : jx_So g me pc (pc + 1) (jt_lneg) := by
  intro K P σ hP ht
  obtain ⟨lv, st, μ, b⟩ := σ
  rcases st with _ | ⟨x, st⟩
  · exact False.elim ht
  · obtain ⟨⟨x, rfl⟩, ht⟩ := ht
    intro p e R s m args below meth c H locs cells slots ls mc ms hC hH hS hl h1 h2 h3 h4
    exact lv_lneg hC.1 hC.2.1 hd (hP _ ht p e R s m args below meth c H locs cells slots ls mc ms hC hH hS hl h1 h2 h3 h4)
def jt_i2l : jx_tr := fun σ P => match σ with
  | (lv, x :: st, μ, b) => jx_i x ∧ P (lv, .long (jx_iv x).toInt64 :: st, μ, b)
  | _ => False
theorem jt_i2l_e {x : Value} {lv : List (Nat × Value)} {st : List Value} {μ : jx_M} {b : Nat × Nat} {P : jx_S → Prop} : jt_i2l (lv, x :: st, μ, b) P = (jx_i x ∧ P (lv, .long (jx_iv x).toInt64 :: st, μ, b)) := rfl
theorem js_i2l {g : jx_G} {me : jx_me} {pc : Nat} (hd : decode (jx_cc me) pc = .ok (.i2l, 1)) : jx_So g me pc (pc + 1) (jt_i2l) := by
  intro K P σ hP ht
  obtain ⟨lv, st, μ, b⟩ := σ
  rcases st with _ | ⟨x, st⟩
  · exact False.elim ht
  · obtain ⟨⟨x, rfl⟩, ht⟩ := ht
    intro p e R s m args below meth c H locs cells slots ls mc ms hC hH hS hl h1 h2 h3 h4
    exact lv_i2l hC.1 hC.2.1 hd rfl (hP _ ht p e R s m args below meth c H locs cells slots ls mc ms hC hH hS hl h1 h2 h3 h4)
def jt_l2i : jx_tr := fun σ P => match σ with
  | (lv, x :: st, μ, b) => jx_l x ∧ P (lv, .int (jx_lv x).toInt32 :: st, μ, b)
  | _ => False
theorem jt_l2i_e {x : Value} {lv : List (Nat × Value)} {st : List Value} {μ : jx_M} {b : Nat × Nat} {P : jx_S → Prop} : jt_l2i (lv, x :: st, μ, b) P = (jx_l x ∧ P (lv, .int (jx_lv x).toInt32 :: st, μ, b)) := rfl
theorem js_l2i {g : jx_G} {me : jx_me} {pc : Nat} (hd : decode (jx_cc me) pc = .ok (.l2i, 1)) : jx_So g me pc (pc + 1) (jt_l2i) := by
  intro K P σ hP ht
  obtain ⟨lv, st, μ, b⟩ := σ
  rcases st with _ | ⟨x, st⟩
  · exact False.elim ht
  · obtain ⟨⟨x, rfl⟩, ht⟩ := ht
    intro p e R s m args below meth c H locs cells slots ls mc ms hC hH hS hl h1 h2 h3 h4
    exact lv_l2i hC.1 hC.2.1 hd rfl (hP _ ht p e R s m args below meth c H locs cells slots ls mc ms hC hH hS hl h1 h2 h3 h4)
def jt_dup : jx_tr := fun σ P => match σ with
  | (lv, x :: st, μ, b) => jx_c1 x ∧ P (lv, x :: x :: st, μ, b)
  | _ => False
theorem jt_dup_e {x : Value} {lv : List (Nat × Value)} {st : List Value} {μ : jx_M} {b : Nat × Nat} {P : jx_S → Prop} : jt_dup (lv, x :: st, μ, b) P = (jx_c1 x ∧ P (lv, x :: x :: st, μ, b)) := rfl
theorem js_dup {g : jx_G} {me : jx_me} {pc : Nat} (hd : decode (jx_cc me) pc = .ok (.dup, 1)) : jx_So g me pc (pc + 1) (jt_dup) := by
  intro K P σ hP ht
  obtain ⟨lv, st, μ, b⟩ := σ
  rcases st with _ | ⟨x, st⟩
  · exact False.elim ht
  · obtain ⟨hx, ht⟩ := ht
    intro p e R s m args below meth c H locs cells slots ls mc ms hC hH hS hl h1 h2 h3 h4
    exact lv_dup hC.1 hC.2.1 hd hx (hP _ ht p e R s m args below meth c H locs cells slots ls mc ms hC hH hS hl h1 h2 h3 h4)
def jt_pop : jx_tr := fun σ P => match σ with
  | (lv, x :: st, μ, b) => jx_c1 x ∧ P (lv, st, μ, b)
  | _ => False
theorem jt_pop_e {x : Value} {lv : List (Nat × Value)} {st : List Value} {μ : jx_M} {b : Nat × Nat} {P : jx_S → Prop} : jt_pop (lv, x :: st, μ, b) P = (jx_c1 x ∧ P (lv, st, μ, b)) := rfl
theorem js_pop {g : jx_G} {me : jx_me} {pc : Nat} (hd : decode (jx_cc me) pc = .ok (.pop, 1)) : jx_So g me pc (pc + 1) (jt_pop) := by
  intro K P σ hP ht
  obtain ⟨lv, st, μ, b⟩ := σ
  rcases st with _ | ⟨x, st⟩
  · exact False.elim ht
  · obtain ⟨hx, ht⟩ := ht
    intro p e R s m args below meth c H locs cells slots ls mc ms hC hH hS hl h1 h2 h3 h4
    exact lv_pop hC.1 hC.2.1 hd hx (hP _ ht p e R s m args below meth c H locs cells slots ls mc ms hC hH hS hl h1 h2 h3 h4)
def jt_dup_x1 : jx_tr := fun σ P => match σ with
  | (lv, x :: y :: st, μ, b) => jx_c1 x ∧ jx_c1 y ∧ P (lv, x :: y :: x :: st, μ, b)
  | _ => False
theorem jt_dup_x1_e {x y : Value} {lv : List (Nat × Value)} {st : List Value} {μ : jx_M} {b : Nat × Nat} {P : jx_S → Prop} : jt_dup_x1 (lv, x :: y :: st, μ, b) P = (jx_c1 x ∧ jx_c1 y ∧ P (lv, x :: y :: x :: st, μ, b)) := rfl
theorem js_dup_x1 {g : jx_G} {me : jx_me} {pc : Nat} (hd : decode (jx_cc me) pc = .ok (.dup_x1, 1)) : jx_So g me pc (pc + 1) (jt_dup_x1) := by
  intro K P σ hP ht
  obtain ⟨lv, st, μ, b⟩ := σ
  rcases st with _ | ⟨x, _ | ⟨y, st⟩⟩
  · exact False.elim ht
  · exact False.elim ht
  · obtain ⟨hx, hy, ht⟩ := ht
    intro p e R s m args below meth c H locs cells slots ls mc ms hC hH hS hl h1 h2 h3 h4
    exact lv_dup_x1 hC.1 hC.2.1 hd hx hy (hP _ ht p e R s m args below meth c H locs cells slots ls mc ms hC hH hS hl h1 h2 h3 h4)
def jt_dup_x2 : jx_tr := fun σ P => match σ with
  | (lv, x :: y :: z :: st, μ, b) => jx_c1 x ∧ jx_c1 y ∧ jx_c1 z ∧ P (lv, x :: y :: z :: x :: st, μ, b)
  | _ => False
theorem jt_dup_x2_e {x y z : Value} {lv : List (Nat × Value)} {st : List Value} {μ : jx_M} {b : Nat × Nat} {P : jx_S → Prop} : jt_dup_x2 (lv, x :: y :: z :: st, μ, b) P = (jx_c1 x ∧ jx_c1 y ∧ jx_c1 z ∧ P (lv, x :: y :: z :: x :: st, μ, b)) := rfl
theorem js_dup_x2 {g : jx_G} {me : jx_me} {pc : Nat} (hd : decode (jx_cc me) pc = .ok (.dup_x2, 1)) : jx_So g me pc (pc + 1) (jt_dup_x2) := by
  intro K P σ hP ht
  obtain ⟨lv, st, μ, b⟩ := σ
  rcases st with _ | ⟨x, _ | ⟨y, _ | ⟨z, st⟩⟩⟩
  · exact False.elim ht
  · exact False.elim ht
  · exact False.elim ht
  · obtain ⟨hx, hy, hz, ht⟩ := ht
    intro p e R s m args below meth c H locs cells slots ls mc ms hC hH hS hl h1 h2 h3 h4
    exact lv_dup_x2 hC.1 hC.2.1 hd hx hy hz (hP _ ht p e R s m args below meth c H locs cells slots ls mc ms hC hH hS hl h1 h2 h3 h4)
def jt_dup2 : jx_tr := fun σ P => match σ with
  | (lv, x :: y :: st, μ, b) => jx_c1 x ∧ jx_c1 y ∧ P (lv, x :: y :: x :: y :: st, μ, b)
  | _ => False
theorem jt_dup2_e {x y : Value} {lv : List (Nat × Value)} {st : List Value} {μ : jx_M} {b : Nat × Nat} {P : jx_S → Prop} : jt_dup2 (lv, x :: y :: st, μ, b) P = (jx_c1 x ∧ jx_c1 y ∧ P (lv, x :: y :: x :: y :: st, μ, b)) := rfl
theorem js_dup2 {g : jx_G} {me : jx_me} {pc : Nat} (hd : decode (jx_cc me) pc = .ok (.dup2, 1)) : jx_So g me pc (pc + 1) (jt_dup2) := by
  intro K P σ hP ht
  obtain ⟨lv, st, μ, b⟩ := σ
  rcases st with _ | ⟨x, _ | ⟨y, st⟩⟩
  · exact False.elim ht
  · exact False.elim ht
  · obtain ⟨hx, hy, ht⟩ := ht
    intro p e R s m args below meth c H locs cells slots ls mc ms hC hH hS hl h1 h2 h3 h4
    exact lv_dup2_11 hC.1 hC.2.1 hd hx hy (hP _ ht p e R s m args below meth c H locs cells slots ls mc ms hC hH hS hl h1 h2 h3 h4)
def jt_iconst (v : Int32) : jx_tr := fun σ P => match σ with
  | (lv, st, μ, b) => P (lv, .int v :: st, μ, b)
theorem jt_iconst_e (v : Int32) {lv : List (Nat × Value)} {st : List Value} {μ : jx_M} {b : Nat × Nat} {P : jx_S → Prop} : jt_iconst v (lv, st, μ, b) P = (P (lv, .int v :: st, μ, b)) := rfl
theorem js_iconst {g : jx_G} {me : jx_me} {pc : Nat} {v : Int32} {n : Int} (hd : decode (jx_cc me) pc = .ok (.iconst n, 1)) (hv : Int32.ofInt n = v) : jx_So g me pc (pc + 1) (jt_iconst v) := by
  intro K P σ hP ht
  obtain ⟨lv, st, μ, b⟩ := σ
  skip
  intro p e R s m args below meth c H locs cells slots ls mc ms hC hH hS hl h1 h2 h3 h4
  exact lv_iconst hC.1 hC.2.1 hd hv (hP _ ht p e R s m args below meth c H locs cells slots ls mc ms hC hH hS hl h1 h2 h3 h4)
theorem js_bipush {g : jx_G} {me : jx_me} {pc : Nat} {v : Int32} {n : Int} (hd : decode (jx_cc me) pc = .ok (.bipush n, 2)) (hv : (Int8.ofInt n).toInt32 = v) : jx_So g me pc (pc + 2) (jt_iconst v) := by
  intro K P σ hP ht
  obtain ⟨lv, st, μ, b⟩ := σ
  skip
  intro p e R s m args below meth c H locs cells slots ls mc ms hC hH hS hl h1 h2 h3 h4
  exact lv_bipush hC.1 hC.2.1 hd hv (hP _ ht p e R s m args below meth c H locs cells slots ls mc ms hC hH hS hl h1 h2 h3 h4)
theorem js_sipush {g : jx_G} {me : jx_me} {pc : Nat} {v : Int32} {n : Int} (hd : decode (jx_cc me) pc = .ok (.sipush n, 3)) (hv : (Int16.ofInt n).toInt32 = v) : jx_So g me pc (pc + 3) (jt_iconst v) := by
  intro K P σ hP ht
  obtain ⟨lv, st, μ, b⟩ := σ
  skip
  intro p e R s m args below meth c H locs cells slots ls mc ms hC hH hS hl h1 h2 h3 h4
  exact lv_sipush hC.1 hC.2.1 hd hv (hP _ ht p e R s m args below meth c H locs cells slots ls mc ms hC hH hS hl h1 h2 h3 h4)
def jt_lconst (v : Int64) : jx_tr := fun σ P => match σ with
  | (lv, st, μ, b) => P (lv, .long v :: st, μ, b)
theorem jt_lconst_e (v : Int64) {lv : List (Nat × Value)} {st : List Value} {μ : jx_M} {b : Nat × Nat} {P : jx_S → Prop} : jt_lconst v (lv, st, μ, b) P = (P (lv, .long v :: st, μ, b)) := rfl
theorem js_lconst {g : jx_G} {me : jx_me} {pc : Nat} {v : Int64} {n : Fin 2} (hd : decode (jx_cc me) pc = .ok (.lconst n, 1)) (hv : Int64.ofNat (n : Nat) = v) : jx_So g me pc (pc + 1) (jt_lconst v) := by
  intro K P σ hP ht
  obtain ⟨lv, st, μ, b⟩ := σ
  skip
  intro p e R s m args below meth c H locs cells slots ls mc ms hC hH hS hl h1 h2 h3 h4
  exact lv_lconst hC.1 hC.2.1 hd hv (hP _ ht p e R s m args below meth c H locs cells slots ls mc ms hC hH hS hl h1 h2 h3 h4)
def jt_null : jx_tr := fun σ P => match σ with
  | (lv, st, μ, b) => P (lv, .null :: st, μ, b)
theorem jt_null_e {lv : List (Nat × Value)} {st : List Value} {μ : jx_M} {b : Nat × Nat} {P : jx_S → Prop} : jt_null (lv, st, μ, b) P = (P (lv, .null :: st, μ, b)) := rfl
theorem js_null {g : jx_G} {me : jx_me} {pc : Nat} (hd : decode (jx_cc me) pc = .ok (.aconst_null, 1)) : jx_So g me pc (pc + 1) (jt_null) := by
  intro K P σ hP ht
  obtain ⟨lv, st, μ, b⟩ := σ
  skip
  intro p e R s m args below meth c H locs cells slots ls mc ms hC hH hS hl h1 h2 h3 h4
  exact lv_null hC.1 hC.2.1 hd (hP _ ht p e R s m args below meth c H locs cells slots ls mc ms hC hH hS hl h1 h2 h3 h4)
def jt_iload (i : Nat) : jx_tr := fun σ P => match σ with
  | (lv, st, μ, b) => jx_lq lv i = some (.int (jx_iv (jx_lk lv i))) ∧ P (lv, .int (jx_iv (jx_lk lv i)) :: st, μ, b)
theorem jt_iload_e (i : Nat) {lv : List (Nat × Value)} {st : List Value} {μ : jx_M} {b : Nat × Nat} {P : jx_S → Prop} : jt_iload i (lv, st, μ, b) P = (jx_lq lv i = some (.int (jx_iv (jx_lk lv i))) ∧ P (lv, .int (jx_iv (jx_lk lv i)) :: st, μ, b)) := rfl
theorem js_iload_n {g : jx_G} {me : jx_me} {pc : Nat} {i : Nat} {k : Fin 4} (hd : decode (jx_cc me) pc = .ok (.iload_n k, 1)) (hi : (k : Nat) = i) : jx_So g me pc (pc + 1) (jt_iload i) := by
  intro K P σ hP ht
  obtain ⟨lv, st, μ, b⟩ := σ
  obtain ⟨hq, ht⟩ := ht
  intro p e R s m args below meth c H locs cells slots ls mc ms hC hH hS hl h1 h2 h3 h4
  exact lv_iload_n hC.1 hC.2.1 hd hi (hl.2.2 _ _ hq) (hP _ ht p e R s m args below meth c H locs cells slots ls mc ms hC hH hS hl h1 h2 h3 h4)
theorem js_iload {g : jx_G} {me : jx_me} {pc : Nat} {i : Nat} (hd : decode (jx_cc me) pc = .ok (.iload i, 2)) : jx_So g me pc (pc + 2) (jt_iload i) := by
  intro K P σ hP ht
  obtain ⟨lv, st, μ, b⟩ := σ
  obtain ⟨hq, ht⟩ := ht
  intro p e R s m args below meth c H locs cells slots ls mc ms hC hH hS hl h1 h2 h3 h4
  exact lv_iload hC.1 hC.2.1 hd (hl.2.2 _ _ hq) (hP _ ht p e R s m args below meth c H locs cells slots ls mc ms hC hH hS hl h1 h2 h3 h4)
def jt_lload (i : Nat) : jx_tr := fun σ P => match σ with
  | (lv, st, μ, b) => jx_lq lv i = some (.long (jx_lv (jx_lk lv i))) ∧ P (lv, .long (jx_lv (jx_lk lv i)) :: st, μ, b)
theorem jt_lload_e (i : Nat) {lv : List (Nat × Value)} {st : List Value} {μ : jx_M} {b : Nat × Nat} {P : jx_S → Prop} : jt_lload i (lv, st, μ, b) P = (jx_lq lv i = some (.long (jx_lv (jx_lk lv i))) ∧ P (lv, .long (jx_lv (jx_lk lv i)) :: st, μ, b)) := rfl
theorem js_lload_n {g : jx_G} {me : jx_me} {pc : Nat} {i : Nat} {k : Fin 4} (hd : decode (jx_cc me) pc = .ok (.lload_n k, 1)) (hi : (k : Nat) = i) : jx_So g me pc (pc + 1) (jt_lload i) := by
  intro K P σ hP ht
  obtain ⟨lv, st, μ, b⟩ := σ
  obtain ⟨hq, ht⟩ := ht
  intro p e R s m args below meth c H locs cells slots ls mc ms hC hH hS hl h1 h2 h3 h4
  exact lv_lload_n hC.1 hC.2.1 hd hi (hl.2.2 _ _ hq) (hP _ ht p e R s m args below meth c H locs cells slots ls mc ms hC hH hS hl h1 h2 h3 h4)
theorem js_lload {g : jx_G} {me : jx_me} {pc : Nat} {i : Nat} (hd : decode (jx_cc me) pc = .ok (.lload i, 2)) : jx_So g me pc (pc + 2) (jt_lload i) := by
  intro K P σ hP ht
  obtain ⟨lv, st, μ, b⟩ := σ
  obtain ⟨hq, ht⟩ := ht
  intro p e R s m args below meth c H locs cells slots ls mc ms hC hH hS hl h1 h2 h3 h4
  exact lv_lload hC.1 hC.2.1 hd (hl.2.2 _ _ hq) (hP _ ht p e R s m args below meth c H locs cells slots ls mc ms hC hH hS hl h1 h2 h3 h4)
def jt_aload (i : Nat) : jx_tr := fun σ P => match σ with
  | (lv, st, μ, b) => jx_lq lv i = some (jx_lk lv i) ∧ jx_a (jx_lk lv i) ∧ P (lv, jx_lk lv i :: st, μ, b)
theorem jt_aload_e (i : Nat) {lv : List (Nat × Value)} {st : List Value} {μ : jx_M} {b : Nat × Nat} {P : jx_S → Prop} : jt_aload i (lv, st, μ, b) P = (jx_lq lv i = some (jx_lk lv i) ∧ jx_a (jx_lk lv i) ∧ P (lv, jx_lk lv i :: st, μ, b)) := rfl
theorem js_aload_n {g : jx_G} {me : jx_me} {pc : Nat} {i : Nat} {k : Fin 4} (hd : decode (jx_cc me) pc = .ok (.aload_n k, 1)) (hi : (k : Nat) = i) : jx_So g me pc (pc + 1) (jt_aload i) := by
  intro K P σ hP ht
  obtain ⟨lv, st, μ, b⟩ := σ
  obtain ⟨hq, ha, ht⟩ := ht
  intro p e R s m args below meth c H locs cells slots ls mc ms hC hH hS hl h1 h2 h3 h4
  obtain ⟨v, hv, hq⟩ : ∃ v, jx_lk lv i = v ∧ jx_lq lv i = some v := ⟨_, rfl, hq⟩
  rw [hv] at ha ht
  rcases ha with rfl | ⟨a, rfl⟩
  · exact lv_aload_nN hC.1 hC.2.1 hd hi (hl.2.2 _ _ hq) (hP _ ht p e R s m args below meth c H locs cells slots ls mc ms hC hH hS hl h1 h2 h3 h4)
  · exact lv_aload_n hC.1 hC.2.1 hd hi (hl.2.2 _ _ hq) (hP _ ht p e R s m args below meth c H locs cells slots ls mc ms hC hH hS hl h1 h2 h3 h4)
theorem js_aload {g : jx_G} {me : jx_me} {pc : Nat} {i : Nat} (hd : decode (jx_cc me) pc = .ok (.aload i, 2)) : jx_So g me pc (pc + 2) (jt_aload i) := by
  intro K P σ hP ht
  obtain ⟨lv, st, μ, b⟩ := σ
  obtain ⟨hq, ha, ht⟩ := ht
  intro p e R s m args below meth c H locs cells slots ls mc ms hC hH hS hl h1 h2 h3 h4
  obtain ⟨v, hv, hq⟩ : ∃ v, jx_lk lv i = v ∧ jx_lq lv i = some v := ⟨_, rfl, hq⟩
  rw [hv] at ha ht
  rcases ha with rfl | ⟨a, rfl⟩
  · exact lv_aloadN hC.1 hC.2.1 hd (hl.2.2 _ _ hq) (hP _ ht p e R s m args below meth c H locs cells slots ls mc ms hC hH hS hl h1 h2 h3 h4)
  · exact lv_aload hC.1 hC.2.1 hd (hl.2.2 _ _ hq) (hP _ ht p e R s m args below meth c H locs cells slots ls mc ms hC hH hS hl h1 h2 h3 h4)
def jt_istore (i : Nat) : jx_tr := fun σ P => match σ with
  | (lv, x :: st, μ, b) => jx_i x ∧ jx_nc lv i ∧ P ((i, .int (jx_iv x)) :: lv, st, μ, b)
  | _ => False
theorem jt_istore_e (i : Nat) {x : Value} {lv : List (Nat × Value)} {st : List Value} {μ : jx_M} {b : Nat × Nat} {P : jx_S → Prop} : jt_istore i (lv, x :: st, μ, b) P = (jx_i x ∧ jx_nc lv i ∧ P ((i, .int (jx_iv x)) :: lv, st, μ, b)) := rfl
theorem js_istore_n {g : jx_G} {me : jx_me} {pc : Nat} {i : Nat} {k : Fin 4} (hd : decode (jx_cc me) pc = .ok (.istore_n k, 1)) (hi : (k : Nat) = i) (hn : i < jx_ml me) : jx_So g me pc (pc + 1) (jt_istore i) := by
  intro K P σ hP ht
  obtain ⟨lv, st, μ, b⟩ := σ
  rcases st with _ | ⟨x, st⟩
  · exact False.elim ht
  · obtain ⟨⟨x, rfl⟩, hnc, ht⟩ := ht
    intro p e R s m args below meth c H locs cells slots ls mc ms hC hH hS hl h1 h2 h3 h4
    exact lv_istore_n hC.1 hC.2.1 hd hi (jx_all_has hl) hn rfl (fun ls' hl' => hP _ ht p e R s m args below meth c H locs cells slots ls' mc ms hC hH hS (jx_L_store hl hnc hl') h1 h2 h3 h4)
theorem js_istore {g : jx_G} {me : jx_me} {pc : Nat} {i : Nat} (hd : decode (jx_cc me) pc = .ok (.istore i, 2)) (hn : i < jx_ml me) : jx_So g me pc (pc + 2) (jt_istore i) := by
  intro K P σ hP ht
  obtain ⟨lv, st, μ, b⟩ := σ
  rcases st with _ | ⟨x, st⟩
  · exact False.elim ht
  · obtain ⟨⟨x, rfl⟩, hnc, ht⟩ := ht
    intro p e R s m args below meth c H locs cells slots ls mc ms hC hH hS hl h1 h2 h3 h4
    exact lv_istore hC.1 hC.2.1 hd (jx_all_has hl) hn rfl (fun ls' hl' => hP _ ht p e R s m args below meth c H locs cells slots ls' mc ms hC hH hS (jx_L_store hl hnc hl') h1 h2 h3 h4)
def jt_astore (i : Nat) : jx_tr := fun σ P => match σ with
  | (lv, x :: st, μ, b) => jx_a x ∧ jx_nc lv i ∧ P ((i, x) :: lv, st, μ, b)
  | _ => False
theorem jt_astore_e (i : Nat) {x : Value} {lv : List (Nat × Value)} {st : List Value} {μ : jx_M} {b : Nat × Nat} {P : jx_S → Prop} : jt_astore i (lv, x :: st, μ, b) P = (jx_a x ∧ jx_nc lv i ∧ P ((i, x) :: lv, st, μ, b)) := rfl
theorem js_astore_n {g : jx_G} {me : jx_me} {pc : Nat} {i : Nat} {k : Fin 4} (hd : decode (jx_cc me) pc = .ok (.astore_n k, 1)) (hi : (k : Nat) = i) (hn : i < jx_ml me) : jx_So g me pc (pc + 1) (jt_astore i) := by
  intro K P σ hP ht
  obtain ⟨lv, st, μ, b⟩ := σ
  rcases st with _ | ⟨x, st⟩
  · exact False.elim ht
  · obtain ⟨ha, hnc, ht⟩ := ht
    intro p e R s m args below meth c H locs cells slots ls mc ms hC hH hS hl h1 h2 h3 h4
    rcases ha with rfl | ⟨a, rfl⟩
    · exact lv_astore_nN hC.1 hC.2.1 hd hi (jx_all_has hl) hn rfl (fun ls' hl' => hP _ ht p e R s m args below meth c H locs cells slots ls' mc ms hC hH hS (jx_L_store hl hnc hl') h1 h2 h3 h4)
    · exact lv_astore_n hC.1 hC.2.1 hd hi (jx_all_has hl) hn rfl (fun ls' hl' => hP _ ht p e R s m args below meth c H locs cells slots ls' mc ms hC hH hS (jx_L_store hl hnc hl') h1 h2 h3 h4)
theorem js_astore {g : jx_G} {me : jx_me} {pc : Nat} {i : Nat} (hd : decode (jx_cc me) pc = .ok (.astore i, 2)) (hn : i < jx_ml me) : jx_So g me pc (pc + 2) (jt_astore i) := by
  intro K P σ hP ht
  obtain ⟨lv, st, μ, b⟩ := σ
  rcases st with _ | ⟨x, st⟩
  · exact False.elim ht
  · obtain ⟨ha, hnc, ht⟩ := ht
    intro p e R s m args below meth c H locs cells slots ls mc ms hC hH hS hl h1 h2 h3 h4
    rcases ha with rfl | ⟨a, rfl⟩
    · exact lv_astoreN hC.1 hC.2.1 hd (jx_all_has hl) hn rfl (fun ls' hl' => hP _ ht p e R s m args below meth c H locs cells slots ls' mc ms hC hH hS (jx_L_store hl hnc hl') h1 h2 h3 h4)
    · exact lv_astore hC.1 hC.2.1 hd (jx_all_has hl) hn rfl (fun ls' hl' => hP _ ht p e R s m args below meth c H locs cells slots ls' mc ms hC hH hS (jx_L_store hl hnc hl') h1 h2 h3 h4)
def jt_lstore (i : Nat) : jx_tr := fun σ P => match σ with
  | (lv, x :: st, μ, b) => jx_l x ∧ jx_nc lv i ∧ jx_lq lv (i + 1) = none ∧ P ((i, .long (jx_lv x)) :: lv, st, μ, b)
  | _ => False
theorem jt_lstore_e (i : Nat) {x : Value} {lv : List (Nat × Value)} {st : List Value} {μ : jx_M} {b : Nat × Nat} {P : jx_S → Prop} : jt_lstore i (lv, x :: st, μ, b) P = (jx_l x ∧ jx_nc lv i ∧ jx_lq lv (i + 1) = none ∧ P ((i, .long (jx_lv x)) :: lv, st, μ, b)) := rfl
theorem js_lstore_n {g : jx_G} {me : jx_me} {pc : Nat} {i : Nat} {k : Fin 4} (hd : decode (jx_cc me) pc = .ok (.lstore_n k, 1)) (hi : (k : Nat) = i) (hn : i + 1 < jx_ml me) : jx_So g me pc (pc + 1) (jt_lstore i) := by
  intro K P σ hP ht
  obtain ⟨lv, st, μ, b⟩ := σ
  rcases st with _ | ⟨x, st⟩
  · exact False.elim ht
  · obtain ⟨⟨x, rfl⟩, hnc, hn2, ht⟩ := ht
    intro p e R s m args below meth c H locs cells slots ls mc ms hC hH hS hl h1 h2 h3 h4
    exact lv_lstore_n hC.1 hC.2.1 hd hi (jx_all_has hl) hn rfl (fun ls' hl' => hP _ ht p e R s m args below meth c H locs cells slots ls' mc ms hC hH hS (jx_L_lstore hl hnc hn2 hl') h1 h2 h3 h4)
theorem js_lstore {g : jx_G} {me : jx_me} {pc : Nat} {i : Nat} (hd : decode (jx_cc me) pc = .ok (.lstore i, 2)) (hn : i + 1 < jx_ml me) : jx_So g me pc (pc + 2) (jt_lstore i) := by
  intro K P σ hP ht
  obtain ⟨lv, st, μ, b⟩ := σ
  rcases st with _ | ⟨x, st⟩
  · exact False.elim ht
  · obtain ⟨⟨x, rfl⟩, hnc, hn2, ht⟩ := ht
    intro p e R s m args below meth c H locs cells slots ls mc ms hC hH hS hl h1 h2 h3 h4
    exact lv_lstore hC.1 hC.2.1 hd (jx_all_has hl) hn rfl (fun ls' hl' => hP _ ht p e R s m args below meth c H locs cells slots ls' mc ms hC hH hS (jx_L_lstore hl hnc hn2 hl') h1 h2 h3 h4)
def jt_iinc (i : Nat) (v : Int32) : jx_tr := fun σ P => match σ with
  | (lv, st, μ, b) => jx_lq lv i = some (.int (jx_iv (jx_lk lv i))) ∧ jx_nc lv i ∧ P ((i, .int (jx_iv (jx_lk lv i) + v)) :: lv, st, μ, b)
theorem jt_iinc_e (i : Nat) (v : Int32) {lv : List (Nat × Value)} {st : List Value} {μ : jx_M} {b : Nat × Nat} {P : jx_S → Prop} : jt_iinc i v (lv, st, μ, b) P = (jx_lq lv i = some (.int (jx_iv (jx_lk lv i))) ∧ jx_nc lv i ∧ P ((i, .int (jx_iv (jx_lk lv i) + v)) :: lv, st, μ, b)) := rfl
theorem js_iinc {g : jx_G} {me : jx_me} {pc : Nat} {i : Nat} {v : Int32} {n : Int} (hd : decode (jx_cc me) pc = .ok (.iinc i n, 3)) (hv : Int32.ofInt n = v) (hn : i < jx_ml me) : jx_So g me pc (pc + 3) (jt_iinc i v) := by
  intro K P σ hP ht
  obtain ⟨lv, st, μ, b⟩ := σ
  obtain ⟨hq, hnc, ht⟩ := ht
  intro p e R s m args below meth c H locs cells slots ls mc ms hC hH hS hl h1 h2 h3 h4
  obtain ⟨k, hk⟩ := List.getElem?_of_mem (jx_all_mem hl hq)
  subst hv
  exact lv_iinc hC.1 hC.2.1 hd (jx_all_has hl) hk rfl hn rfl (fun ls' hl' => hP _ ht p e R s m args below meth c H locs cells slots ls' mc ms hC hH hS (jx_L_store hl hnc hl') h1 h2 h3 h4)
end
section
/-! keeping some locals -/
def jx_hs (lv : List (Nat × Value)) : List Nat → Prop
  | [] => True
  | i :: r => jx_lq lv i = some (jx_lk lv i) ∧ jx_hs lv r
def jx_kp (lv : List (Nat × Value)) : List Nat → List (Nat × Value)
  | [] => []
  | i :: r => (i, jx_lk lv i) :: jx_kp lv r
theorem jx_hs_e {lv : List (Nat × Value)} {i : Nat} {r : List Nat} : jx_hs lv (i :: r) = (jx_lq lv i = some (jx_lk lv i) ∧ jx_hs lv r) := rfl
theorem jx_hs_0 {lv : List (Nat × Value)} : jx_hs lv [] = True := rfl
theorem jx_kp_e {lv : List (Nat × Value)} {i : Nat} {r : List Nat} : jx_kp lv (i :: r) = (i, jx_lk lv i) :: jx_kp lv r := rfl
theorem jx_kp_0 {lv : List (Nat × Value)} : jx_kp lv [] = [] := rfl
theorem jx_kp_lq {lv : List (Nat × Value)} {i : Nat} {v : Value} : ∀ ks : List Nat, jx_hs lv ks → jx_lq (jx_kp lv ks) i = some v → jx_lq lv i = some v
  | [], _, h => by cases h
  | k :: r, h, q => by
    rw [jx_kp_e, jx_lq_e] at q
    by_cases e : k = i
    · rw [if_pos e] at q
      subst e
      rw [h.1]; exact q
    · rw [if_neg e] at q
      exact jx_kp_lq r h.2 q
def jt_keep (ks : List Nat) : jx_tr := fun σ P => match σ with
  | (lv, st, μ, b) => jx_hs lv ks ∧ P (jx_kp lv ks, st, μ, b)
theorem jt_keep_e (ks : List Nat) {lv : List (Nat × Value)} {st : List Value} {μ : jx_M} {b : Nat × Nat} {P : jx_S → Prop} : jt_keep ks (lv, st, μ, b) P = (jx_hs lv ks ∧ P (jx_kp lv ks, st, μ, b)) := rfl
theorem js_keep {g : jx_G} {me : jx_me} {pc : Nat} (ks : List Nat) : jx_So g me pc pc (jt_keep ks) := by
  intro K P σ hP ht
  obtain ⟨lv, st, μ, b⟩ := σ
  obtain ⟨hs, ht⟩ := ht
  intro p e R s m args below meth c H locs cells slots ls mc ms hC hH hS hl h1 h2 h3 h4
  exact hP _ ht p e R s m args below meth c H locs cells slots ls mc ms hC hH hS ⟨hl.1, hl.2.1, fun i v q => hl.2.2 i v (jx_kp_lq ks hs q)⟩ h1 h2 h3 h4
def jt_nop : jx_tr := fun σ P => P σ
theorem jt_nop_e {σ : jx_S} {P : jx_S → Prop} : jt_nop σ P = P σ := rfl
theorem js_goto {g : jx_G} {me : jx_me} {pc tgt : Nat} {off : Int} (hd : decode (jx_cc me) pc = .ok (.goto off, 3)) (ht : (pc : Int) + off = (tgt : Int)) : jx_So g me pc tgt jt_nop := by
  intro K P σ hP h
  intro p e R s m args below meth c H locs cells slots ls mc ms hC hH hS hl h1 h2 h3 h4
  exact lv_goto hC.1 hC.2.1 hd ht (hP _ h p e R s m args below meth c H locs cells slots ls mc ms hC hH hS hl h1 h2 h3 h4)
/-! branches -/
def jx_ic (r : Int32 → Int32 → Prop) (A B : jx_S → Prop) : jx_S → Prop := fun σ => match σ with
  | (lv, y :: x :: st, μ, b) => jx_i x ∧ jx_i y ∧ (r (jx_iv x) (jx_iv y) → A (lv, st, μ, b)) ∧ (¬ r (jx_iv x) (jx_iv y) → B (lv, st, μ, b))
  | _ => False
theorem jx_ic_e {r : Int32 → Int32 → Prop} {A B : jx_S → Prop} {x y : Value} {lv : List (Nat × Value)} {st : List Value} {μ : jx_M} {b : Nat × Nat} : jx_ic r A B (lv, y :: x :: st, μ, b) = (jx_i x ∧ jx_i y ∧ (r (jx_iv x) (jx_iv y) → A (lv, st, μ, b)) ∧ (¬ r (jx_iv x) (jx_iv y) → B (lv, st, μ, b))) := rfl
def jx_if (r : Int32 → Prop) (A B : jx_S → Prop) : jx_S → Prop := fun σ => match σ with
  | (lv, x :: st, μ, b) => jx_i x ∧ (r (jx_iv x) → A (lv, st, μ, b)) ∧ (¬ r (jx_iv x) → B (lv, st, μ, b))
  | _ => False
theorem jx_if_e {r : Int32 → Prop} {A B : jx_S → Prop} {x : Value} {lv : List (Nat × Value)} {st : List Value} {μ : jx_M} {b : Nat × Nat} : jx_if r A B (lv, x :: st, μ, b) = (jx_i x ∧ (r (jx_iv x) → A (lv, st, μ, b)) ∧ (¬ r (jx_iv x) → B (lv, st, μ, b))) := rfl
def jx_nl (A B : jx_S → Prop) : jx_S → Prop := fun σ => match σ with
  | (lv, x :: st, μ, b) => jx_a x ∧ (x = .null → A (lv, st, μ, b)) ∧ (¬ x = .null → B (lv, st, μ, b))
  | _ => False
theorem jx_nl_e {A B : jx_S → Prop} {x : Value} {lv : List (Nat × Value)} {st : List Value} {μ : jx_M} {b : Nat × Nat} : jx_nl A B (lv, x :: st, μ, b) = (jx_a x ∧ (x = .null → A (lv, st, μ, b)) ∧ (¬ x = .null → B (lv, st, μ, b))) := rfl

theorem jb_icmp_eq {g : jx_G} {me : jx_me} {pc tgt : Nat} {off : Int} {K : jx_Kt} (hd : decode (jx_cc me) pc = .ok (.if_icmp .eq off, 3)) (ht : (pc : Int) + off = (tgt : Int)) (σ : jx_S) (h : jx_ic (fun x y => x = y) (fun σ => jx_J g me tgt σ K) (fun σ => jx_J g me (pc + 3) σ K) σ) : jx_J g me pc σ K := by
  obtain ⟨lv, st, μ, b⟩ := σ
  rcases st with _ | ⟨y, _ | ⟨x, st⟩⟩
  · exact False.elim h
  · exact False.elim h
  · obtain ⟨⟨x, rfl⟩, ⟨y, rfl⟩, hA, hB⟩ := h
    intro p e R s m args below meth c H locs cells slots ls mc ms hC hH hS hl h1 h2 h3 h4
    exact lv_icmp_eq hC.1 hC.2.1 hd ht (fun q => hA q p e R s m args below meth c H locs cells slots ls mc ms hC hH hS hl h1 h2 h3 h4) (fun q => hB q p e R s m args below meth c H locs cells slots ls mc ms hC hH hS hl h1 h2 h3 h4)
theorem jb_if_eq {g : jx_G} {me : jx_me} {pc tgt : Nat} {off : Int} {K : jx_Kt} (hd : decode (jx_cc me) pc = .ok (.ifCond .eq off, 3)) (ht : (pc : Int) + off = (tgt : Int)) (σ : jx_S) (h : jx_if (fun x => x = 0) (fun σ => jx_J g me tgt σ K) (fun σ => jx_J g me (pc + 3) σ K) σ) : jx_J g me pc σ K := by
  obtain ⟨lv, st, μ, b⟩ := σ
  rcases st with _ | ⟨x, st⟩
  · exact False.elim h
  · obtain ⟨⟨x, rfl⟩, hA, hB⟩ := h
    intro p e R s m args below meth c H locs cells slots ls mc ms hC hH hS hl h1 h2 h3 h4
    exact lv_if_eq hC.1 hC.2.1 hd ht (fun q => hA q p e R s m args below meth c H locs cells slots ls mc ms hC hH hS hl h1 h2 h3 h4) (fun q => hB q p e R s m args below meth c H locs cells slots ls mc ms hC hH hS hl h1 h2 h3 h4)
theorem jb_icmp_ne {g : jx_G} {me : jx_me} {pc tgt : Nat} {off : Int} {K : jx_Kt} (hd : decode (jx_cc me) pc = .ok (.if_icmp .ne off, 3)) (ht : (pc : Int) + off = (tgt : Int)) (σ : jx_S) (h : jx_ic (fun x y => x ≠ y) (fun σ => jx_J g me tgt σ K) (fun σ => jx_J g me (pc + 3) σ K) σ) : jx_J g me pc σ K := by
  obtain ⟨lv, st, μ, b⟩ := σ
  rcases st with _ | ⟨y, _ | ⟨x, st⟩⟩
  · exact False.elim h
  · exact False.elim h
  · obtain ⟨⟨x, rfl⟩, ⟨y, rfl⟩, hA, hB⟩ := h
    intro p e R s m args below meth c H locs cells slots ls mc ms hC hH hS hl h1 h2 h3 h4
    exact lv_icmp_ne hC.1 hC.2.1 hd ht (fun q => hA q p e R s m args below meth c H locs cells slots ls mc ms hC hH hS hl h1 h2 h3 h4) (fun q => hB (fun h9 => h9 q) p e R s m args below meth c H locs cells slots ls mc ms hC hH hS hl h1 h2 h3 h4)
theorem jb_if_ne {g : jx_G} {me : jx_me} {pc tgt : Nat} {off : Int} {K : jx_Kt} (hd : decode (jx_cc me) pc = .ok (.ifCond .ne off, 3)) (ht : (pc : Int) + off = (tgt : Int)) (σ : jx_S) (h : jx_if (fun x => x ≠ 0) (fun σ => jx_J g me tgt σ K) (fun σ => jx_J g me (pc + 3) σ K) σ) : jx_J g me pc σ K := by
  obtain ⟨lv, st, μ, b⟩ := σ
  rcases st with _ | ⟨x, st⟩
  · exact False.elim h
  · obtain ⟨⟨x, rfl⟩, hA, hB⟩ := h
    intro p e R s m args below meth c H locs cells slots ls mc ms hC hH hS hl h1 h2 h3 h4
    exact lv_if_ne hC.1 hC.2.1 hd ht (fun q => hA q p e R s m args below meth c H locs cells slots ls mc ms hC hH hS hl h1 h2 h3 h4) (fun q => hB (fun h9 => h9 q) p e R s m args below meth c H locs cells slots ls mc ms hC hH hS hl h1 h2 h3 h4)
theorem jb_icmp_lt {g : jx_G} {me : jx_me} {pc tgt : Nat} {off : Int} {K : jx_Kt} (hd : decode (jx_cc me) pc = .ok (.if_icmp .lt off, 3)) (ht : (pc : Int) + off = (tgt : Int)) (σ : jx_S) (h : jx_ic (fun x y => x < y) (fun σ => jx_J g me tgt σ K) (fun σ => jx_J g me (pc + 3) σ K) σ) : jx_J g me pc σ K := by
  obtain ⟨lv, st, μ, b⟩ := σ
  rcases st with _ | ⟨y, _ | ⟨x, st⟩⟩
  · exact False.elim h
  · exact False.elim h
  · obtain ⟨⟨x, rfl⟩, ⟨y, rfl⟩, hA, hB⟩ := h
    intro p e R s m args below meth c H locs cells slots ls mc ms hC hH hS hl h1 h2 h3 h4
    exact lv_icmp_lt hC.1 hC.2.1 hd ht (fun q => hA q p e R s m args below meth c H locs cells slots ls mc ms hC hH hS hl h1 h2 h3 h4) (fun q => hB q p e R s m args below meth c H locs cells slots ls mc ms hC hH hS hl h1 h2 h3 h4)
theorem jb_if_lt {g : jx_G} {me : jx_me} {pc tgt : Nat} {off : Int} {K : jx_Kt} (hd : decode (jx_cc me) pc = .ok (.ifCond .lt off, 3)) (ht : (pc : Int) + off = (tgt : Int)) (σ : jx_S) (h : jx_if (fun x => x < 0) (fun σ => jx_J g me tgt σ K) (fun σ => jx_J g me (pc + 3) σ K) σ) : jx_J g me pc σ K := by
  obtain ⟨lv, st, μ, b⟩ := σ
  rcases st with _ | ⟨x, st⟩
  · exact False.elim h
  · obtain ⟨⟨x, rfl⟩, hA, hB⟩ := h
    intro p e R s m args below meth c H locs cells slots ls mc ms hC hH hS hl h1 h2 h3 h4
    exact lv_if_lt hC.1 hC.2.1 hd ht (fun q => hA q p e R s m args below meth c H locs cells slots ls mc ms hC hH hS hl h1 h2 h3 h4) (fun q => hB q p e R s m args below meth c H locs cells slots ls mc ms hC hH hS hl h1 h2 h3 h4)
theorem jb_icmp_ge {g : jx_G} {me : jx_me} {pc tgt : Nat} {off : Int} {K : jx_Kt} (hd : decode (jx_cc me) pc = .ok (.if_icmp .ge off, 3)) (ht : (pc : Int) + off = (tgt : Int)) (σ : jx_S) (h : jx_ic (fun x y => y ≤ x) (fun σ => jx_J g me tgt σ K) (fun σ => jx_J g me (pc + 3) σ K) σ) : jx_J g me pc σ K := by
  obtain ⟨lv, st, μ, b⟩ := σ
  rcases st with _ | ⟨y, _ | ⟨x, st⟩⟩
  · exact False.elim h
  · exact False.elim h
  · obtain ⟨⟨x, rfl⟩, ⟨y, rfl⟩, hA, hB⟩ := h
    intro p e R s m args below meth c H locs cells slots ls mc ms hC hH hS hl h1 h2 h3 h4
    exact lv_icmp_ge hC.1 hC.2.1 hd ht (fun q => hA q p e R s m args below meth c H locs cells slots ls mc ms hC hH hS hl h1 h2 h3 h4) (fun q => hB q p e R s m args below meth c H locs cells slots ls mc ms hC hH hS hl h1 h2 h3 h4)
theorem jb_if_ge {g : jx_G} {me : jx_me} {pc tgt : Nat} {off : Int} {K : jx_Kt} (hd : decode (jx_cc me) pc = .ok (.ifCond .ge off, 3)) (ht : (pc : Int) + off = (tgt : Int)) (σ : jx_S) (h : jx_if (fun x => 0 ≤ x) (fun σ => jx_J g me tgt σ K) (fun σ => jx_J g me (pc + 3) σ K) σ) : jx_J g me pc σ K := by
  obtain ⟨lv, st, μ, b⟩ := σ
  rcases st with _ | ⟨x, st⟩
  · exact False.elim h
  · obtain ⟨⟨x, rfl⟩, hA, hB⟩ := h
    intro p e R s m args below meth c H locs cells slots ls mc ms hC hH hS hl h1 h2 h3 h4
    exact lv_if_ge hC.1 hC.2.1 hd ht (fun q => hA q p e R s m args below meth c H locs cells slots ls mc ms hC hH hS hl h1 h2 h3 h4) (fun q => hB q p e R s m args below meth c H locs cells slots ls mc ms hC hH hS hl h1 h2 h3 h4)
theorem jb_icmp_gt {g : jx_G} {me : jx_me} {pc tgt : Nat} {off : Int} {K : jx_Kt} (hd : decode (jx_cc me) pc = .ok (.if_icmp .gt off, 3)) (ht : (pc : Int) + off = (tgt : Int)) (σ : jx_S) (h : jx_ic (fun x y => y < x) (fun σ => jx_J g me tgt σ K) (fun σ => jx_J g me (pc + 3) σ K) σ) : jx_J g me pc σ K := by
  obtain ⟨lv, st, μ, b⟩ := σ
  rcases st with _ | ⟨y, _ | ⟨x, st⟩⟩
  · exact False.elim h
  · exact False.elim h
  · obtain ⟨⟨x, rfl⟩, ⟨y, rfl⟩, hA, hB⟩ := h
    intro p e R s m args below meth c H locs cells slots ls mc ms hC hH hS hl h1 h2 h3 h4
    exact lv_icmp_gt hC.1 hC.2.1 hd ht (fun q => hA q p e R s m args below meth c H locs cells slots ls mc ms hC hH hS hl h1 h2 h3 h4) (fun q => hB q p e R s m args below meth c H locs cells slots ls mc ms hC hH hS hl h1 h2 h3 h4)
theorem jb_if_gt {g : jx_G} {me : jx_me} {pc tgt : Nat} {off : Int} {K : jx_Kt} (hd : decode (jx_cc me) pc = .ok (.ifCond .gt off, 3)) (ht : (pc : Int) + off = (tgt : Int)) (σ : jx_S) (h : jx_if (fun x => 0 < x) (fun σ => jx_J g me tgt σ K) (fun σ => jx_J g me (pc + 3) σ K) σ) : jx_J g me pc σ K := by
  obtain ⟨lv, st, μ, b⟩ := σ
  rcases st with _ | ⟨x, st⟩
  · exact False.elim h
  · obtain ⟨⟨x, rfl⟩, hA, hB⟩ := h
    intro p e R s m args below meth c H locs cells slots ls mc ms hC hH hS hl h1 h2 h3 h4
    exact lv_if_gt hC.1 hC.2.1 hd ht (fun q => hA q p e R s m args below meth c H locs cells slots ls mc ms hC hH hS hl h1 h2 h3 h4) (fun q => hB q p e R s m args below meth c H locs cells slots ls mc ms hC hH hS hl h1 h2 h3 h4)
theorem jb_icmp_le {g : jx_G} {me : jx_me} {pc tgt : Nat} {off : Int} {K : jx_Kt} (hd : decode (jx_cc me) pc = .ok (.if_icmp .le off, 3)) (ht : (pc : Int) + off = (tgt : Int)) (σ : jx_S) (h : jx_ic (fun x y => x ≤ y) (fun σ => jx_J g me tgt σ K) (fun σ => jx_J g me (pc + 3) σ K) σ) : jx_J g me pc σ K := by
  obtain ⟨lv, st, μ, b⟩ := σ
  rcases st with _ | ⟨y, _ | ⟨x, st⟩⟩
  · exact False.elim h
  · exact False.elim h
  · obtain ⟨⟨x, rfl⟩, ⟨y, rfl⟩, hA, hB⟩ := h
    intro p e R s m args below meth c H locs cells slots ls mc ms hC hH hS hl h1 h2 h3 h4
    exact lv_icmp_le hC.1 hC.2.1 hd ht (fun q => hA q p e R s m args below meth c H locs cells slots ls mc ms hC hH hS hl h1 h2 h3 h4) (fun q => hB q p e R s m args below meth c H locs cells slots ls mc ms hC hH hS hl h1 h2 h3 h4)
theorem jb_if_le {g : jx_G} {me : jx_me} {pc tgt : Nat} {off : Int} {K : jx_Kt} (hd : decode (jx_cc me) pc = .ok (.ifCond .le off, 3)) (ht : (pc : Int) + off = (tgt : Int)) (σ : jx_S) (h : jx_if (fun x => x ≤ 0) (fun σ => jx_J g me tgt σ K) (fun σ => jx_J g me (pc + 3) σ K) σ) : jx_J g me pc σ K := by
  obtain ⟨lv, st, μ, b⟩ := σ
  rcases st with _ | ⟨x, st⟩
  · exact False.elim h
  · obtain ⟨⟨x, rfl⟩, hA, hB⟩ := h
    intro p e R s m args below meth c H locs cells slots ls mc ms hC hH hS hl h1 h2 h3 h4
    exact lv_if_le hC.1 hC.2.1 hd ht (fun q => hA q p e R s m args below meth c H locs cells slots ls mc ms hC hH hS hl h1 h2 h3 h4) (fun q => hB q p e R s m args below meth c H locs cells slots ls mc ms hC hH hS hl h1 h2 h3 h4)
theorem jb_ifnull {g : jx_G} {me : jx_me} {pc tgt : Nat} {off : Int} {K : jx_Kt} (hd : decode (jx_cc me) pc = .ok (.ifnull off, 3)) (ht : (pc : Int) + off = (tgt : Int)) (σ : jx_S) (h : jx_nl (fun σ => jx_J g me tgt σ K) (fun σ => jx_J g me (pc + 3) σ K) σ) : jx_J g me pc σ K := by
  obtain ⟨lv, st, μ, b⟩ := σ
  rcases st with _ | ⟨x, st⟩
  · exact False.elim h
  · obtain ⟨ha, hA, hB⟩ := h
    intro p e R s m args below meth c H locs cells slots ls mc ms hC hH hS hl h1 h2 h3 h4
    rcases ha with rfl | ⟨a, rfl⟩
    · exact lv_ifnullN hC.1 hC.2.1 hd ht (hA rfl p e R s m args below meth c H locs cells slots ls mc ms hC hH hS hl h1 h2 h3 h4)
    · exact lv_ifnull hC.1 hC.2.1 hd (hB (fun q => by cases q) p e R s m args below meth c H locs cells slots ls mc ms hC hH hS hl h1 h2 h3 h4)
theorem jb_ifnonnull {g : jx_G} {me : jx_me} {pc tgt : Nat} {off : Int} {K : jx_Kt} (hd : decode (jx_cc me) pc = .ok (.ifnonnull off, 3)) (ht : (pc : Int) + off = (tgt : Int)) (σ : jx_S) (h : jx_nl (fun σ => jx_J g me (pc + 3) σ K) (fun σ => jx_J g me tgt σ K) σ) : jx_J g me pc σ K := by
  obtain ⟨lv, st, μ, b⟩ := σ
  rcases st with _ | ⟨x, st⟩
  · exact False.elim h
  · obtain ⟨ha, hA, hB⟩ := h
    intro p e R s m args below meth c H locs cells slots ls mc ms hC hH hS hl h1 h2 h3 h4
    rcases ha with rfl | ⟨a, rfl⟩
    · exact lv_ifnonnullN hC.1 hC.2.1 hd (hA rfl p e R s m args below meth c H locs cells slots ls mc ms hC hH hS hl h1 h2 h3 h4)
    · exact lv_ifnonnull hC.1 hC.2.1 hd ht (hB (fun q => by cases q) p e R s m args below meth c H locs cells slots ls mc ms hC hH hS hl h1 h2 h3 h4)
/-! ends -/
theorem jx_end {g : jx_G} {s t : State} {H : Heap} {locs : List Loc} {μ : jx_M} {K : jx_Kt} {v : Option Value} {args : Array Value} (hH : jx_H g s H μ) (hS : va_S (fun q => g.2.2.1 ≤ q) s.heap H locs) (hK : K (.inl v) μ) (ht : t.heap = H) (hW : s.WarmedH t.vm) : jx_Qc g K args s (.returned v) t :=
  ⟨v, μ, rfl, hK, by rw [ht]; exact jx_H_moved hW.alike hH, hS.F ht⟩
theorem jb_iret {g : jx_G} {me : jx_me} {pc : Nat} {K : jx_Kt} (hd : decode (jx_cc me) pc = .ok (.ireturn, 1)) (hr : jx_re me = some .int) {lv : List (Nat × Value)} {v : Int32} {μ : jx_M} {b : Nat × Nat} (h : K (.inl (some (.int v))) μ) : jx_J g me pc (lv, [.int v], μ, b) K := by
  intro p e R s m args below meth c H locs cells slots ls mc ms hC hH hS hl h1 h2 h3 h4
  refine vx_ret (W.widen (k := mc) (n := ms) (by omega) (by omega) ?_)
  exact W.iret hC.1 hC.2.1 (hC.2.2.2.2.1.trans hr) (fun t ht hW => jx_end hH hS h ht hW) hS.2.2 hd hC.2.2.2.2.2.1
theorem jb_zret {g : jx_G} {me : jx_me} {pc : Nat} {K : jx_Kt} (hd : decode (jx_cc me) pc = .ok (.ireturn, 1)) (hr : jx_re me = some .boolean) {lv : List (Nat × Value)} {v : Int32} {μ : jx_M} {b : Nat × Nat} (hv : v = 0 ∨ v = 1) (h : K (.inl (some (.int v))) μ) : jx_J g me pc (lv, [.int v], μ, b) K := by
  intro p e R s m args below meth c H locs cells slots ls mc ms hC hH hS hl h1 h2 h3 h4
  refine vx_ret (W.widen (k := mc) (n := ms) (by omega) (by omega) ?_)
  exact W.zret hC.1 hC.2.1 (hC.2.2.2.2.1.trans hr) (by rcases hv with rfl | rfl <;> rfl) (fun t ht hW => jx_end hH hS h ht hW) hS.2.2 hd hC.2.2.2.2.2.1
theorem jb_vret {g : jx_G} {me : jx_me} {pc : Nat} {K : jx_Kt} (hd : decode (jx_cc me) pc = .ok (.return_, 1)) (hr : jx_re me = none) {lv : List (Nat × Value)} {μ : jx_M} {b : Nat × Nat} (h : K (.inl none) μ) : jx_J g me pc (lv, [], μ, b) K := by
  intro p e R s m args below meth c H locs cells slots ls mc ms hC hH hS hl h1 h2 h3 h4
  refine vx_ret (W.widen (k := mc) (n := ms) (by omega) (by omega) ?_)
  exact W.vret hC.1 hC.2.1 (hC.2.2.2.2.1.trans hr) (fun t ht hW => jx_end hH hS h ht hW) hS.2.2 hd hC.2.2.2.2.2.1
theorem jb_aret {g : jx_G} {me : jx_me} {pc : Nat} {K : jx_Kt} {C : String} (hd : decode (jx_cc me) pc = .ok (.areturn, 1)) (hr : jx_re me = some (.object C)) {lv : List (Nat × Value)} {v : Value} {μ : jx_M} {b : Nat × Nat} (hv : jx_a v) (h : K (.inl (some v)) μ) : jx_J g me pc (lv, [v], μ, b) K := by
  intro p e R s m args below meth c H locs cells slots ls mc ms hC hH hS hl h1 h2 h3 h4
  refine vx_ret (W.widen (k := mc) (n := ms) (by omega) (by omega) ?_)
  exact W.aret hC.1 hC.2.1 (hC.2.2.2.2.1.trans hr) (Or.inl ⟨C, rfl⟩) hv (fun t ht hW => jx_end hH hS h ht hW) hS.2.2 hd hC.2.2.2.2.2.1
theorem jb_lret {g : jx_G} {me : jx_me} {pc : Nat} {K : jx_Kt} (hd : decode (jx_cc me) pc = .ok (.lreturn, 1)) (hr : jx_re me = some .long) {lv : List (Nat × Value)} {v : Int64} {μ : jx_M} {b : Nat × Nat} (h : K (.inl (some (.long v))) μ) : jx_J g me pc (lv, [.long v], μ, b) K := by
  intro p e R s m args below meth c H locs cells slots ls mc ms hC hH hS hl h1 h2 h3 h4
  refine vx_ret (W.widen (k := mc) (n := ms) (by omega) (by omega) ?_)
  exact W.lret hC.1 hC.2.1 (hC.2.2.2.2.1.trans hr) (fun t ht hW => jx_end hH hS h ht hW) hS.2.2 hd hC.2.2.2.2.2.1
/-! fields -/
def jx_ok (μ : jx_M) (a lo hi : Nat) : Prop := ∃ ci, jx_kn μ a = some (.inl ci) ∧ lo ≤ ci ∧ ci ≤ hi
theorem jx_ok_of {μ : jx_M} {a lo hi ci : Nat} (h : jx_kn μ a = some (.inl ci)) (h1 : lo ≤ ci) (h2 : ci ≤ hi) : jx_ok μ a lo hi := ⟨ci, h, h1, h2⟩
def jx_fo (own : String) (idx k lo hi : Nat) (fin : Bool) (ty : FieldType) : Prop := ∃ ref name desc : String, Cond.fieldLink own idx ref name desc ∈ jx_ws ∧ parseFieldDescriptor desc = some ty ∧ ∀ ci, lo ≤ ci → ci ≤ hi → ∃ (C : String) (T : u_T) (N : Nat), jx_cl[ci]? = some (C, T, N) ∧ k < N ∧ (T k).2.1 = name ∧ (T k).2.2.1 = desc ∧ (T k).2.2.2 = fin ∧ ((T k).1 = ref ∨ Cond.sameField ref (T k).1 name desc ∈ jx_ws)
def jx_dl (own : String) (k lo hi : Nat) : Prop := ∀ ci, lo ≤ ci → ci ≤ hi → ∃ (C : String) (T : u_T) (N : Nat), jx_cl[ci]? = some (C, T, N) ∧ (T k).1 = own
theorem jx_H_put {g : jx_G} {U : State} {H H' : Heap} {μ μ' : jx_M} {a : Nat} {k : jx_K} (h : jx_H g U H μ) (hk : jx_kn μ a = some k) (e2 : H'.size = H.size) (e3 : ∀ q, q ≠ a → H'[q]? = H[q]?) (hs : jx_sz μ' = jx_sz μ) (hn : jx_kn μ' = jx_kn μ)
    (hi : ∀ q, q ≠ a → ∀ j, jx_vi μ' q j = jx_vi μ q j) (hl : ∀ q, q ≠ a → ∀ j, jx_vl μ' q j = jx_vl μ q j) (hr : ∀ q, q ≠ a → ∀ j, jx_vr μ' q j = jx_vr μ q j) (ha : jx_at g U μ' H' a k) : jx_H g U H' μ' := by
  refine ⟨by rw [e2]; exact h.1, by rw [e2, hs]; exact h.2.1, fun q k' hq => ?_⟩
  rw [hn] at hq
  by_cases e : q = a
  · subst e
    cases Option.some.inj (hk.symm.trans hq)
    exact ha
  · exact jx_at_kept (h.2.2 q k' hq) (e3 q e) (hi q e) (hl q e) (hr q e)
theorem jx_si_sz {μ : jx_M} {a k : Nat} {v : Int32} : jx_sz (jx_si μ a k v) = jx_sz μ := rfl
theorem jx_si_kn {μ : jx_M} {a k : Nat} {v : Int32} : jx_kn (jx_si μ a k v) = jx_kn μ := rfl
theorem jx_si_vi {μ : jx_M} {a k a' k' : Nat} {v : Int32} : jx_vi (jx_si μ a k v) a' k' = if a' = a ∧ k' = k then v else jx_vi μ a' k' := rfl
theorem jx_si_vl {μ : jx_M} {a k : Nat} {v : Int32} : jx_vl (jx_si μ a k v) = jx_vl μ := rfl
theorem jx_si_vr {μ : jx_M} {a k : Nat} {v : Int32} : jx_vr (jx_si μ a k v) = jx_vr μ := rfl
theorem jx_sl_sz {μ : jx_M} {a k : Nat} {v : Int64} : jx_sz (jx_sl μ a k v) = jx_sz μ := rfl
theorem jx_sl_kn {μ : jx_M} {a k : Nat} {v : Int64} : jx_kn (jx_sl μ a k v) = jx_kn μ := rfl
theorem jx_sl_vi {μ : jx_M} {a k : Nat} {v : Int64} : jx_vi (jx_sl μ a k v) = jx_vi μ := rfl
theorem jx_sl_vl {μ : jx_M} {a k a' k' : Nat} {v : Int64} : jx_vl (jx_sl μ a k v) a' k' = if a' = a ∧ k' = k then v else jx_vl μ a' k' := rfl
theorem jx_sl_vr {μ : jx_M} {a k : Nat} {v : Int64} : jx_vr (jx_sl μ a k v) = jx_vr μ := rfl
theorem jx_sr_sz {μ : jx_M} {a k : Nat} {v : Option Nat} : jx_sz (jx_sr μ a k v) = jx_sz μ := rfl
theorem jx_sr_kn {μ : jx_M} {a k : Nat} {v : Option Nat} : jx_kn (jx_sr μ a k v) = jx_kn μ := rfl
theorem jx_sr_vi {μ : jx_M} {a k : Nat} {v : Option Nat} : jx_vi (jx_sr μ a k v) = jx_vi μ := rfl
theorem jx_sr_vl {μ : jx_M} {a k : Nat} {v : Option Nat} : jx_vl (jx_sr μ a k v) = jx_vl μ := rfl
theorem jx_sr_vr {μ : jx_M} {a k a' k' : Nat} {v : Option Nat} : jx_vr (jx_sr μ a k v) a' k' = if a' = a ∧ k' = k then v else jx_vr μ a' k' := rfl

def jt_gfi (k lo hi : Nat) : jx_tr := fun σ P => match σ with
  | (lv, x :: st, μ, b) => jx_r x ∧ jx_ok μ (jx_ad x) lo hi ∧ P (lv, .int (jx_vi μ (jx_ad x) k) :: st, μ, b)
  | _ => False
theorem jt_gfi_e (k lo hi : Nat) {x : Value} {lv : List (Nat × Value)} {st : List Value} {μ : jx_M} {b : Nat × Nat} {P : jx_S → Prop} : jt_gfi k lo hi (lv, x :: st, μ, b) P = (jx_r x ∧ jx_ok μ (jx_ad x) lo hi ∧ P (lv, .int (jx_vi μ (jx_ad x) k) :: st, μ, b)) := rfl
theorem js_gfi {g : jx_G} {me : jx_me} {pc k lo hi idx : Nat} {fin : Bool} {ty : FieldType} (hd : decode (jx_cc me) pc = .ok (.getfield idx, 3)) (hf : jx_fo (jx_ow me) idx k lo hi fin ty) (hty : jx_isr ty = false) : jx_So g me pc (pc + 3) (jt_gfi k lo hi) := by
  intro K P σ hP ht
  obtain ⟨lv, st, μ, b⟩ := σ
  rcases st with _ | ⟨x, st⟩
  · exact False.elim ht
  · obtain ⟨⟨a, rfl⟩, ⟨ci, hk, hlo, hhi⟩, ht⟩ := ht
    intro p e R s m args below meth c H locs cells slots ls mc ms hC hH hS hl h1 h2 h3 h4
    obtain ⟨ref, name, desc, hlink, hpd, hall⟩ := hf
    obtain ⟨C, T, N, hc, hkN, rfl, rfl, -, hsame⟩ := hall ci hlo hhi
    obtain ⟨-, r, hr, cell, q1, q2, q3, q4⟩ := hH.2.2 _ _ hk
    have er : r = (C, T, N) := Option.some.inj (hr.symm.trans hc)
    subst er
    have hts := hC.2.2.2.2.2.2.2.2.1
    obtain ⟨hSl, hfc, kC, hkC, hkind⟩ := (jx_Ga_K hC.2.2.2.2.2.2.2.2.2.1).1 ci _ hc
    obtain ⟨cf, kf, fi, f, hi9, hsl⟩ := hSl k hkN
    obtain ⟨t1, t2, t3⟩ := jx_ct hc
    have hsm : s.fieldFound? ref (T k).2.1 (T k).2.2.1 = some (cf, kf, fi, f) := by
      rcases hsame with e9 | h9
      · rw [← e9]; exact hi9
      · exact u_same (hts _ h9) _ hi9
    refine W.getf hC.1 hC.2.1 hC.2.2.2.1 (hts _ hlink) hsm (u_facts hfc hkC (u_lays hts t1 hkN) hi9).1 q1 (by rw [q3]; exact fun h => by cases h) (v := .int (jx_vi μ a k)) ?_ rfl rfl hd (hP _ ht p e R s m args below meth c H locs cells slots ls mc ms hC hH hS hl h1 h2 h3 h4)
    rw [hsl, q4 k hkN]
    have hty9 : jx_rt ci k = false := by
      have h9 := t2 k hkN
      rw [hpd] at h9
      rw [jx_rt_ty ci k, ← Option.some.inj h9]; exact hty
    simp [jx_V, hty9, jx_ad]
def jt_gfr (k lo hi : Nat) : jx_tr := fun σ P => match σ with
  | (lv, x :: st, μ, b) => jx_r x ∧ jx_ok μ (jx_ad x) lo hi ∧ P (lv, va_rf (jx_vr μ (jx_ad x) k) :: st, μ, b)
  | _ => False
theorem jt_gfr_e (k lo hi : Nat) {x : Value} {lv : List (Nat × Value)} {st : List Value} {μ : jx_M} {b : Nat × Nat} {P : jx_S → Prop} : jt_gfr k lo hi (lv, x :: st, μ, b) P = (jx_r x ∧ jx_ok μ (jx_ad x) lo hi ∧ P (lv, va_rf (jx_vr μ (jx_ad x) k) :: st, μ, b)) := rfl
theorem js_gfr {g : jx_G} {me : jx_me} {pc k lo hi idx : Nat} {fin : Bool} {ty : FieldType} (hd : decode (jx_cc me) pc = .ok (.getfield idx, 3)) (hf : jx_fo (jx_ow me) idx k lo hi fin ty) (hty : jx_isr ty = true) : jx_So g me pc (pc + 3) (jt_gfr k lo hi) := by
  intro K P σ hP ht
  obtain ⟨lv, st, μ, b⟩ := σ
  rcases st with _ | ⟨x, st⟩
  · exact False.elim ht
  · obtain ⟨⟨a, rfl⟩, ⟨ci, hk, hlo, hhi⟩, ht⟩ := ht
    intro p e R s m args below meth c H locs cells slots ls mc ms hC hH hS hl h1 h2 h3 h4
    obtain ⟨ref, name, desc, hlink, hpd, hall⟩ := hf
    obtain ⟨C, T, N, hc, hkN, rfl, rfl, -, hsame⟩ := hall ci hlo hhi
    obtain ⟨-, r, hr, cell, q1, q2, q3, q4⟩ := hH.2.2 _ _ hk
    have er : r = (C, T, N) := Option.some.inj (hr.symm.trans hc)
    subst er
    have hts := hC.2.2.2.2.2.2.2.2.1
    obtain ⟨hSl, hfc, kC, hkC, hkind⟩ := (jx_Ga_K hC.2.2.2.2.2.2.2.2.2.1).1 ci _ hc
    obtain ⟨cf, kf, fi, f, hi9, hsl⟩ := hSl k hkN
    obtain ⟨t1, t2, t3⟩ := jx_ct hc
    have hsm : s.fieldFound? ref (T k).2.1 (T k).2.2.1 = some (cf, kf, fi, f) := by
      rcases hsame with e9 | h9
      · rw [← e9]; exact hi9
      · exact u_same (hts _ h9) _ hi9
    refine W.getf hC.1 hC.2.1 hC.2.2.2.1 (hts _ hlink) hsm (u_facts hfc hkC (u_lays hts t1 hkN) hi9).1 q1 (by rw [q3]; exact fun h => by cases h) (v := va_rf (jx_vr μ a k)) ?_ rfl rfl hd (hP _ ht p e R s m args below meth c H locs cells slots ls mc ms hC hH hS hl h1 h2 h3 h4)
    rw [hsl, q4 k hkN]
    have hty9 : jx_rt ci k = true := by
      have h9 := t2 k hkN
      rw [hpd] at h9
      rw [jx_rt_ty ci k, ← Option.some.inj h9]; exact hty
    simp [jx_V, hty9, jx_ad]
def jt_pfi (k lo hi : Nat) : jx_tr := fun σ P => match σ with
  | (lv, x :: y :: st, μ, b) => jx_i x ∧ jx_r y ∧ jx_ok μ (jx_ad y) lo hi ∧ P (lv, st, jx_si μ (jx_ad y) k (jx_iv x), b)
  | _ => False
theorem jt_pfi_e (k lo hi : Nat) {x y : Value} {lv : List (Nat × Value)} {st : List Value} {μ : jx_M} {b : Nat × Nat} {P : jx_S → Prop} : jt_pfi k lo hi (lv, x :: y :: st, μ, b) P = (jx_i x ∧ jx_r y ∧ jx_ok μ (jx_ad y) lo hi ∧ P (lv, st, jx_si μ (jx_ad y) k (jx_iv x), b)) := rfl
theorem js_pfi {g : jx_G} {me : jx_me} {pc k lo hi idx : Nat} {ty : FieldType} (hd : decode (jx_cc me) pc = .ok (.putfield idx, 3)) (hf : jx_fo (jx_ow me) idx k lo hi false ty) (hty : ty = .int) : jx_So g me pc (pc + 3) (jt_pfi k lo hi) := by
  intro K P σ hP ht
  obtain ⟨lv, st, μ, b⟩ := σ
  rcases st with _ | ⟨x, _ | ⟨y, st⟩⟩
  · exact False.elim ht
  · exact False.elim ht
  · obtain ⟨hx, ⟨a, rfl⟩, ⟨ci, hk, hlo, hhi⟩, ht⟩ := ht
    obtain ⟨x, rfl⟩ := hx
    subst hty
    have hk : jx_kn μ a = some (.inl ci) := hk
    have ht : P (lv, st, jx_si μ a k x, b) := ht
    intro p e R s m args below meth c H locs cells slots ls mc ms hC hH hS hl h1 h2 h3 h4
    obtain ⟨ref, name, desc, hlink, hpd, hall⟩ := hf
    obtain ⟨C, T, N, hc, hkN, rfl, rfl, hfin, hsame⟩ := hall ci hlo hhi
    obtain ⟨hB, r, hr, cell, q1, q2, q3, q4⟩ := hH.2.2 _ _ hk
    have er : r = (C, T, N) := Option.some.inj (hr.symm.trans hc)
    subst er
    have hts := hC.2.2.2.2.2.2.2.2.1
    have hKK := jx_Ga_K hC.2.2.2.2.2.2.2.2.2.1
    obtain ⟨hSl, hfc, kC, hkC, hkind⟩ := hKK.1 ci _ hc
    obtain ⟨cf, kf, fi, f, hi9, hsl⟩ := hSl k hkN
    obtain ⟨t1, t2, t3⟩ := jx_ct hc
    have hap := va_apart (own := C) hts t1 (jx_ty ci) t2 t3 hKK hc
    have hsm : s.fieldFound? ref (T k).2.1 (T k).2.2.1 = some (cf, kf, fi, f) := by
      rcases hsame with e9 | h9
      · rw [← e9]; exact hi9
      · exact u_same (hts _ h9) _ hi9
    have hlay := hts _ (t1 _ (u_in_lay hkN))
    unfold u_lay at hlay
    have hst := (u_facts hfc hkC (u_lays hts t1 hkN) hi9).1
    rw [if_neg (by rw [hfin]; decide)] at hlay
    have h6 := u_store hfc hkC hkind hlay hi9 hpd (v := .int x) rfl rfl
    refine W.putK hC.1 hC.2.1 (f := f) ⟨hC.2.2.2.1, hts _ hlink, ⟨_, _, _, hsm⟩, hst⟩ (by rw [q2]; exact h6) q1 q3 (by rw [hsl]; exact k2_hasslot (q4 k hkN)) rfl rfl hd fun H' e1 e2 e3 => ?_
    rw [hsl] at e1 ⊢
    have hty9 : jx_rt ci k = false := by
      have h9 := t2 k hkN
      rw [hpd] at h9
      rw [jx_rt_ty ci k, ← Option.some.inj h9]; rfl
    refine hP _ ht p e R s m args below meth c H' _ cells slots ls mc ms hC ?_ (hS.put e2 e3 hB) hl h1 h2 h3 h4
    refine jx_H_put hH hk e2 e3 rfl rfl (fun q hq j => by simp [jx_si, jx_vi, jx_u2, jx_ad, hq]) (fun _ _ _ => rfl) (fun _ _ _ => rfl) ⟨hB, _, hc, t_OB.to (V := updV (jx_V μ a ci) k (.int x)) ⟨_, e1, q2, q3, t_set q4 hap hkN _⟩ (fun j _ => ?_)⟩
    by_cases hj : j = k
    · subst hj
      simp [updV, jx_V, hty9, jx_si, jx_vi, jx_u2, jx_ad]
    · simp [updV, jx_V, hj, jx_si, jx_vi, jx_vr, jx_u2]
theorem js_pfiF {g : jx_G} {me : jx_me} {pc k lo hi idx : Nat} {ty : FieldType} (hd : decode (jx_cc me) pc = .ok (.putfield idx, 3)) (hf : jx_fo (jx_ow me) idx k lo hi true ty) (hty : ty = .int) (hini : jx_ini me = true) (hdl : jx_dl (jx_ow me) k lo hi) : jx_So g me pc (pc + 3) (jt_pfi k lo hi) := by
  intro K P σ hP ht
  obtain ⟨lv, st, μ, b⟩ := σ
  rcases st with _ | ⟨x, _ | ⟨y, st⟩⟩
  · exact False.elim ht
  · exact False.elim ht
  · obtain ⟨hx, ⟨a, rfl⟩, ⟨ci, hk, hlo, hhi⟩, ht⟩ := ht
    obtain ⟨x, rfl⟩ := hx
    subst hty
    have hk : jx_kn μ a = some (.inl ci) := hk
    have ht : P (lv, st, jx_si μ a k x, b) := ht
    intro p e R s m args below meth c H locs cells slots ls mc ms hC hH hS hl h1 h2 h3 h4
    obtain ⟨ref, name, desc, hlink, hpd, hall⟩ := hf
    obtain ⟨C, T, N, hc, hkN, rfl, rfl, hfin, hsame⟩ := hall ci hlo hhi
    obtain ⟨hB, r, hr, cell, q1, q2, q3, q4⟩ := hH.2.2 _ _ hk
    have er : r = (C, T, N) := Option.some.inj (hr.symm.trans hc)
    subst er
    have hts := hC.2.2.2.2.2.2.2.2.1
    have hKK := jx_Ga_K hC.2.2.2.2.2.2.2.2.2.1
    obtain ⟨hSl, hfc, kC, hkC, hkind⟩ := hKK.1 ci _ hc
    obtain ⟨cf, kf, fi, f, hi9, hsl⟩ := hSl k hkN
    obtain ⟨t1, t2, t3⟩ := jx_ct hc
    have hap := va_apart (own := C) hts t1 (jx_ty ci) t2 t3 hKK hc
    have hsm : s.fieldFound? ref (T k).2.1 (T k).2.2.1 = some (cf, kf, fi, f) := by
      rcases hsame with e9 | h9
      · rw [← e9]; exact hi9
      · exact u_same (hts _ h9) _ hi9
    have hlay := hts _ (t1 _ (u_in_lay hkN))
    unfold u_lay at hlay
    have hst := (u_facts hfc hkC (u_lays hts t1 hkN) hi9).1
    rw [if_pos hfin] at hlay
    have hcf : m.cls = cf := by
      obtain ⟨_, _, c', _, _, _, -, -, hf', -, -, -, hown2, -⟩ := Cond.laysFinal_spec hlay
      have e1 : c' = cf := by have := hi9.symm.trans hf'; simp at this; exact this.1.symm
      obtain ⟨C9, T9, N9, hc9, hdecl⟩ := hdl ci hlo hhi
      cases Option.some.inj (hc9.symm.trans hc)
      rw [hdecl] at hown2
      rw [← e1]; exact Option.some.inj (hC.2.2.2.1.symm.trans hown2)
    have h6 := u_fits hfc hkC hkind (Or.inr hlay) hi9 hpd (v := .int x) rfl rfl
    refine W.putFinK hC.1 hC.2.1 hC.2.2.2.1 (hts _ hlink) hsm hst hcf (hC.2.2.2.2.2.2.1 hini) (by rw [q2]; exact h6) q1 q3 (by rw [hsl]; exact k2_hasslot (q4 k hkN)) rfl rfl hd fun H' e1 e2 e3 => ?_
    rw [hsl] at e1 ⊢
    have hty9 : jx_rt ci k = false := by
      have h9 := t2 k hkN
      rw [hpd] at h9
      rw [jx_rt_ty ci k, ← Option.some.inj h9]; rfl
    refine hP _ ht p e R s m args below meth c H' _ cells slots ls mc ms hC ?_ (hS.put e2 e3 hB) hl h1 h2 h3 h4
    refine jx_H_put hH hk e2 e3 rfl rfl (fun q hq j => by simp [jx_si, jx_vi, jx_u2, jx_ad, hq]) (fun _ _ _ => rfl) (fun _ _ _ => rfl) ⟨hB, _, hc, t_OB.to (V := updV (jx_V μ a ci) k (.int x)) ⟨_, e1, q2, q3, t_set q4 hap hkN _⟩ (fun j _ => ?_)⟩
    by_cases hj : j = k
    · subst hj
      simp [updV, jx_V, hty9, jx_si, jx_vi, jx_u2, jx_ad]
    · simp [updV, jx_V, hj, jx_si, jx_vi, jx_vr, jx_u2]
def jt_pfz (k lo hi : Nat) : jx_tr := fun σ P => match σ with
  | (lv, x :: y :: st, μ, b) => (x = .int 0 ∨ x = .int 1) ∧ jx_r y ∧ jx_ok μ (jx_ad y) lo hi ∧ P (lv, st, jx_si μ (jx_ad y) k (jx_iv x), b)
  | _ => False
theorem jt_pfz_e (k lo hi : Nat) {x y : Value} {lv : List (Nat × Value)} {st : List Value} {μ : jx_M} {b : Nat × Nat} {P : jx_S → Prop} : jt_pfz k lo hi (lv, x :: y :: st, μ, b) P = ((x = .int 0 ∨ x = .int 1) ∧ jx_r y ∧ jx_ok μ (jx_ad y) lo hi ∧ P (lv, st, jx_si μ (jx_ad y) k (jx_iv x), b)) := rfl
theorem js_pfz {g : jx_G} {me : jx_me} {pc k lo hi idx : Nat} {ty : FieldType} (hd : decode (jx_cc me) pc = .ok (.putfield idx, 3)) (hf : jx_fo (jx_ow me) idx k lo hi false ty) (hty : ty = .boolean) : jx_So g me pc (pc + 3) (jt_pfz k lo hi) := by
  intro K P σ hP ht
  obtain ⟨lv, st, μ, b⟩ := σ
  rcases st with _ | ⟨x, _ | ⟨y, st⟩⟩
  · exact False.elim ht
  · exact False.elim ht
  · obtain ⟨hx, ⟨a, rfl⟩, ⟨ci, hk, hlo, hhi⟩, ht⟩ := ht
    obtain ⟨x, rfl, hz⟩ : ∃ z, x = .int z ∧ (z = 0 ∨ z = 1) := by
      rcases hx with h | h
      · exact ⟨0, h, Or.inl rfl⟩
      · exact ⟨1, h, Or.inr rfl⟩
    subst hty
    have hk : jx_kn μ a = some (.inl ci) := hk
    have ht : P (lv, st, jx_si μ a k x, b) := ht
    intro p e R s m args below meth c H locs cells slots ls mc ms hC hH hS hl h1 h2 h3 h4
    obtain ⟨ref, name, desc, hlink, hpd, hall⟩ := hf
    obtain ⟨C, T, N, hc, hkN, rfl, rfl, hfin, hsame⟩ := hall ci hlo hhi
    obtain ⟨hB, r, hr, cell, q1, q2, q3, q4⟩ := hH.2.2 _ _ hk
    have er : r = (C, T, N) := Option.some.inj (hr.symm.trans hc)
    subst er
    have hts := hC.2.2.2.2.2.2.2.2.1
    have hKK := jx_Ga_K hC.2.2.2.2.2.2.2.2.2.1
    obtain ⟨hSl, hfc, kC, hkC, hkind⟩ := hKK.1 ci _ hc
    obtain ⟨cf, kf, fi, f, hi9, hsl⟩ := hSl k hkN
    obtain ⟨t1, t2, t3⟩ := jx_ct hc
    have hap := va_apart (own := C) hts t1 (jx_ty ci) t2 t3 hKK hc
    have hsm : s.fieldFound? ref (T k).2.1 (T k).2.2.1 = some (cf, kf, fi, f) := by
      rcases hsame with e9 | h9
      · rw [← e9]; exact hi9
      · exact u_same (hts _ h9) _ hi9
    have hlay := hts _ (t1 _ (u_in_lay hkN))
    unfold u_lay at hlay
    have hst := (u_facts hfc hkC (u_lays hts t1 hkN) hi9).1
    rw [if_neg (by rw [hfin]; decide)] at hlay
    have h6 := u_store hfc hkC hkind hlay hi9 hpd (v := .int x) (by rcases hz with rfl | rfl <;> rfl) (by rcases hz with rfl | rfl <;> rfl)
    refine W.putK hC.1 hC.2.1 (f := f) ⟨hC.2.2.2.1, hts _ hlink, ⟨_, _, _, hsm⟩, hst⟩ (by rw [q2]; exact h6) q1 q3 (by rw [hsl]; exact k2_hasslot (q4 k hkN)) rfl rfl hd fun H' e1 e2 e3 => ?_
    rw [hsl] at e1 ⊢
    have hty9 : jx_rt ci k = false := by
      have h9 := t2 k hkN
      rw [hpd] at h9
      rw [jx_rt_ty ci k, ← Option.some.inj h9]; rfl
    refine hP _ ht p e R s m args below meth c H' _ cells slots ls mc ms hC ?_ (hS.put e2 e3 hB) hl h1 h2 h3 h4
    refine jx_H_put hH hk e2 e3 rfl rfl (fun q hq j => by simp [jx_si, jx_vi, jx_u2, jx_ad, hq]) (fun _ _ _ => rfl) (fun _ _ _ => rfl) ⟨hB, _, hc, t_OB.to (V := updV (jx_V μ a ci) k (.int x)) ⟨_, e1, q2, q3, t_set q4 hap hkN _⟩ (fun j _ => ?_)⟩
    by_cases hj : j = k
    · subst hj
      simp [updV, jx_V, hty9, jx_si, jx_vi, jx_u2, jx_ad]
    · simp [updV, jx_V, hj, jx_si, jx_vi, jx_vr, jx_u2]
def jt_pfr (k lo hi : Nat) : jx_tr := fun σ P => match σ with
  | (lv, x :: y :: st, μ, b) => jx_a x ∧ jx_r y ∧ jx_ok μ (jx_ad y) lo hi ∧ P (lv, st, jx_sr μ (jx_ad y) k (jx_rv x), b)
  | _ => False
theorem jt_pfr_e (k lo hi : Nat) {x y : Value} {lv : List (Nat × Value)} {st : List Value} {μ : jx_M} {b : Nat × Nat} {P : jx_S → Prop} : jt_pfr k lo hi (lv, x :: y :: st, μ, b) P = (jx_a x ∧ jx_r y ∧ jx_ok μ (jx_ad y) lo hi ∧ P (lv, st, jx_sr μ (jx_ad y) k (jx_rv x), b)) := rfl
theorem js_pfr {g : jx_G} {me : jx_me} {pc k lo hi idx : Nat} {ty : FieldType} (hd : decode (jx_cc me) pc = .ok (.putfield idx, 3)) (hf : jx_fo (jx_ow me) idx k lo hi false ty) (hty : jx_isr ty = true) : jx_So g me pc (pc + 3) (jt_pfr k lo hi) := by
  intro K P σ hP ht
  obtain ⟨lv, st, μ, b⟩ := σ
  rcases st with _ | ⟨x, _ | ⟨y, st⟩⟩
  · exact False.elim ht
  · exact False.elim ht
  · obtain ⟨hx, ⟨a, rfl⟩, ⟨ci, hk, hlo, hhi⟩, ht⟩ := ht
    obtain ⟨o, rfl⟩ : ∃ o, x = va_rf o := by
      rcases hx with rfl | ⟨a9, rfl⟩
      · exact ⟨none, rfl⟩
      · exact ⟨some a9, rfl⟩
    rw [jx_rv_rf] at ht
    have hk : jx_kn μ a = some (.inl ci) := hk
    have ht : P (lv, st, jx_sr μ a k o, b) := ht
    intro p e R s m args below meth c H locs cells slots ls mc ms hC hH hS hl h1 h2 h3 h4
    obtain ⟨ref, name, desc, hlink, hpd, hall⟩ := hf
    obtain ⟨C, T, N, hc, hkN, rfl, rfl, hfin, hsame⟩ := hall ci hlo hhi
    obtain ⟨hB, r, hr, cell, q1, q2, q3, q4⟩ := hH.2.2 _ _ hk
    have er : r = (C, T, N) := Option.some.inj (hr.symm.trans hc)
    subst er
    have hts := hC.2.2.2.2.2.2.2.2.1
    have hKK := jx_Ga_K hC.2.2.2.2.2.2.2.2.2.1
    obtain ⟨hSl, hfc, kC, hkC, hkind⟩ := hKK.1 ci _ hc
    obtain ⟨cf, kf, fi, f, hi9, hsl⟩ := hSl k hkN
    obtain ⟨t1, t2, t3⟩ := jx_ct hc
    have hap := va_apart (own := C) hts t1 (jx_ty ci) t2 t3 hKK hc
    have hsm : s.fieldFound? ref (T k).2.1 (T k).2.2.1 = some (cf, kf, fi, f) := by
      rcases hsame with e9 | h9
      · rw [← e9]; exact hi9
      · exact u_same (hts _ h9) _ hi9
    have hlay := hts _ (t1 _ (u_in_lay hkN))
    unfold u_lay at hlay
    have hst := (u_facts hfc hkC (u_lays hts t1 hkN) hi9).1
    rw [if_neg (by rw [hfin]; decide)] at hlay
    have h6 := u_store hfc hkC hkind hlay hi9 hpd (v := va_rf o) (jx_nar_rf hty) (jx_fit_rf hty)
    refine W.putK hC.1 hC.2.1 (f := f) ⟨hC.2.2.2.1, hts _ hlink, ⟨_, _, _, hsm⟩, hst⟩ (by rw [q2]; exact h6) q1 q3 (by rw [hsl]; exact k2_hasslot (q4 k hkN)) rfl rfl hd fun H' e1 e2 e3 => ?_
    rw [hsl] at e1 ⊢
    have hty9 : jx_rt ci k = true := by
      have h9 := t2 k hkN
      rw [hpd] at h9
      rw [jx_rt_ty ci k, ← Option.some.inj h9]; exact hty
    refine hP _ ht p e R s m args below meth c H' _ cells slots ls mc ms hC ?_ (hS.put e2 e3 hB) hl h1 h2 h3 h4
    refine jx_H_put hH hk e2 e3 rfl rfl (fun _ _ _ => rfl) (fun _ _ _ => rfl) (fun q hq j => by simp [jx_sr, jx_vr, jx_u2, jx_ad, hq]) ⟨hB, _, hc, t_OB.to (V := updV (jx_V μ a ci) k (va_rf o)) ⟨_, e1, q2, q3, t_set q4 hap hkN _⟩ (fun j _ => ?_)⟩
    by_cases hj : j = k
    · subst hj
      simp [updV, jx_V, hty9, jx_sr, jx_vr, jx_u2, jx_ad]
    · simp [updV, jx_V, hj, jx_sr, jx_vi, jx_vr, jx_u2]
theorem js_pfrF {g : jx_G} {me : jx_me} {pc k lo hi idx : Nat} {ty : FieldType} (hd : decode (jx_cc me) pc = .ok (.putfield idx, 3)) (hf : jx_fo (jx_ow me) idx k lo hi true ty) (hty : jx_isr ty = true) (hini : jx_ini me = true) (hdl : jx_dl (jx_ow me) k lo hi) : jx_So g me pc (pc + 3) (jt_pfr k lo hi) := by
  intro K P σ hP ht
  obtain ⟨lv, st, μ, b⟩ := σ
  rcases st with _ | ⟨x, _ | ⟨y, st⟩⟩
  · exact False.elim ht
  · exact False.elim ht
  · obtain ⟨hx, ⟨a, rfl⟩, ⟨ci, hk, hlo, hhi⟩, ht⟩ := ht
    obtain ⟨o, rfl⟩ : ∃ o, x = va_rf o := by
      rcases hx with rfl | ⟨a9, rfl⟩
      · exact ⟨none, rfl⟩
      · exact ⟨some a9, rfl⟩
    rw [jx_rv_rf] at ht
    have hk : jx_kn μ a = some (.inl ci) := hk
    have ht : P (lv, st, jx_sr μ a k o, b) := ht
    intro p e R s m args below meth c H locs cells slots ls mc ms hC hH hS hl h1 h2 h3 h4
    obtain ⟨ref, name, desc, hlink, hpd, hall⟩ := hf
    obtain ⟨C, T, N, hc, hkN, rfl, rfl, hfin, hsame⟩ := hall ci hlo hhi
    obtain ⟨hB, r, hr, cell, q1, q2, q3, q4⟩ := hH.2.2 _ _ hk
    have er : r = (C, T, N) := Option.some.inj (hr.symm.trans hc)
    subst er
    have hts := hC.2.2.2.2.2.2.2.2.1
    have hKK := jx_Ga_K hC.2.2.2.2.2.2.2.2.2.1
    obtain ⟨hSl, hfc, kC, hkC, hkind⟩ := hKK.1 ci _ hc
    obtain ⟨cf, kf, fi, f, hi9, hsl⟩ := hSl k hkN
    obtain ⟨t1, t2, t3⟩ := jx_ct hc
    have hap := va_apart (own := C) hts t1 (jx_ty ci) t2 t3 hKK hc
    have hsm : s.fieldFound? ref (T k).2.1 (T k).2.2.1 = some (cf, kf, fi, f) := by
      rcases hsame with e9 | h9
      · rw [← e9]; exact hi9
      · exact u_same (hts _ h9) _ hi9
    have hlay := hts _ (t1 _ (u_in_lay hkN))
    unfold u_lay at hlay
    have hst := (u_facts hfc hkC (u_lays hts t1 hkN) hi9).1
    rw [if_pos hfin] at hlay
    have hcf : m.cls = cf := by
      obtain ⟨_, _, c', _, _, _, -, -, hf', -, -, -, hown2, -⟩ := Cond.laysFinal_spec hlay
      have e1 : c' = cf := by have := hi9.symm.trans hf'; simp at this; exact this.1.symm
      obtain ⟨C9, T9, N9, hc9, hdecl⟩ := hdl ci hlo hhi
      cases Option.some.inj (hc9.symm.trans hc)
      rw [hdecl] at hown2
      rw [← e1]; exact Option.some.inj (hC.2.2.2.1.symm.trans hown2)
    have h6 := u_fits hfc hkC hkind (Or.inr hlay) hi9 hpd (v := va_rf o) (jx_nar_rf hty) (jx_fit_rf hty)
    refine W.putFinK hC.1 hC.2.1 hC.2.2.2.1 (hts _ hlink) hsm hst hcf (hC.2.2.2.2.2.2.1 hini) (by rw [q2]; exact h6) q1 q3 (by rw [hsl]; exact k2_hasslot (q4 k hkN)) rfl rfl hd fun H' e1 e2 e3 => ?_
    rw [hsl] at e1 ⊢
    have hty9 : jx_rt ci k = true := by
      have h9 := t2 k hkN
      rw [hpd] at h9
      rw [jx_rt_ty ci k, ← Option.some.inj h9]; exact hty
    refine hP _ ht p e R s m args below meth c H' _ cells slots ls mc ms hC ?_ (hS.put e2 e3 hB) hl h1 h2 h3 h4
    refine jx_H_put hH hk e2 e3 rfl rfl (fun _ _ _ => rfl) (fun _ _ _ => rfl) (fun q hq j => by simp [jx_sr, jx_vr, jx_u2, jx_ad, hq]) ⟨hB, _, hc, t_OB.to (V := updV (jx_V μ a ci) k (va_rf o)) ⟨_, e1, q2, q3, t_set q4 hap hkN _⟩ (fun j _ => ?_)⟩
    by_cases hj : j = k
    · subst hj
      simp [updV, jx_V, hty9, jx_sr, jx_vr, jx_u2, jx_ad]
    · simp [updV, jx_V, hj, jx_sr, jx_vi, jx_vr, jx_u2]
end
section
/-! arrays -/
def jx_ar (μ : jx_M) (a : Nat) (ty : FieldType) (i : Int32) : Prop := ∃ (n : Nat) (b : Bool), jx_kn μ a = some (.inr (ty, n, b)) ∧ vp_in i n
def jx_aw (μ : jx_M) (a : Nat) (ty : FieldType) (i : Int32) : Prop := ∃ n : Nat, jx_kn μ a = some (.inr (ty, n, true)) ∧ vp_in i n
theorem jx_ar_of {μ : jx_M} {a n : Nat} {ty : FieldType} {b : Bool} {i : Int32} (h : jx_kn μ a = some (.inr (ty, n, b))) (hi : vp_in i n) : jx_ar μ a ty i := ⟨n, b, h, hi⟩
theorem jx_aw_of {μ : jx_M} {a n : Nat} {ty : FieldType} {i : Int32} (h : jx_kn μ a = some (.inr (ty, n, true))) (hi : vp_in i n) : jx_aw μ a ty i := ⟨n, h, hi⟩
theorem jx_cell_set {U : State} {cell : Cell} {ty : FieldType} {i : Nat} {v : Value} (h : U.isArrayOf cell ty) : U.isArrayOf (cell.setSlot i v) ty := h

def jt_iald : jx_tr := fun σ P => match σ with
  | (lv, i :: x :: st, μ, b) => jx_i i ∧ jx_r x ∧ jx_ar μ (jx_ad x) .int (jx_iv i) ∧ P (lv, .int (jx_vi μ (jx_ad x) (jx_iv i).toNatClampNeg) :: st, μ, b)
  | _ => False
theorem jt_iald_e {i x : Value} {lv : List (Nat × Value)} {st : List Value} {μ : jx_M} {b : Nat × Nat} {P : jx_S → Prop} : jt_iald (lv, i :: x :: st, μ, b) P = (jx_i i ∧ jx_r x ∧ jx_ar μ (jx_ad x) .int (jx_iv i) ∧ P (lv, .int (jx_vi μ (jx_ad x) (jx_iv i).toNatClampNeg) :: st, μ, b)) := rfl
theorem js_iald {g : jx_G} {me : jx_me} {pc : Nat} (hd : decode (jx_cc me) pc = .ok (.iaload, 1)) : jx_So g me pc (pc + 1) jt_iald := by
  intro K P σ hP ht
  obtain ⟨lv, st, μ, b⟩ := σ
  rcases st with _ | ⟨i, _ | ⟨x, st⟩⟩
  · exact False.elim ht
  · exact False.elim ht
  · obtain ⟨⟨i, rfl⟩, ⟨a, rfl⟩, ⟨n, bw, hk, hin⟩, ht⟩ := ht
    intro p e R s m args below meth c H locs cells slots ls mc ms hC hH hS hl h1 h2 h3 h4
    obtain ⟨-, -, cell, q1, q2, q3, q4, q5, q6⟩ := hH.2.2 _ _ hk
    have hlt : i.toNatClampNeg < n := Nat.not_le.mp fun q => hin (Or.inr q)
    exact W.iald hC.1 hC.2.1 q1 q2 q3 (by rw [q5]; exact hin) (q6 _ hlt) rfl rfl hd (hP _ ht p e R s m args below meth c H locs cells slots ls mc ms hC hH hS hl h1 h2 h3 h4)
def jt_zald : jx_tr := fun σ P => match σ with
  | (lv, i :: x :: st, μ, b) => jx_i i ∧ jx_r x ∧ jx_ar μ (jx_ad x) .boolean (jx_iv i) ∧ P (lv, .int (jx_vi μ (jx_ad x) (jx_iv i).toNatClampNeg) :: st, μ, b)
  | _ => False
theorem jt_zald_e {i x : Value} {lv : List (Nat × Value)} {st : List Value} {μ : jx_M} {b : Nat × Nat} {P : jx_S → Prop} : jt_zald (lv, i :: x :: st, μ, b) P = (jx_i i ∧ jx_r x ∧ jx_ar μ (jx_ad x) .boolean (jx_iv i) ∧ P (lv, .int (jx_vi μ (jx_ad x) (jx_iv i).toNatClampNeg) :: st, μ, b)) := rfl
theorem js_zald {g : jx_G} {me : jx_me} {pc : Nat} (hd : decode (jx_cc me) pc = .ok (.baload, 1)) : jx_So g me pc (pc + 1) jt_zald := by
  intro K P σ hP ht
  obtain ⟨lv, st, μ, b⟩ := σ
  rcases st with _ | ⟨i, _ | ⟨x, st⟩⟩
  · exact False.elim ht
  · exact False.elim ht
  · obtain ⟨⟨i, rfl⟩, ⟨a, rfl⟩, ⟨n, bw, hk, hin⟩, ht⟩ := ht
    intro p e R s m args below meth c H locs cells slots ls mc ms hC hH hS hl h1 h2 h3 h4
    obtain ⟨-, -, cell, q1, q2, q3, q4, q5, q6⟩ := hH.2.2 _ _ hk
    have hlt : i.toNatClampNeg < n := Nat.not_le.mp fun q => hin (Or.inr q)
    exact W.zald hC.1 hC.2.1 q1 q2 q3 (by rw [q5]; exact hin) (q6 _ hlt) rfl rfl hd (hP _ ht p e R s m args below meth c H locs cells slots ls mc ms hC hH hS hl h1 h2 h3 h4)
def jt_lald : jx_tr := fun σ P => match σ with
  | (lv, i :: x :: st, μ, b) => jx_i i ∧ jx_r x ∧ jx_ar μ (jx_ad x) .long (jx_iv i) ∧ P (lv, .long (jx_vl μ (jx_ad x) (jx_iv i).toNatClampNeg) :: st, μ, b)
  | _ => False
theorem jt_lald_e {i x : Value} {lv : List (Nat × Value)} {st : List Value} {μ : jx_M} {b : Nat × Nat} {P : jx_S → Prop} : jt_lald (lv, i :: x :: st, μ, b) P = (jx_i i ∧ jx_r x ∧ jx_ar μ (jx_ad x) .long (jx_iv i) ∧ P (lv, .long (jx_vl μ (jx_ad x) (jx_iv i).toNatClampNeg) :: st, μ, b)) := rfl
theorem js_lald {g : jx_G} {me : jx_me} {pc : Nat} (hd : decode (jx_cc me) pc = .ok (.laload, 1)) : jx_So g me pc (pc + 1) jt_lald := by
  intro K P σ hP ht
  obtain ⟨lv, st, μ, b⟩ := σ
  rcases st with _ | ⟨i, _ | ⟨x, st⟩⟩
  · exact False.elim ht
  · exact False.elim ht
  · obtain ⟨⟨i, rfl⟩, ⟨a, rfl⟩, ⟨n, bw, hk, hin⟩, ht⟩ := ht
    intro p e R s m args below meth c H locs cells slots ls mc ms hC hH hS hl h1 h2 h3 h4
    obtain ⟨-, -, cell, q1, q2, q3, q4, q5, q6⟩ := hH.2.2 _ _ hk
    have hlt : i.toNatClampNeg < n := Nat.not_le.mp fun q => hin (Or.inr q)
    exact W.lald hC.1 hC.2.1 q1 q2 q3 (by rw [q5]; exact hin) (q6 _ hlt) rfl rfl hd (hP _ ht p e R s m args below meth c H locs cells slots ls mc ms hC hH hS hl h1 h2 h3 h4)
def jt_aald : jx_tr := fun σ P => match σ with
  | (lv, i :: x :: st, μ, b) => jx_i i ∧ jx_r x ∧ jx_ar μ (jx_ad x) (.object jx_ND) (jx_iv i) ∧ P (lv, va_rf (jx_vr μ (jx_ad x) (jx_iv i).toNatClampNeg) :: st, μ, b)
  | _ => False
theorem jt_aald_e {i x : Value} {lv : List (Nat × Value)} {st : List Value} {μ : jx_M} {b : Nat × Nat} {P : jx_S → Prop} : jt_aald (lv, i :: x :: st, μ, b) P = (jx_i i ∧ jx_r x ∧ jx_ar μ (jx_ad x) (.object jx_ND) (jx_iv i) ∧ P (lv, va_rf (jx_vr μ (jx_ad x) (jx_iv i).toNatClampNeg) :: st, μ, b)) := rfl
theorem js_aald {g : jx_G} {me : jx_me} {pc : Nat} (hd : decode (jx_cc me) pc = .ok (.aaload, 1)) : jx_So g me pc (pc + 1) jt_aald := by
  intro K P σ hP ht
  obtain ⟨lv, st, μ, b⟩ := σ
  rcases st with _ | ⟨i, _ | ⟨x, st⟩⟩
  · exact False.elim ht
  · exact False.elim ht
  · obtain ⟨⟨i, rfl⟩, ⟨a, rfl⟩, ⟨n, bw, hk, hin⟩, ht⟩ := ht
    intro p e R s m args below meth c H locs cells slots ls mc ms hC hH hS hl h1 h2 h3 h4
    obtain ⟨-, -, cell, q1, q2, q3, q4, q5, q6⟩ := hH.2.2 _ _ hk
    have hlt : i.toNatClampNeg < n := Nat.not_le.mp fun q => hin (Or.inr q)
    exact W.aald hC.1 hC.2.1 q1 q2 rfl q3 (by rw [q5]; exact hin) (q6 _ hlt) rfl rfl hd (hP _ ht p e R s m args below meth c H locs cells slots ls mc ms hC hH hS hl h1 h2 h3 h4)
def jt_iast : jx_tr := fun σ P => match σ with
  | (lv, v :: i :: x :: st, μ, b) => jx_i v ∧ jx_i i ∧ jx_r x ∧ jx_aw μ (jx_ad x) .int (jx_iv i) ∧ P (lv, st, jx_si μ (jx_ad x) (jx_iv i).toNatClampNeg (jx_iv v), b)
  | _ => False
theorem jt_iast_e {v i x : Value} {lv : List (Nat × Value)} {st : List Value} {μ : jx_M} {b : Nat × Nat} {P : jx_S → Prop} : jt_iast (lv, v :: i :: x :: st, μ, b) P = (jx_i v ∧ jx_i i ∧ jx_r x ∧ jx_aw μ (jx_ad x) .int (jx_iv i) ∧ P (lv, st, jx_si μ (jx_ad x) (jx_iv i).toNatClampNeg (jx_iv v), b)) := rfl
theorem js_iast {g : jx_G} {me : jx_me} {pc : Nat} (hd : decode (jx_cc me) pc = .ok (.iastore, 1)) : jx_So g me pc (pc + 1) jt_iast := by
  intro K P σ hP ht
  obtain ⟨lv, st, μ, b⟩ := σ
  rcases st with _ | ⟨v, _ | ⟨i, _ | ⟨x, st⟩⟩⟩
  · exact False.elim ht
  · exact False.elim ht
  · exact False.elim ht
  · obtain ⟨hv, ⟨i, rfl⟩, ⟨a, rfl⟩, ⟨n, hk, hin⟩, ht⟩ := ht
    obtain ⟨v, rfl⟩ := hv
    have hk : jx_kn μ a = some (.inr (.int, n, true)) := hk
    have ht : P (lv, st, jx_si μ a i.toNatClampNeg v, b) := ht
    intro p e R s m args below meth c H locs cells slots ls mc ms hC hH hS hl h1 h2 h3 h4
    obtain ⟨hB, hn31, cell, q1, q2, q3, q4, q5, q6⟩ := hH.2.2 _ _ hk
    have hlt : i.toNatClampNeg < n := Nat.not_le.mp fun q => hin (Or.inr q)
    refine W.iast hC.1 hC.2.1 q1 q2 q3 (by rw [q5]; exact hin) rfl rfl hd fun H' e1 e2 e3 => ?_
    refine hP _ ht p e R s m args below meth c H' _ cells slots ls mc ms hC ?_ (hS.put e2 e3 (hB rfl)) hl h1 h2 h3 h4
    refine jx_H_put hH hk e2 e3 rfl rfl (fun q hq j => by simp [jx_si, jx_vi, jx_u2, jx_ad, hq]) (fun _ _ _ => rfl) (fun _ _ _ => rfl) ⟨hB, hn31, _, e1, jx_cell_set q2, q3, q4, by simpa [Cell.setSlot] using q5, fun j hj => ?_⟩
    by_cases hq : j = i.toNatClampNeg
    · subst hq
      simp [Cell.setSlot, q5, hlt, jx_el, jx_si, jx_vi, jx_u2, jx_ad, jx_iv]
    · have h9 := q6 j hj
      simp only [jx_el] at h9
      simp [Cell.setSlot, Array.getElem?_setIfInBounds, Ne.symm hq, h9, jx_el, jx_si, jx_vi, jx_u2, jx_ad, jx_iv, hq]
def jt_zast : jx_tr := fun σ P => match σ with
  | (lv, v :: i :: x :: st, μ, b) => (v = .int 0 ∨ v = .int 1) ∧ jx_i i ∧ jx_r x ∧ jx_aw μ (jx_ad x) .boolean (jx_iv i) ∧ P (lv, st, jx_si μ (jx_ad x) (jx_iv i).toNatClampNeg (jx_iv v), b)
  | _ => False
theorem jt_zast_e {v i x : Value} {lv : List (Nat × Value)} {st : List Value} {μ : jx_M} {b : Nat × Nat} {P : jx_S → Prop} : jt_zast (lv, v :: i :: x :: st, μ, b) P = ((v = .int 0 ∨ v = .int 1) ∧ jx_i i ∧ jx_r x ∧ jx_aw μ (jx_ad x) .boolean (jx_iv i) ∧ P (lv, st, jx_si μ (jx_ad x) (jx_iv i).toNatClampNeg (jx_iv v), b)) := rfl
theorem js_zast {g : jx_G} {me : jx_me} {pc : Nat} (hd : decode (jx_cc me) pc = .ok (.bastore, 1)) : jx_So g me pc (pc + 1) jt_zast := by
  intro K P σ hP ht
  obtain ⟨lv, st, μ, b⟩ := σ
  rcases st with _ | ⟨v, _ | ⟨i, _ | ⟨x, st⟩⟩⟩
  · exact False.elim ht
  · exact False.elim ht
  · exact False.elim ht
  · obtain ⟨hv, ⟨i, rfl⟩, ⟨a, rfl⟩, ⟨n, hk, hin⟩, ht⟩ := ht
    obtain ⟨v, rfl, hnar⟩ : ∃ z, v = .int z ∧ narrow .boolean (.int z) = .int z := by
      rcases hv with h | h
      · exact ⟨0, h, rfl⟩
      · exact ⟨1, h, rfl⟩
    have hk : jx_kn μ a = some (.inr (.boolean, n, true)) := hk
    have ht : P (lv, st, jx_si μ a i.toNatClampNeg v, b) := ht
    intro p e R s m args below meth c H locs cells slots ls mc ms hC hH hS hl h1 h2 h3 h4
    obtain ⟨hB, hn31, cell, q1, q2, q3, q4, q5, q6⟩ := hH.2.2 _ _ hk
    have hlt : i.toNatClampNeg < n := Nat.not_le.mp fun q => hin (Or.inr q)
    refine W.zast hC.1 hC.2.1 q1 q2 q3 (by rw [q5]; exact hin) rfl rfl hd fun H' e1 e2 e3 => ?_
    refine hP _ ht p e R s m args below meth c H' _ cells slots ls mc ms hC ?_ (hS.put e2 e3 (hB rfl)) hl h1 h2 h3 h4
    refine jx_H_put hH hk e2 e3 rfl rfl (fun q hq j => by simp [jx_si, jx_vi, jx_u2, jx_ad, hq]) (fun _ _ _ => rfl) (fun _ _ _ => rfl) ⟨hB, hn31, _, e1, jx_cell_set q2, q3, q4, by simpa [Cell.setSlot] using q5, fun j hj => ?_⟩
    by_cases hq : j = i.toNatClampNeg
    · subst hq
      simp [Cell.setSlot, q5, hlt, jx_el, jx_si, jx_vi, jx_u2, jx_ad, jx_iv, hnar]
    · have h9 := q6 j hj
      simp only [jx_el] at h9
      simp [Cell.setSlot, Array.getElem?_setIfInBounds, Ne.symm hq, h9, jx_el, jx_si, jx_vi, jx_u2, jx_ad, jx_iv, hq]
def jt_last : jx_tr := fun σ P => match σ with
  | (lv, v :: i :: x :: st, μ, b) => jx_l v ∧ jx_i i ∧ jx_r x ∧ jx_aw μ (jx_ad x) .long (jx_iv i) ∧ P (lv, st, jx_sl μ (jx_ad x) (jx_iv i).toNatClampNeg (jx_lv v), b)
  | _ => False
theorem jt_last_e {v i x : Value} {lv : List (Nat × Value)} {st : List Value} {μ : jx_M} {b : Nat × Nat} {P : jx_S → Prop} : jt_last (lv, v :: i :: x :: st, μ, b) P = (jx_l v ∧ jx_i i ∧ jx_r x ∧ jx_aw μ (jx_ad x) .long (jx_iv i) ∧ P (lv, st, jx_sl μ (jx_ad x) (jx_iv i).toNatClampNeg (jx_lv v), b)) := rfl
theorem js_last {g : jx_G} {me : jx_me} {pc : Nat} (hd : decode (jx_cc me) pc = .ok (.lastore, 1)) : jx_So g me pc (pc + 1) jt_last := by
  intro K P σ hP ht
  obtain ⟨lv, st, μ, b⟩ := σ
  rcases st with _ | ⟨v, _ | ⟨i, _ | ⟨x, st⟩⟩⟩
  · exact False.elim ht
  · exact False.elim ht
  · exact False.elim ht
  · obtain ⟨hv, ⟨i, rfl⟩, ⟨a, rfl⟩, ⟨n, hk, hin⟩, ht⟩ := ht
    obtain ⟨v, rfl⟩ := hv
    have hk : jx_kn μ a = some (.inr (.long, n, true)) := hk
    have ht : P (lv, st, jx_sl μ a i.toNatClampNeg v, b) := ht
    intro p e R s m args below meth c H locs cells slots ls mc ms hC hH hS hl h1 h2 h3 h4
    obtain ⟨hB, hn31, cell, q1, q2, q3, q4, q5, q6⟩ := hH.2.2 _ _ hk
    have hlt : i.toNatClampNeg < n := Nat.not_le.mp fun q => hin (Or.inr q)
    refine W.last hC.1 hC.2.1 q1 q2 q3 (by rw [q5]; exact hin) rfl rfl hd fun H' e1 e2 e3 => ?_
    refine hP _ ht p e R s m args below meth c H' _ cells slots ls mc ms hC ?_ (hS.put e2 e3 (hB rfl)) hl h1 h2 h3 h4
    refine jx_H_put hH hk e2 e3 rfl rfl (fun _ _ _ => rfl) (fun q hq j => by simp [jx_sl, jx_vl, jx_u2, jx_ad, hq]) (fun _ _ _ => rfl) ⟨hB, hn31, _, e1, jx_cell_set q2, q3, q4, by simpa [Cell.setSlot] using q5, fun j hj => ?_⟩
    by_cases hq : j = i.toNatClampNeg
    · subst hq
      simp [Cell.setSlot, q5, hlt, jx_el, jx_sl, jx_vl, jx_lv, jx_u2, jx_ad, jx_iv]
    · have h9 := q6 j hj
      simp only [jx_el] at h9
      simp [Cell.setSlot, Array.getElem?_setIfInBounds, Ne.symm hq, h9, jx_el, jx_sl, jx_vl, jx_lv, jx_u2, jx_ad, jx_iv, hq]
def jt_aast : jx_tr := fun σ P => match σ with
  | (lv, v :: i :: x :: st, μ, b) => jx_a v ∧ (¬ v = .null → jx_ok μ (jx_ad v) jx_N0 jx_N1) ∧ jx_i i ∧ jx_r x ∧ jx_aw μ (jx_ad x) (.object jx_ND) (jx_iv i) ∧ P (lv, st, jx_sr μ (jx_ad x) (jx_iv i).toNatClampNeg (jx_rv v), b)
  | _ => False
theorem jt_aast_e {v i x : Value} {lv : List (Nat × Value)} {st : List Value} {μ : jx_M} {b : Nat × Nat} {P : jx_S → Prop} : jt_aast (lv, v :: i :: x :: st, μ, b) P = (jx_a v ∧ (¬ v = .null → jx_ok μ (jx_ad v) jx_N0 jx_N1) ∧ jx_i i ∧ jx_r x ∧ jx_aw μ (jx_ad x) (.object jx_ND) (jx_iv i) ∧ P (lv, st, jx_sr μ (jx_ad x) (jx_iv i).toNatClampNeg (jx_rv v), b)) := rfl
theorem js_aast {g : jx_G} {me : jx_me} {pc : Nat} (hd : decode (jx_cc me) pc = .ok (.aastore, 1)) : jx_So g me pc (pc + 1) jt_aast := by
  intro K P σ hP ht
  obtain ⟨lv, st, μ, b⟩ := σ
  rcases st with _ | ⟨v, _ | ⟨i, _ | ⟨x, st⟩⟩⟩
  · exact False.elim ht
  · exact False.elim ht
  · exact False.elim ht
  · obtain ⟨hv, hok, ⟨i, rfl⟩, ⟨a, rfl⟩, ⟨n, hk, hin⟩, ht⟩ := ht
    have hk : jx_kn μ a = some (.inr (.object jx_ND, n, true)) := hk
    have ht : P (lv, st, jx_sr μ a i.toNatClampNeg (jx_rv v), b) := ht
    intro p e R s m args below meth c H locs cells slots ls mc ms hC hH hS hl h1 h2 h3 h4
    obtain ⟨hB, hn31, cell, q1, q2, q3, q4, q5, q6⟩ := hH.2.2 _ _ hk
    have hlt : i.toNatClampNeg < n := Nat.not_le.mp fun q => hin (Or.inr q)
    have fin9 : ∀ H' : Heap, H'[a]? = some (cell.setSlot i.toNatClampNeg v) → H'.size = H.size → (∀ q, q ≠ a → H'[q]? = H[q]?) → W p g.1 e R s m args below meth c H' (locs ++ [⟨a, i.toNatClampNeg⟩]) cells slots (vx_MQ below (jx_Qc g K) (jx_Xc g K) args s mc ms (fun q => g.2.2.1 ≤ q)) (F0 m (pc + 1) ls st) := by
      intro H' e1 e2 e3
      refine hP _ ht p e R s m args below meth c H' _ cells slots ls mc ms hC ?_ (hS.put e2 e3 (hB rfl)) hl h1 h2 h3 h4
      refine jx_H_put hH hk e2 e3 rfl rfl (fun _ _ _ => rfl) (fun _ _ _ => rfl) (fun q hq j => by simp [jx_sr, jx_vr, jx_u2, jx_ad, hq]) ⟨hB, hn31, _, e1, jx_cell_set q2, q3, q4, by simpa [Cell.setSlot] using q5, fun j hj => ?_⟩
      by_cases hq : j = i.toNatClampNeg
      · subst hq
        rcases hv with rfl | ⟨v9, rfl⟩ <;> simp [Cell.setSlot, q5, hlt, jx_el, jx_sr, jx_vr, jx_u2, jx_ad, jx_iv, jx_rv, va_rf]
      · have h9 := q6 j hj
        simp only [jx_el] at h9
        simp [Cell.setSlot, Array.getElem?_setIfInBounds, Ne.symm hq, h9, jx_el, jx_sr, jx_vr, jx_u2, jx_ad, jx_iv, hq]
    rcases hv with rfl | ⟨v9, rfl⟩
    · exact va_WaastN (C := jx_ND) hC.1 hC.2.1 q1 q2 q3 (by rw [q5]; exact hin) rfl rfl hd fun H' e1 e2 e3 => fin9 H' e1 e2 e3
    · obtain ⟨ci, hkv, hlo, hhi⟩ := hok (fun q => by cases q)
      obtain ⟨-, r, hr, cv, w1, w2, w3, -⟩ := hH.2.2 _ _ hkv
      obtain ⟨kA, comp, r1, r2, r3⟩ := q4
      obtain ⟨kc, hkc, -⟩ := Vm.findClass_spec r3
      obtain ⟨hSl, hfc, kC, hkC, hkind⟩ := (jx_Ga_K hC.2.2.2.2.2.2.2.2.2.1).1 ci _ hr
      have hasg : s.vm.assignable cv.cls comp = true := by
        obtain ⟨c3, c4, hc3, hc4, h9⟩ := Cond.castable_spec (va_Nw.use (A := args) rfl (hC.2.2.2.2.2.2.2.2.2.1.2.2.2.2.1 _ (jx_castw hlo hhi hr)))
        rw [w2]
        cases Option.some.inj (hc3.symm.trans hfc)
        cases Option.some.inj (hc4.symm.trans r3)
        exact h9
      exact W.aast hC.1 hC.2.1 q1 q2.1 q3 r1 r2 rfl hkc ⟨fun q => hin (Or.inl q), by rw [q5]; exact hlt⟩ w1 (fun q h => by rw [w3] at h; cases h) (by rw [w2]; exact hkC) hasg rfl rfl hd fun H' e1 e2 e3 => fin9 H' e1 e2 e3
/-! what is made -/
theorem jx_H_new {g : jx_G} {U : State} {H H' : Heap} {μ : jx_M} {k : jx_K} (h : jx_H g U H μ) (z : H'.size = H.size + 1) (o : ∀ q, q < H.size → H'[q]? = H[q]?) (ha : jx_at g U (jx_nw μ k) H' H.size k) : jx_H g U H' (jx_nw μ k) := by
  refine ⟨by rw [z]; exact Nat.le_succ_of_le h.1, by rw [z, h.2.1]; rfl, fun q k' hq => ?_⟩
  have hs : jx_sz μ = H.size := h.2.1.symm
  by_cases e : q = H.size
  · subst e
    have e9 : some k = some k' := by
      have h9 : (if H.size = jx_sz μ then some k else jx_kn μ H.size) = some k' := hq
      rw [if_pos hs.symm] at h9
      exact h9
    cases e9
    exact ha
  · have hq9 : jx_kn μ q = some k' := by
      have h9 : (if q = jx_sz μ then some k else jx_kn μ q) = some k' := hq
      rw [if_neg (by rw [hs]; exact e)] at h9
      exact h9
    have h8 := h.2.2 q k' hq9
    exact jx_at_kept h8 (o q (jx_at_lt h8)) (fun j => by simp [jx_nw, jx_vi, hs, e]) (fun j => by simp [jx_nw, jx_vl, hs, e]) (fun j => by simp [jx_nw, jx_vr, hs, e])
theorem jx_S_new {A : Nat → Prop} {H0 H H' : Heap} {locs : List Loc} (h : va_S A H0 H locs) (z : H'.size = H.size + 1) (o : ∀ q, q < H.size → H'[q]? = H[q]?) : va_S A H0 H' locs :=
  ⟨Nat.le_trans h.1 (by omega), fun x h1 h2 => (o x (Nat.lt_of_lt_of_le h1 h.1)).trans (h.2.1 x h1 h2), h.2.2⟩
def jt_new (ci N : Nat) : jx_tr := fun σ P => match σ with
  | (lv, st, μ, b) => 1 ≤ b.1 ∧ N ≤ b.2 ∧ P (lv, .ref (jx_sz μ) :: st, jx_nw μ (.inl ci), b.1 - 1, b.2 - N)
theorem jt_new_e (ci N : Nat) {lv : List (Nat × Value)} {st : List Value} {μ : jx_M} {b1 b2 : Nat} {P : jx_S → Prop} : jt_new ci N (lv, st, μ, b1, b2) P = (1 ≤ b1 ∧ N ≤ b2 ∧ P (lv, .ref (jx_sz μ) :: st, jx_nw μ (.inl ci), b1 - 1, b2 - N)) := rfl
theorem js_new {g : jx_G} {me : jx_me} {pc ci N idx : Nat} {C : String} {T : u_T} (hd : decode (jx_cc me) pc = .ok (.new idx, 3)) (hc : jx_cl[ci]? = some (C, T, N)) (hw1 : Cond.classLink (jx_ow me) idx C ∈ jx_ws) (hw2 : Cond.instantiable C N ∈ jx_ws) (hw3 : Cond.initialized C ∈ jx_ws) : jx_So g me pc (pc + 3) (jt_new ci N) := by
  intro K P σ hP ht
  obtain ⟨lv, st, μ, b1, b2⟩ := σ
  obtain ⟨hb1, hb2, ht⟩ := ht
  intro p e R s m args below meth c H locs cells slots ls mc ms hC hH hS hl h1 h2 h3 h4
  have hts := hC.2.2.2.2.2.2.2.2.1
  have hKn := (jx_Ga_K hC.2.2.2.2.2.2.2.2.2.1).1 ci _ hc
  obtain ⟨t1, t2, t3⟩ := jx_ct hc
  dsimp only at hb1 hb2 h1 h2
  refine W.newcK hC.1 hC.2.1 hC.2.2.2.1 (hts _ hw1) (hts _ hw2) (hts _ hw3) rfl hd (by omega) (by omega) hKn.2.1 rfl fun H1 kC hkC e1 z1 o1 => ?_
  have hs : jx_sz μ = H.size := hH.2.1.symm
  have ht9 := hP _ ht p e R s m args below meth c H1 locs (cells + 1) (slots + N) ls mc ms hC (jx_H_new hH z1 o1 ⟨hH.1, _, hc, (u_born (jx_ty ci) hts t1 hKn hkC e1 t2).to (fun j hj => ?_)⟩) (jx_S_new hS z1 o1) hl (by dsimp only; omega) (by dsimp only; omega) h3 h4
  · dsimp only at ht9
    rw [hs] at ht9
    exact ht9
  · have e9 : jx_rt ci j = jx_isr (jx_ty ci j) := jx_rt_ty ci j
    have e8 := jx_dv ci (jx_bd hc).1 j (Nat.lt_of_lt_of_le hj (jx_bd hc).2)
    simp only [jx_V, jx_nw, jx_vr, jx_vi, hs, if_true]
    rw [e8]
def jt_newa (ty : FieldType) : jx_tr := fun σ P => match σ with
  | (lv, x :: st, μ, b) => jx_i x ∧ ¬ jx_iv x < 0 ∧ (jx_iv x).toNatClampNeg ≤ 4096 ∧ 1 ≤ b.1 ∧ (jx_iv x).toNatClampNeg ≤ b.2 ∧ P (lv, .ref (jx_sz μ) :: st, jx_nw μ (.inr (ty, (jx_iv x).toNatClampNeg, true)), b.1 - 1, b.2 - (jx_iv x).toNatClampNeg)
  | _ => False
theorem jt_newa_e (ty : FieldType) {x : Value} {lv : List (Nat × Value)} {st : List Value} {μ : jx_M} {b1 b2 : Nat} {P : jx_S → Prop} : jt_newa ty (lv, x :: st, μ, b1, b2) P = (jx_i x ∧ ¬ jx_iv x < 0 ∧ (jx_iv x).toNatClampNeg ≤ 4096 ∧ 1 ≤ b1 ∧ (jx_iv x).toNatClampNeg ≤ b2 ∧ P (lv, .ref (jx_sz μ) :: st, jx_nw μ (.inr (ty, (jx_iv x).toNatClampNeg, true)), b1 - 1, b2 - (jx_iv x).toNatClampNeg)) := rfl
theorem js_newa {g : jx_G} {me : jx_me} {pc : Nat} {atype : ArrayType} {ty : FieldType} (hd : decode (jx_cc me) pc = .ok (.newarray atype, 2)) (hty : newarray.typeOf atype = ty) (hok : ty = .int ∨ ty = .boolean ∨ ty = .long) (hw : Cond.arrayClass ty ∈ jx_ws) : jx_So g me pc (pc + 2) (jt_newa ty) := by
  intro K P σ hP ht
  obtain ⟨lv, st, μ, b1, b2⟩ := σ
  rcases st with _ | ⟨x, st⟩
  · exact False.elim ht
  · obtain ⟨⟨x, rfl⟩, hx, hx2, hb1, hb2, ht⟩ := ht
    intro p e R s m args below meth c H locs cells slots ls mc ms hC hH hS hl h1 h2 h3 h4
    have hts := hC.2.2.2.2.2.2.2.2.1
    subst hty
    dsimp only [jx_iv] at hx hx2 hb1 hb2 h1 h2 ht
    have hcb : componentBytes (newarray.typeOf atype) ≤ 8 := by rcases hok with h | h | h <;> rw [h] <;> decide
    refine va_newaK hC.1 hC.2.1 (hts _ hw) rfl hd rfl hx rfl (Nat.le_trans (Nat.mul_le_mul hx2 hcb) (by decide)) (by omega) (by omega) rfl fun H1 cA e1 z1 o1 hAr hNm => ?_
    have hs : jx_sz μ = H.size := hH.2.1.symm
    have ht9 := hP _ ht p e R s m args below meth c H1 locs (cells + 1) (slots + x.toNatClampNeg) ls mc ms hC (jx_H_new hH z1 o1 ⟨fun _ => hH.1, Nat.lt_of_le_of_lt hx2 (by decide), _, e1, hAr _ _, (fun h => by cases h), (by rcases hok with h | h | h <;> rw [h] <;> trivial), arrV_size _ _ _, fun j hj => ?_⟩) (jx_S_new hS z1 o1) hl (by dsimp only; omega) (by dsimp only; omega) h3 h4
    · dsimp only at ht9
      rw [hs] at ht9
      exact ht9
    · rw [arrV_read _ _ hj]
      rcases hok with h | h | h <;> rw [h] <;> simp [jx_el, jx_nw, jx_vi, jx_vl, hs, defaultValue]
def jt_newq : jx_tr := fun σ P => match σ with
  | (lv, x :: st, μ, b) => jx_i x ∧ ¬ jx_iv x < 0 ∧ (jx_iv x).toNatClampNeg ≤ 4096 ∧ 1 ≤ b.1 ∧ (jx_iv x).toNatClampNeg ≤ b.2 ∧ P (lv, .ref (jx_sz μ) :: st, jx_nw μ (.inr (.object jx_ND, (jx_iv x).toNatClampNeg, true)), b.1 - 1, b.2 - (jx_iv x).toNatClampNeg)
  | _ => False
theorem jt_newq_e {x : Value} {lv : List (Nat × Value)} {st : List Value} {μ : jx_M} {b1 b2 : Nat} {P : jx_S → Prop} : jt_newq (lv, x :: st, μ, b1, b2) P = (jx_i x ∧ ¬ jx_iv x < 0 ∧ (jx_iv x).toNatClampNeg ≤ 4096 ∧ 1 ≤ b1 ∧ (jx_iv x).toNatClampNeg ≤ b2 ∧ P (lv, .ref (jx_sz μ) :: st, jx_nw μ (.inr (.object jx_ND, (jx_iv x).toNatClampNeg, true)), b1 - 1, b2 - (jx_iv x).toNatClampNeg)) := rfl
theorem js_newq {g : jx_G} {me : jx_me} {pc idx : Nat} (hd : decode (jx_cc me) pc = .ok (.anewarray idx, 3)) (hw1 : Cond.classLink (jx_ow me) idx jx_ND ∈ jx_ws) : jx_So g me pc (pc + 3) jt_newq := by
  intro K P σ hP ht
  obtain ⟨lv, st, μ, b1, b2⟩ := σ
  rcases st with _ | ⟨x, st⟩
  · exact False.elim ht
  · obtain ⟨⟨x, rfl⟩, hx, hx2, hb1, hb2, ht⟩ := ht
    intro p e R s m args below meth c H locs cells slots ls mc ms hC hH hS hl h1 h2 h3 h4
    have hts := hC.2.2.2.2.2.2.2.2.1
    dsimp only [jx_iv] at hx hx2 hb1 hb2 h1 h2 ht
    refine W.anew hC.1 hC.2.1 hC.2.2.2.1 (hts _ hw1) (va_AO.use (jx_Ga_AO hC.2.2.2.2.2.2.2.2.2.1)) rfl hd rfl hx (Nat.le_trans (Nat.mul_le_mul hx2 (Nat.le_refl _)) (by decide)) (by omega) (by omega) fun cA kA comp f1 f2 f3 f4 => ?_
    generalize hH1 : H.push ({ cls := cA, slots := Array.replicate x.toNatClampNeg .null, vm := .none } : Cell) = H1
    have z1 : H1.size = H.size + 1 := by rw [← hH1, Array.size_push]
    have e1 : H1[H.size]? = some (arrV cA x.toNatClampNeg (fun _ => .null)) := by rw [← hH1, Array.getElem?_push_size, ← arrV_new]
    have o1 : ∀ q : Nat, q < H.size → H1[q]? = H[q]? := fun q hq => by rw [← hH1, Array.getElem?_push, if_neg (Nat.ne_of_lt hq)]
    have hs : jx_sz μ = H.size := hH.2.1.symm
    have ht9 := hP _ ht p e R s m args below meth c H1 locs (cells + 1) (slots + x.toNatClampNeg) ls mc ms hC (jx_H_new hH z1 o1 ⟨fun _ => hH.1, Nat.lt_of_le_of_lt hx2 (by decide), _, e1, ⟨(fun k h => by cases h), kA, f2, comp, f3⟩, (fun h => by cases h), ⟨kA, comp, f2, f3, f4⟩, arrV_size _ _ _, fun j hj => ?_⟩) (jx_S_new hS z1 o1) hl (by dsimp only; omega) (by dsimp only; omega) h3 h4
    · dsimp only at ht9
      rw [hs] at ht9
      exact ht9
    · rw [arrV_read _ _ hj]
      simp [jx_el, jx_nw, jx_vr, hs, va_rf]
def jt_alen : jx_tr := fun σ P => match σ with
  | (lv, x :: st, μ, b) => jx_r x ∧ (∃ (ty : FieldType) (n : Nat) (w : Bool), jx_kn μ (jx_ad x) = some (.inr (ty, n, w))) ∧ P (lv, .int (jx_ln μ (jx_ad x)) :: st, μ, b)
  | _ => False
theorem jt_alen_e {x : Value} {lv : List (Nat × Value)} {st : List Value} {μ : jx_M} {b : Nat × Nat} {P : jx_S → Prop} : jt_alen (lv, x :: st, μ, b) P = (jx_r x ∧ (∃ (ty : FieldType) (n : Nat) (w : Bool), jx_kn μ (jx_ad x) = some (.inr (ty, n, w))) ∧ P (lv, .int (jx_ln μ (jx_ad x)) :: st, μ, b)) := rfl
theorem js_alen {g : jx_G} {me : jx_me} {pc : Nat} (hd : decode (jx_cc me) pc = .ok (.arraylength, 1)) : jx_So g me pc (pc + 1) jt_alen := by
  intro K P σ hP ht
  obtain ⟨lv, st, μ, b⟩ := σ
  rcases st with _ | ⟨x, st⟩
  · exact False.elim ht
  · obtain ⟨⟨a, rfl⟩, ⟨ty, n, bw, hk⟩, ht⟩ := ht
    intro p e R s m args below meth c H locs cells slots ls mc ms hC hH hS hl h1 h2 h3 h4
    obtain ⟨-, -, cell, q1, q2, q3, q4, q5, q6⟩ := hH.2.2 _ _ hk
    have e9 : jx_ln μ a = nI n := by
      unfold jx_ln
      rw [show jx_kn μ a = _ from hk]
    exact W.alen hC.1 hC.2.1 q1 q2 (by rw [q5]; show Nat.toInt32 n = jx_ln μ a; rw [e9]; rfl) rfl rfl hd (hP _ ht p e R s m args below meth c H locs cells slots ls mc ms hC hH hS hl h1 h2 h3 h4)
end
section
/-! A structured store over the typed memory: cells are (block, part); their addresses are a map A. -/
abbrev jo_S : Type := (Nat → Nat → Option jx_K) × (Nat → Nat → Nat → Int32) × (Nat → Nat → Nat → Int64) × (Nat → Nat → Nat → Option (Nat × Nat))
def jo_kn (S : jo_S) : Nat → Nat → Option jx_K := S.1
def jo_fi (S : jo_S) : Nat → Nat → Nat → Int32 := S.2.1
def jo_fl (S : jo_S) : Nat → Nat → Nat → Int64 := S.2.2.1
def jo_fr (S : jo_S) : Nat → Nat → Nat → Option (Nat × Nat) := S.2.2.2
def jo_u3 {α : Type} (f : Nat → Nat → Nat → α) (n j k : Nat) (v : α) : Nat → Nat → Nat → α := fun n' j' k' => if n' = n ∧ j' = j ∧ k' = k then v else f n' j' k'
def jo_si (S : jo_S) (n j k : Nat) (v : Int32) : jo_S := (jo_kn S, jo_u3 (jo_fi S) n j k v, jo_fl S, jo_fr S)
def jo_sl (S : jo_S) (n j k : Nat) (v : Int64) : jo_S := (jo_kn S, jo_fi S, jo_u3 (jo_fl S) n j k v, jo_fr S)
def jo_sr (S : jo_S) (n j k : Nat) (v : Option (Nat × Nat)) : jo_S := (jo_kn S, jo_fi S, jo_fl S, jo_u3 (jo_fr S) n j k v)
theorem jo_si_kn {S : jo_S} {n j k : Nat} {v : Int32} : jo_kn (jo_si S n j k v) = jo_kn S := rfl
theorem jo_si_fi {S : jo_S} {n j k n' j' k' : Nat} {v : Int32} : jo_fi (jo_si S n j k v) n' j' k' = if n' = n ∧ j' = j ∧ k' = k then v else jo_fi S n' j' k' := rfl
theorem jo_si_fl {S : jo_S} {n j k : Nat} {v : Int32} : jo_fl (jo_si S n j k v) = jo_fl S := rfl
theorem jo_si_fr {S : jo_S} {n j k : Nat} {v : Int32} : jo_fr (jo_si S n j k v) = jo_fr S := rfl
theorem jo_sl_kn {S : jo_S} {n j k : Nat} {v : Int64} : jo_kn (jo_sl S n j k v) = jo_kn S := rfl
theorem jo_sl_fi {S : jo_S} {n j k : Nat} {v : Int64} : jo_fi (jo_sl S n j k v) = jo_fi S := rfl
theorem jo_sl_fl {S : jo_S} {n j k n' j' k' : Nat} {v : Int64} : jo_fl (jo_sl S n j k v) n' j' k' = if n' = n ∧ j' = j ∧ k' = k then v else jo_fl S n' j' k' := rfl
theorem jo_sl_fr {S : jo_S} {n j k : Nat} {v : Int64} : jo_fr (jo_sl S n j k v) = jo_fr S := rfl
theorem jo_sr_kn {S : jo_S} {n j k : Nat} {v : Option (Nat × Nat)} : jo_kn (jo_sr S n j k v) = jo_kn S := rfl
theorem jo_sr_fi {S : jo_S} {n j k : Nat} {v : Option (Nat × Nat)} : jo_fi (jo_sr S n j k v) = jo_fi S := rfl
theorem jo_sr_fl {S : jo_S} {n j k : Nat} {v : Option (Nat × Nat)} : jo_fl (jo_sr S n j k v) = jo_fl S := rfl
theorem jo_sr_fr {S : jo_S} {n j k n' j' k' : Nat} {v : Option (Nat × Nat)} : jo_fr (jo_sr S n j k v) n' j' k' = if n' = n ∧ j' = j ∧ k' = k then v else jo_fr S n' j' k' := rfl
/-- the addresses are apart -/
def jo_ij (A : Nat → Nat → Nat) (S : jo_S) : Prop := ∀ n j n' j', jo_kn S n j ≠ none → jo_kn S n' j' ≠ none → A n j = A n' j' → n = n' ∧ j = j'
def jo_hit (A : Nat → Nat → Nat) (S : jo_S) (a : Nat) : Prop := ∃ q : Nat × Nat, jo_kn S q.1 q.2 ≠ none ∧ A q.1 q.2 = a
noncomputable def jo_dc (A : Nat → Nat → Nat) (S : jo_S) (a : Nat) : Option (Nat × Nat) := by
  classical
  exact if h : jo_hit A S a then some (Classical.choose h) else none
theorem jo_dc_e {A : Nat → Nat → Nat} {S : jo_S} (hA : jo_ij A S) {n j : Nat} (h : jo_kn S n j ≠ none) : jo_dc A S (A n j) = some (n, j) := by
  have hh : jo_hit A S (A n j) := ⟨(n, j), h, rfl⟩
  unfold jo_dc
  rw [dif_pos hh]
  have h9 := Classical.choose_spec hh
  obtain ⟨e1, e2⟩ := hA _ _ n j h9.1 h h9.2
  exact congrArg some (Prod.ext e1 e2)
theorem jo_dc_s {A : Nat → Nat → Nat} {S : jo_S} {a : Nat} {q : Nat × Nat} (h : jo_dc A S a = some q) : jo_kn S q.1 q.2 ≠ none ∧ A q.1 q.2 = a := by
  unfold jo_dc at h
  by_cases hh : jo_hit A S a
  · rw [dif_pos hh] at h
    have h9 := Classical.choose_spec hh
    rw [Option.some.inj h] at h9
    exact h9
  · rw [dif_neg hh] at h
    cases h
noncomputable def jo_ov (z : Nat) (A : Nat → Nat → Nat) (S : jo_S) (V0 : jx_M) : jx_M :=
  (z, (fun a => match jo_dc A S a with | some q => jo_kn S q.1 q.2 | none => jx_kn V0 a), (fun a k => match jo_dc A S a with | some q => jo_fi S q.1 q.2 k | none => jx_vi V0 a k), (fun a k => match jo_dc A S a with | some q => jo_fl S q.1 q.2 k | none => jx_vl V0 a k), (fun a k => match jo_dc A S a with | some q => (jo_fr S q.1 q.2 k).map (fun r : Nat × Nat => A r.1 r.2) | none => jx_vr V0 a k))
section JO
variable {z : Nat} {A : Nat → Nat → Nat} {S : jo_S} {V0 : jx_M}
theorem jo_ov_sz : jx_sz (jo_ov z A S V0) = z := rfl
theorem jo_ov_kn (hA : jo_ij A S) {n j : Nat} {x : jx_K} (h : jo_kn S n j = some x) : jx_kn (jo_ov z A S V0) (A n j) = some x := by
  show (match jo_dc A S (A n j) with | some q => jo_kn S q.1 q.2 | none => jx_kn V0 (A n j)) = some x
  rw [jo_dc_e hA (by rw [h]; exact fun q => by cases q)]
  exact h
theorem jo_ov_vi (hA : jo_ij A S) {n j k : Nat} {x : jx_K} (h : jo_kn S n j = some x) : jx_vi (jo_ov z A S V0) (A n j) k = jo_fi S n j k := by
  show (match jo_dc A S (A n j) with | some q => jo_fi S q.1 q.2 k | none => jx_vi V0 (A n j) k) = _
  rw [jo_dc_e hA (by rw [h]; exact fun q => by cases q)]
theorem jo_ov_vl (hA : jo_ij A S) {n j k : Nat} {x : jx_K} (h : jo_kn S n j = some x) : jx_vl (jo_ov z A S V0) (A n j) k = jo_fl S n j k := by
  show (match jo_dc A S (A n j) with | some q => jo_fl S q.1 q.2 k | none => jx_vl V0 (A n j) k) = _
  rw [jo_dc_e hA (by rw [h]; exact fun q => by cases q)]
theorem jo_ov_vr (hA : jo_ij A S) {n j k : Nat} {x : jx_K} (h : jo_kn S n j = some x) : jx_vr (jo_ov z A S V0) (A n j) k = (jo_fr S n j k).map (fun r : Nat × Nat => A r.1 r.2) := by
  show (match jo_dc A S (A n j) with | some q => (jo_fr S q.1 q.2 k).map (fun r : Nat × Nat => A r.1 r.2) | none => jx_vr V0 (A n j) k) = _
  rw [jo_dc_e hA (by rw [h]; exact fun q => by cases q)]
theorem jo_dc_si {n j k : Nat} {v : Int32} : jo_dc A (jo_si S n j k v) = jo_dc A S := rfl
theorem jo_dc_sl {n j k : Nat} {v : Int64} : jo_dc A (jo_sl S n j k v) = jo_dc A S := rfl
theorem jo_dc_sr {n j k : Nat} {v : Option (Nat × Nat)} : jo_dc A (jo_sr S n j k v) = jo_dc A S := rfl
theorem jo_ov_si (hA : jo_ij A S) {n j k : Nat} {v : Int32} {x : jx_K} (h : jo_kn S n j = some x) : jx_si (jo_ov z A S V0) (A n j) k v = jo_ov z A (jo_si S n j k v) V0 := by
  have hd := jo_dc_e hA (n := n) (j := j) (by rw [h]; exact fun q => by cases q)
  refine Prod.ext rfl (Prod.ext rfl (Prod.ext ?_ rfl))
  funext a k'
  show (if a = A n j ∧ k' = k then v else (match jo_dc A S a with | some q => jo_fi S q.1 q.2 k' | none => jx_vi V0 a k')) = (match jo_dc A S a with | some q => jo_fi (jo_si S n j k v) q.1 q.2 k' | none => jx_vi V0 a k')
  by_cases e : a = A n j
  · subst e
    rw [hd]
    simp [jo_si_fi]
  · rw [if_neg (fun q => e q.1)]
    cases hq : jo_dc A S a with
    | none => rfl
    | some q =>
      show jo_fi S q.1 q.2 k' = jo_fi (jo_si S n j k v) q.1 q.2 k'
      rw [jo_si_fi, if_neg]
      intro h9
      exact e (by rw [← (jo_dc_s hq).2, h9.1, h9.2.1])
theorem jo_ov_sl (hA : jo_ij A S) {n j k : Nat} {v : Int64} {x : jx_K} (h : jo_kn S n j = some x) : jx_sl (jo_ov z A S V0) (A n j) k v = jo_ov z A (jo_sl S n j k v) V0 := by
  have hd := jo_dc_e hA (n := n) (j := j) (by rw [h]; exact fun q => by cases q)
  refine Prod.ext rfl (Prod.ext rfl (Prod.ext rfl (Prod.ext ?_ rfl)))
  funext a k'
  show (if a = A n j ∧ k' = k then v else (match jo_dc A S a with | some q => jo_fl S q.1 q.2 k' | none => jx_vl V0 a k')) = (match jo_dc A S a with | some q => jo_fl (jo_sl S n j k v) q.1 q.2 k' | none => jx_vl V0 a k')
  by_cases e : a = A n j
  · subst e
    rw [hd]
    simp [jo_sl_fl]
  · rw [if_neg (fun q => e q.1)]
    cases hq : jo_dc A S a with
    | none => rfl
    | some q =>
      show jo_fl S q.1 q.2 k' = jo_fl (jo_sl S n j k v) q.1 q.2 k'
      rw [jo_sl_fl, if_neg]
      intro h9
      exact e (by rw [← (jo_dc_s hq).2, h9.1, h9.2.1])
theorem jo_ov_sr (hA : jo_ij A S) {n j k : Nat} {v : Option Nat} {o : Option (Nat × Nat)} (hv : v = o.map (fun r : Nat × Nat => A r.1 r.2)) {x : jx_K} (h : jo_kn S n j = some x) : jx_sr (jo_ov z A S V0) (A n j) k v = jo_ov z A (jo_sr S n j k o) V0 := by
  have hd := jo_dc_e hA (n := n) (j := j) (by rw [h]; exact fun q => by cases q)
  refine Prod.ext rfl (Prod.ext rfl (Prod.ext rfl (Prod.ext rfl ?_)))
  funext a k'
  show (if a = A n j ∧ k' = k then v else (match jo_dc A S a with | some q => (jo_fr S q.1 q.2 k').map (fun r : Nat × Nat => A r.1 r.2) | none => jx_vr V0 a k')) = (match jo_dc A S a with | some q => (jo_fr (jo_sr S n j k o) q.1 q.2 k').map (fun r : Nat × Nat => A r.1 r.2) | none => jx_vr V0 a k')
  by_cases e : a = A n j
  · subst e
    rw [hd]
    by_cases ek : k' = k
    · subst ek
      simp [jo_sr_fr, hv]
    · simp [jo_sr_fr, ek]
  · rw [if_neg (fun q => e q.1)]
    cases hq : jo_dc A S a with
    | none => rfl
    | some q =>
      show (jo_fr S q.1 q.2 k').map _ = (jo_fr (jo_sr S n j k o) q.1 q.2 k').map _
      rw [jo_sr_fr, if_neg]
      intro h9
      exact e (by rw [← (jo_dc_s hq).2, h9.1, h9.2.1])
theorem jo_ov_sr1 (hA : jo_ij A S) {n j k n' j' : Nat} {x : jx_K} (h : jo_kn S n j = some x) : jx_sr (jo_ov z A S V0) (A n j) k (some (A n' j')) = jo_ov z A (jo_sr S n j k (some (n', j'))) V0 := jo_ov_sr hA rfl h
theorem jo_ov_sr0 (hA : jo_ij A S) {n j k : Nat} {x : jx_K} (h : jo_kn S n j = some x) : jx_sr (jo_ov z A S V0) (A n j) k none = jo_ov z A (jo_sr S n j k none) V0 := jo_ov_sr hA rfl h
theorem jo_ij_si {n j k : Nat} {v : Int32} (h : jo_ij A S) : jo_ij A (jo_si S n j k v) := h
theorem jo_ij_sl {n j k : Nat} {v : Int64} (h : jo_ij A S) : jo_ij A (jo_sl S n j k v) := h
theorem jo_ij_sr {n j k : Nat} {v : Option (Nat × Nat)} (h : jo_ij A S) : jo_ij A (jo_sr S n j k v) := h
end JO
end
section
/-! Contracts and calls. -/
abbrev jx_yk : Type := MethodName × ByteArray × Nat × Option FieldType × (Nat × Nat) × (Nat × Nat)
abbrev jx_yn (k : jx_yk) : MethodName := k.1
abbrev jx_yc (k : jx_yk) : ByteArray := k.2.1
abbrev jx_yl (k : jx_yk) : Nat := k.2.2.1
abbrev jx_yr (k : jx_yk) : Option FieldType := k.2.2.2.1
abbrev jx_yh (k : jx_yk) : Nat × Nat := k.2.2.2.2.1
abbrev jx_yb (k : jx_yk) : Nat × Nat := k.2.2.2.2.2
def jx_rm (k : jx_yk) : Room := { frames := (jx_yh k).1, cells := (jx_yb k).1, slots := (jx_yb k).2, locals := (jx_yh k).2 }
def jx_wy (k : jx_yk) : List Cond := .code (jx_yn k) (jx_yc k) (jx_yl k) (jx_yr k) :: jx_ws
def jx_mk (k : jx_yk) (ini : Bool) : jx_me := ((jx_yn k).cls, jx_yc k, jx_yl k, jx_yr k, jx_yh k, ini, [])
def jx_Pc (g : jx_G) (as : List Value) (μ : jx_M) : Array Value → State → Prop := fun a U => a = as.toArray ∧ jx_Ga g U U.heap ∧ jx_H g U U.heap μ
def jx_Ct (g : jx_G) (k : jx_yk) (as : List Value) (μ : jx_M) (K : jx_Kt) : Prop := vx_Met g.1 (jx_yn k) (jx_wy k) (jx_rm k) (jx_Pc g as μ) (jx_Qc g K) (jx_Xc g K) (jx_yb k).1 (jx_yb k).2 (fun q => g.2.2.1 ≤ q)
abbrev jx_F : Type := List Value → jx_M → jx_Kt → Prop
/-- a contract holds -/
def jx_Vd (g : jx_G) (k : jx_yk) (F : jx_F) : Prop := ∀ (as : List Value) (μ : jx_M) (K : jx_Kt), F as μ K → jx_Ct g k as μ K
theorem jx_lq_mem {lv : List (Nat × Value)} {i : Nat} {v : Value} (h : jx_lq lv i = some v) : (i, v) ∈ lv := by
  induction lv with
  | nil => cases h
  | cons q r ih =>
    obtain ⟨j, w⟩ := q
    rw [jx_lq_e] at h
    by_cases e : j = i
    · rw [if_pos e] at h
      cases h
      subst e
      exact List.mem_cons_self
    · rw [if_neg e] at h
      exact List.mem_cons_of_mem _ (ih h)
theorem jx_enter {g : jx_G} {k : jx_yk} {ini : Bool} {as : List Value} {μ : jx_M} {K : jx_Kt} {lv : List (Nat × Value)} (hpl : plainName (jx_yn k).cls = true) (hini : ini = true → (jx_yn k).name = "<init>") (hlen : (lg_sl as).length ≤ jx_yl k) (hlv : lv_args 0 as = lv) (h : jx_J g (jx_mk k ini) 0 (lv, [], μ, jx_yb k) K) : jx_Ct g k as μ K := by
  subst hlv
  refine vx_ofW (cc := jx_yc k) (maxL := jx_yl k) (ret := jx_yr k) (ws' := jx_ws) hpl rfl ?_
  intro p e s m args below meth c s₁ B hml htab hPc
  obtain ⟨rfl, hGa, hH⟩ := hPc
  have hl := lv_entry as (n := jx_yl k) hlen
  have hts := atoms_spec (ws := jx_wy k) B.pre
  rw [lg_entry_eq]
  refine h p e _ s m _ below meth c s.heap [] 0 0 _ _ _ ⟨B.exec, B.bytes, hml, findClass_of_methodNamed B.named, B.returns, B.notSynchronized, fun q => (name_of_methodNamed B.named B.method).1.trans (hini q), List.eq_nil_iff_forall_not_mem.mpr (fun x hx => htab x hx), fun w hw => hts w (List.mem_cons_of_mem _ hw), hGa, hH.1, Nat.le_refl _, Nat.le_refl _⟩ hH va_S.rf ⟨hl.1, hl.2.1, fun i v q => hl.2.2 _ (jx_lq_mem q)⟩ ?_ ?_ (Nat.le_refl _) (Nat.le_refl _)
  · show 0 + (jx_yb k).1 ≤ (jx_yb k).1
    omega
  · show 0 + (jx_yb k).2 ≤ (jx_yb k).2
    omega
theorem jx_met {l : Launch} {y : MethodName} {ws : List Cond} {rm : Room} {Pc : Array Value → State → Prop} {Qc : Array Value → State → Outcome → State → Prop} {XC : String → State → State → Prop} {mc ms : Nat} {free : Addr → Prop} (h : vx_Met l y ws rm Pc Qc XC mc ms free) (hx : ∀ E st t, ¬ XC E st t) : Met l y ws rm Pc Qc mc ms free := by
  intro p e ha hc hk s m args below hf happ hP hK
  obtain ⟨n, o, h1, h2, h3, h4⟩ := h p e ha hc hk s m args below hf happ hP hK
  refine ⟨n, o, h1, h2, h3, ?_⟩
  rcases h4 with h4 | ⟨q, -, E, ce, L, hxc, -⟩
  · exact h4
  · exact absurd hxc (hx _ _ _)
def jx_Kc (P : jx_S → Prop) (lv : List (Nat × Value)) (rest : List Value) (b : Nat × Nat) (mc ms : Nat) : jx_Kt := fun o μ => match o with
  | .inl v => P (lv, v.toList ++ rest, μ, b.1 - mc, b.2 - ms)
  | .inr _ => False
theorem jx_Kc_e {P : jx_S → Prop} {lv : List (Nat × Value)} {rest : List Value} {b : Nat × Nat} {mc ms : Nat} {v : Option Value} {μ : jx_M} : jx_Kc P lv rest b mc ms (.inl v) μ = P (lv, v.toList ++ rest, μ, b.1 - mc, b.2 - ms) := rfl
theorem jx_Kc_i {P : jx_S → Prop} {lv : List (Nat × Value)} {rest : List Value} {b : Nat × Nat} {mc ms : Nat} {v : Value} {μ : jx_M} : jx_Kc P lv rest b mc ms (.inl (some v)) μ = P (lv, v :: rest, μ, b.1 - mc, b.2 - ms) := rfl
theorem jx_Kc_v {P : jx_S → Prop} {lv : List (Nat × Value)} {rest : List Value} {b : Nat × Nat} {mc ms : Nat} {μ : jx_M} : jx_Kc P lv rest b mc ms (.inl none) μ = P (lv, rest, μ, b.1 - mc, b.2 - ms) := rfl
def jx_sm (st : List Value) : Prop := (st.map fun v => v.category).sum ≤ 8
def jx_tk : Nat → List Value → List Value → Option (List Value × List Value)
  | 0, st, acc => some (acc, st)
  | n + 1, x :: st, acc => jx_tk n st (x :: acc)
  | _ + 1, [], _ => none
theorem jx_tk_s : ∀ (n : Nat) (st acc as rest : List Value), jx_tk n st acc = some (as, rest) → ∃ bs : List Value, as = bs ++ acc ∧ st = bs.reverse ++ rest ∧ bs.length = n
  | 0, st, acc, as, rest, h => by
    cases h
    exact ⟨[], rfl, rfl, rfl⟩
  | n + 1, x :: st, acc, as, rest, h => by
    obtain ⟨bs, e1, e2, e3⟩ := jx_tk_s n st (x :: acc) as rest h
    exact ⟨bs ++ [x], by rw [e1]; simp, by rw [e2]; simp, by simp [e3]⟩
  | n + 1, [], acc, as, rest, h => by cases h
/-- a call of n arguments (the receiver among them), by the contract F -/
def jt_call (n : Nat) (mc ms : Nat) (F : jx_F) : jx_tr := fun σ P => match σ with
  | (lv, st, μ, b) => match jx_tk n st [] with
    | some (as, rest) => mc ≤ b.1 ∧ ms ≤ b.2 ∧ jx_sm rest ∧ F as μ (jx_Kc P lv rest b mc ms)
    | none => False
section CE
variable {mc ms : Nat} {F : jx_F} {x1 x2 x3 x4 x5 x6 : Value} {lv : List (Nat × Value)} {st : List Value} {μ : jx_M} {b : Nat × Nat} {P : jx_S → Prop}
theorem jt_call_0 : jt_call 0 mc ms F (lv, st, μ, b) P = (mc ≤ b.1 ∧ ms ≤ b.2 ∧ jx_sm st ∧ F [] μ (jx_Kc P lv st b mc ms)) := rfl
theorem jt_call_1 : jt_call 1 mc ms F (lv, x1 :: st, μ, b) P = (mc ≤ b.1 ∧ ms ≤ b.2 ∧ jx_sm st ∧ F [x1] μ (jx_Kc P lv st b mc ms)) := rfl
theorem jt_call_2 : jt_call 2 mc ms F (lv, x2 :: x1 :: st, μ, b) P = (mc ≤ b.1 ∧ ms ≤ b.2 ∧ jx_sm st ∧ F [x1, x2] μ (jx_Kc P lv st b mc ms)) := rfl
theorem jt_call_3 : jt_call 3 mc ms F (lv, x3 :: x2 :: x1 :: st, μ, b) P = (mc ≤ b.1 ∧ ms ≤ b.2 ∧ jx_sm st ∧ F [x1, x2, x3] μ (jx_Kc P lv st b mc ms)) := rfl
theorem jt_call_4 : jt_call 4 mc ms F (lv, x4 :: x3 :: x2 :: x1 :: st, μ, b) P = (mc ≤ b.1 ∧ ms ≤ b.2 ∧ jx_sm st ∧ F [x1, x2, x3, x4] μ (jx_Kc P lv st b mc ms)) := rfl
theorem jt_call_5 : jt_call 5 mc ms F (lv, x5 :: x4 :: x3 :: x2 :: x1 :: st, μ, b) P = (mc ≤ b.1 ∧ ms ≤ b.2 ∧ jx_sm st ∧ F [x1, x2, x3, x4, x5] μ (jx_Kc P lv st b mc ms)) := rfl
end CE
theorem jx_Pc_blind {g : jx_G} {as : List Value} {μ : jx_M} : FrameBlind (jx_Pc g as μ) := by
  intro a U f mk h
  obtain ⟨h1, h2, h3⟩ := h
  exact ⟨h1, jx_Ga_warm (s := U) (U := U.calling f mk a) (State.WarmedH.refl U) (fun _ _ _ => rfl) h2, jx_H_moved (u := U) (U := U.calling f mk a) (Vm.Alike.refl U.vm) h3⟩
theorem jx_Pc_at {g : jx_G} {as : List Value} {μ : jx_M} {s : State} {H : Heap} {locs : List Loc} (hGa : jx_Ga g s s.heap) (hH : jx_H g s H μ) (hS : va_S (fun q => g.2.2.1 ≤ q) s.heap H locs) (U : State) (hU : U.heap = H) (hW : s.WarmedH U.vm) : jx_Pc g as μ as.toArray U := by
  refine ⟨rfl, ?_, ?_⟩
  · rw [hU]; exact jx_Ga_warm hW hS.2.1 hGa
  · rw [hU]; exact jx_H_moved hW.alike hH
theorem jx_call_go {g : jx_G} {me : jx_me} {pc : Nat} {lv : List (Nat × Value)} {st rest as : List Value} {μ : jx_M} {b : Nat × Nat} {K : jx_Kt} {P : jx_S → Prop} {mc0 ms0 : Nat} (hP : ∀ σ' : jx_S, P σ' → jx_J g me (pc + 3) σ' K) (hb1 : mc0 ≤ b.1) (hb2 : ms0 ≤ b.2)
    (hrun : ∀ (p : Program) (e : Env) (R : Room) (s : State) (m : MethodId) (args : Array Value) (below : List Frame) (meth : Method) (c : Code) (H : Heap) (locs : List Loc) (cells slots : Nat) (ls : Array Slot), jx_C g me p R s m args meth c → jx_H g s H μ → va_S (fun q => g.2.2.1 ≤ q) s.heap H locs → ls.size = jx_ml me → cells + mc0 ≤ R.cells → slots + ms0 ≤ R.slots →
      va_Run p g.1 e R s m args below meth c H locs cells slots mc0 ms0 (F0 m pc ls st) rest (jx_Qc g (jx_Kc P lv rest b mc0 ms0) as.toArray) (fun q => g.2.2.1 ≤ q)) : jx_J g me pc (lv, st, μ, b) K := by
  intro p e R s m args below meth c H locs cells slots ls mc ms hC hH hS hl h1 h2 h3 h4
  dsimp only at h1 h2
  intro T hT X
  obtain ⟨v, st₀, t, T', L, h0, X', hL, e1, e2, ⟨v9, μ', hv, hK, hH', hF⟩, hgo⟩ := hrun p e R s m args below meth c H locs cells slots ls hC hH hS hl.1 (by omega) (by omega) T hT X
  cases hv
  have hvm : s.vm.Alike T'.vm := X'.warmed.alike
  obtain ⟨k1, k2, k3⟩ := vx_keep (A1 := fun q => g.2.2.1 ≤ q) h0 e1 hS (fun q _ h => h) (fun q h => h) hL hF
  have hH9 : jx_H g s T'.heap μ' := by rw [e1]; exact jx_H_moved (by rw [← e2]; exact hvm.symm) hH'
  obtain ⟨t2, a1, b1⟩ := hP _ hK p e R s m args below meth c T'.heap (locs ++ L) (cells + mc0) (slots + ms0) ls mc ms hC hH9 k3 hl (by dsimp only; omega) (by dsimp only; omega) h3 h4 T' rfl X'
  exact ⟨t2, hgo t2 a1, b1⟩
theorem jx_Ct_met {g : jx_G} {k : jx_yk} {as : List Value} {μ : jx_M} {P : jx_S → Prop} {lv : List (Nat × Value)} {rest : List Value} {b : Nat × Nat} {mc ms : Nat} (h : jx_Ct g k as μ (jx_Kc P lv rest b mc ms)) : Met g.1 (jx_yn k) (jx_wy k) (jx_rm k) (jx_Pc g as μ) (jx_Qc g (jx_Kc P lv rest b mc ms)) (jx_yb k).1 (jx_yb k).2 (fun q => g.2.2.1 ≤ q) :=
  jx_met h (fun E st t hx => by
    obtain ⟨μ', hK, -⟩ := hx
    exact hK)
/-- what a call of k asks of its place: room, and the shape of its name -/
def jx_cq (me : jx_me) (k : jx_yk) (n : Nat) : Prop := ((jx_yn k).cls ≠ "java/lang/invoke/MethodHandle" ∧ (jx_yn k).cls ≠ "java/lang/invoke/VarHandle" ∧ (parseMethodDescriptor (jx_yn k).desc).map (fun d => d.parameters.length) = some n) ∧ ((jx_yh k).1 + 1 ≤ (jx_ht me).1 ∧ 8 + (jx_yl k + 11) + (jx_yh k).2 ≤ (jx_ht me).2)
theorem jx_room {me : jx_me} {k : jx_yk} {R : Room} (h1 : (jx_yh k).1 + 1 ≤ (jx_ht me).1) (h2 : 8 + (jx_yl k + 11) + (jx_yh k).2 ≤ (jx_ht me).2) (h3 : (jx_ht me).1 ≤ R.frames) (h4 : (jx_ht me).2 ≤ R.locals) : (jx_rm k).frames + 1 ≤ R.frames ∧ 8 + (jx_yl k + 11) + (jx_rm k).locals ≤ R.locals :=
  ⟨Nat.le_trans h1 h3, Nat.le_trans h2 h4⟩
theorem jx_wy_GI {k : jx_yk} {hd : List Cond} (h : ∀ w ∈ hd, w ∈ jx_ws) (hc : Cond.code (jx_yn k) (jx_yc k) (jx_yl k) (jx_yr k) ∈ jx_ws) : GoodIn jx_ws (hd ++ jx_wy k) := jx_GI (fun w hw => by
  rcases List.mem_append.mp hw with h9 | h9
  · exact h w h9
  · rcases List.mem_cons.mp h9 with e | h8
    · rw [e]; exact hc
    · exact h8)
/-- a static method of ours -/
theorem js_callS {g : jx_G} {me : jx_me} {pc n idx : Nat} {k : jx_yk} {F : jx_F} (hd : decode (jx_cc me) pc = .ok (.invokestatic idx, 3)) (hF : jx_Vd g k F) (hq : jx_cq me k n) (hc : Cond.code (jx_yn k) (jx_yc k) (jx_yl k) (jx_yr k) ∈ jx_ws) (hw1 : Cond.methodLink (jx_ow me) idx (jx_yn k) ∈ jx_ws) (hw2 : Cond.static (jx_yn k) ∈ jx_ws) (hw3 : Cond.initialized (jx_yn k).cls ∈ jx_ws) : jx_So g me pc (pc + 3) (jt_call n (jx_yb k).1 (jx_yb k).2 F) := by
  intro K P σ hP ht
  obtain ⟨lv, st, μ, b⟩ := σ
  unfold jt_call at ht
  dsimp only at ht
  split at ht
  · rename_i as rest htk
    obtain ⟨hb1, hb2, hsm, ht⟩ := ht
    obtain ⟨bs, e1, e2, e3⟩ := jx_tk_s n st [] as rest htk
    rw [List.append_nil] at e1
    subst e1
    refine jx_call_go (rest := rest) (as := as) hP hb1 hb2 ?_
    intro p e R s m args below meth c H locs cells slots ls hC hH hS hls h3 h4
    obtain ⟨hx, hb, hml, hown, -, -, -, -, hts, hGa, -, hR1, hR2⟩ := hC
    exact va_runS (Ts := jx_ws) (bytes := jx_yc k) (maxL := jx_yl k) (ret := jx_yr k) ⟨hx, hb, hml, hown, hts⟩ (jx_Ct_met (hF _ _ _ ht)) (va_cwS n hts (jx_wy_GI (k := k) (hd := [.methodLink (jx_ow me) idx (jx_yn k), .static (jx_yn k), .initialized (jx_yn k).cls]) (by simp [hw1, hw2, hw3]) hc) rfl rfl rfl hq.1 (jx_room hq.2.1 hq.2.2 hR1 hR2)) ⟨jx_Pc_blind, jx_Pc_at hGa hH hS⟩ rfl e3 hls e2 (lv_room hsm) hd ⟨h3, h4⟩
  · exact False.elim ht
/-- the receiver's cell -/
theorem jx_recv {g : jx_G} {s : State} {H : Heap} {μ : jx_M} {a ci : Nat} {C : String} {T : u_T} {N : Nat} (hGa : jx_Ga g s s.heap) (hH : jx_H g s H μ) (hk : jx_kn μ a = some (.inl ci)) (hc : jx_cl[ci]? = some (C, T, N)) : ∃ cell : Cell, H[a]? = some cell ∧ cell.vm.isStatics = false ∧ s.vm.findClass C = some cell.cls := by
  obtain ⟨-, r, hr, cell, q1, q2, q3, -⟩ := hH.2.2 _ _ hk
  have er : r = (C, T, N) := Option.some.inj (hr.symm.trans hc)
  subst er
  exact ⟨cell, q1, by rw [q3]; rfl, by rw [q2]; exact ((jx_Ga_K hGa).1 ci _ hc).2.1⟩
/-- the call of a method on an object of its own class (public, or private and called inside): the contract speaks of an object of class ci -/
theorem js_callV {g : jx_G} {me : jx_me} {pc n idx ci N : Nat} {T : u_T} {k : jx_yk} {F : jx_F} (hd : decode (jx_cc me) pc = .ok (.invokevirtual idx, 3)) (hF : jx_Vd g k F) (hrc : ∀ as μ K, F as μ K → ∃ a tl, as = .ref a :: tl ∧ jx_kn μ a = some (.inl ci)) (hcl : jx_cl[ci]? = some ((jx_yn k).cls, T, N)) (hq : jx_cq me k n) (hc : Cond.code (jx_yn k) (jx_yc k) (jx_yl k) (jx_yr k) ∈ jx_ws) (hw1 : Cond.methodLink (jx_ow me) idx (jx_yn k) ∈ jx_ws) (hw2 : Cond.instanceMethod (jx_yn k) ∈ jx_ws) (hw3 : Cond.selects (jx_yn k).cls (jx_yn k) (jx_yn k) ∈ jx_ws) (hw4 : Cond.initialized (jx_yn k).cls ∈ jx_ws) : jx_So g me pc (pc + 3) (jt_call (n + 1) (jx_yb k).1 (jx_yb k).2 F) := by
  intro K P σ hP ht
  obtain ⟨lv, st, μ, b⟩ := σ
  unfold jt_call at ht
  dsimp only at ht
  split at ht
  · rename_i as rest htk
    obtain ⟨hb1, hb2, hsm, ht⟩ := ht
    obtain ⟨bs, e1, e2, e3⟩ := jx_tk_s (n + 1) st [] as rest htk
    rw [List.append_nil] at e1
    subst e1
    obtain ⟨a, tl, ea, hka⟩ := hrc _ _ _ ht
    subst ea
    refine jx_call_go (rest := rest) (as := .ref a :: tl) hP hb1 hb2 ?_
    intro p e R s m args below meth c H locs cells slots ls hC hH hS hls h3 h4
    obtain ⟨hx, hb, hml, hown, -, -, -, -, hts, hGa, -, hR1, hR2⟩ := hC
    exact va_runV (C := (jx_yn k).cls) (Ts := jx_ws) (bytes := jx_yc k) (maxL := jx_yl k) (ret := jx_yr k) (As := tl) (b := a) ⟨hx, hb, hml, hown, hts⟩ (jx_Ct_met (hF _ _ _ ht)) (cwV n hts (jx_wy_GI (k := k) (hd := [.methodLink (jx_ow me) idx (jx_yn k), .instanceMethod (jx_yn k), .selects (jx_yn k).cls (jx_yn k) (jx_yn k), .initialized (jx_yn k).cls]) (by simp [hw1, hw2, hw3, hw4]) hc) rfl rfl rfl ⟨rfl, hq.1⟩ (jx_room hq.2.1 hq.2.2 hR1 hR2)) ⟨jx_Pc_blind, jx_recv hGa hH hka hcl, jx_Pc_at hGa hH hS⟩ rfl (by simpa using e3) hls (by simpa using e2) (lv_room hsm) hd ⟨h3, h4⟩
  · exact False.elim ht
/-- a constructor -/
theorem js_callI {g : jx_G} {me : jx_me} {pc n idx : Nat} {k : jx_yk} {F : jx_F} (hd : decode (jx_cc me) pc = .ok (.invokespecial idx, 3)) (hF : jx_Vd g k F) (hrc : ∀ as μ K, F as μ K → ∃ a tl, as = .ref a :: tl) (hret : jx_yr k = none) (hnm : (jx_yn k).name = "<init>") (hq : jx_cq me k n) (hc : Cond.code (jx_yn k) (jx_yc k) (jx_yl k) (jx_yr k) ∈ jx_ws) (hw1 : Cond.methodLink (jx_ow me) idx (jx_yn k) ∈ jx_ws) (hw2 : Cond.instanceMethod (jx_yn k) ∈ jx_ws) (hw4 : Cond.initialized (jx_yn k).cls ∈ jx_ws) : jx_So g me pc (pc + 3) (jt_call (n + 1) (jx_yb k).1 (jx_yb k).2 F) := by
  intro K P σ hP ht
  obtain ⟨lv, st, μ, b⟩ := σ
  unfold jt_call at ht
  dsimp only at ht
  split at ht
  · rename_i as rest htk
    obtain ⟨hb1, hb2, hsm, ht⟩ := ht
    obtain ⟨bs, e1, e2, e3⟩ := jx_tk_s (n + 1) st [] as rest htk
    rw [List.append_nil] at e1
    subst e1
    obtain ⟨a, tl, ea⟩ := hrc _ _ _ ht
    subst ea
    refine jx_call_go (rest := rest) (as := .ref a :: tl) hP hb1 hb2 ?_
    intro p e R s m args below meth c H locs cells slots ls hC hH hS hls h3 h4
    obtain ⟨hx, hb, hml, hown, -, -, -, -, hts, hGa, -, hR1, hR2⟩ := hC
    have hwy : jx_wy k = Cond.code (jx_yn k) (jx_yc k) (jx_yl k) none :: jx_ws := by unfold jx_wy; rw [hret]
    exact va_runI (Ts := jx_ws) (bytes := jx_yc k) (maxL := jx_yl k) (As := tl) (b := a) ⟨hx, hb, hml, hown, hts⟩ (jx_Ct_met (hF _ _ _ ht)) (cwI n hts (jx_wy_GI (k := k) (hd := []) (by simp) hc) hwy rfl rfl (hts _ hw4) (hts _ hw1) (hts _ hw2) hnm hq.1 (jx_room hq.2.1 hq.2.2 hR1 hR2)) ⟨jx_Pc_blind, jx_Pc_at hGa hH hS⟩ rfl (by simpa using e3) hls (by simpa using e2) (lv_room hsm) hd ⟨h3, h4⟩
  · exact False.elim ht
/-- contracts that name the receiver's class -/
def jx_Fo (ci : Nat) (F : jx_F) : jx_F := fun as μ K => (∃ a tl, as = .ref a :: tl ∧ jx_kn μ a = some (.inl ci)) ∧ F as μ K
def jx_Fc (F : jx_F) : jx_F := fun as μ K => (∃ a tl, as = .ref a :: tl) ∧ F as μ K
theorem jx_Vd_o {g : jx_G} {k : jx_yk} {F : jx_F} {ci : Nat} (h : jx_Vd g k F) : jx_Vd g k (jx_Fo ci F) := fun as μ K q => h as μ K q.2
theorem jx_Vd_c {g : jx_G} {k : jx_yk} {F : jx_F} (h : jx_Vd g k F) : jx_Vd g k (jx_Fc F) := fun as μ K q => h as μ K q.2
theorem jx_Fo_e {ci a : Nat} {F : jx_F} {tl : List Value} {μ : jx_M} {K : jx_Kt} : jx_Fo ci F (.ref a :: tl) μ K = (jx_kn μ a = some (.inl ci) ∧ F (.ref a :: tl) μ K) := propext ⟨fun ⟨⟨a', tl', e, h⟩, q⟩ => by cases e; exact ⟨h, q⟩, fun ⟨h, q⟩ => ⟨⟨a, tl, rfl, h⟩, q⟩⟩
theorem jx_Fc_e {a : Nat} {F : jx_F} {tl : List Value} {μ : jx_M} {K : jx_Kt} : jx_Fc F (.ref a :: tl) μ K = F (.ref a :: tl) μ K := propext ⟨fun q => q.2, fun q => ⟨⟨a, tl, rfl⟩, q⟩⟩
theorem jx_inp {w : Cond} (i : Nat) (h : (k2_sels lw_privs)[i]? = some w) (hg : goodWord w = true) : w ∈ jx_ws := List.mem_filter.mpr ⟨List.mem_append_left _ (List.mem_of_getElem? h), hg⟩
theorem wd_obj : Cond.code Lib.objectInit ⟨#[0xb1]⟩ 1 none ∈ jx_ws := jx_in 24 (by decide +kernel) (by decide +kernel)
theorem wd_mmax : Cond.code Lib.Math.max.name Lib.Math.max.code 2 (some .int) ∈ jx_ws := jx_in 614 (by decide +kernel) (by decide +kernel)
theorem wd_mmin : Cond.code Lib.Math.min.name Lib.Math.min.code 2 (some .int) ∈ jx_ws := jx_in 655 (by decide +kernel) (by decide +kernel)
end
section
/-! Calls by the receiver's class, across the nest, of the library; casts; statics; throws; switches; ends. -/
def jx_CUp (g : jx_G) (me : jx_me) (idx : Nat) (x : MethodName) (n : Nat) (k : jx_yk) (C owner : String) : Prop := ∀ (R : Room) (s : State) (args : Array Value), (∀ w ∈ jx_ws, w.before args s = true) → jx_Ga g s s.heap → (jx_ht me).1 ≤ R.frames → (jx_ht me).2 ≤ R.locals →
  va_CU R s args (jx_ow me) C owner idx x (jx_yn k) (jx_yc k) (jx_yl k) (jx_yr k) (jx_wy k) (jx_rm k) (jx_yb k).1 (jx_yb k).2 n
def jx_cr (me : jx_me) (k : jx_yk) : Prop := (jx_yh k).1 + 1 ≤ (jx_ht me).1 ∧ 8 + (jx_yl k + 11) + (jx_yh k).2 ≤ (jx_ht me).2
def jx_cx (x : MethodName) (owner : String) (n : Nat) : Prop := owner ≠ "java/lang/invoke/MethodHandle" ∧ owner ≠ "java/lang/invoke/VarHandle" ∧ (parseMethodDescriptor x.desc).map (fun d => d.parameters.length) = some n
theorem jx_cuU {g : jx_G} {me : jx_me} {idx n : Nat} {x : MethodName} {k : jx_yk} {C owner : String} (hr : jx_cr me k) (hx : jx_cx x owner n) (hy : jx_yn k = ⟨owner, x.name, x.desc⟩) (hc : Cond.code (jx_yn k) (jx_yc k) (jx_yl k) (jx_yr k) ∈ jx_ws) (w1 : Cond.methodLink (jx_ow me) idx x ∈ jx_ws) (w2 : Cond.sameMethod x.cls owner x.name x.desc ∈ jx_ws) (w3 : Cond.selects C x (jx_yn k) ∈ jx_ws) (w4 : Cond.instanceMethod (jx_yn k) ∈ jx_ws) (w5 : Cond.initialized (jx_yn k).cls ∈ jx_ws) : jx_CUp g me idx x n k C owner :=
  fun R s args hts hGa h1 h2 => va_cwU n hts (jx_wy_GI (k := k) (hd := [.methodLink (jx_ow me) idx x, .sameMethod x.cls owner x.name x.desc, .selects C x (jx_yn k), .instanceMethod (jx_yn k), .initialized (jx_yn k).cls]) (by simp [w1, w2, w3, w4, w5]) hc) rfl rfl rfl hy hx (jx_room hr.1 hr.2 h1 h2)
theorem jx_cuO {g : jx_G} {me : jx_me} {idx n : Nat} {x : MethodName} {k : jx_yk} {C owner : String} {b0 : ByteArray} {m0 : Nat} {r0 : Option FieldType} (hr : jx_cr me k) (hx : jx_cx x owner n) (hc : Cond.code (jx_yn k) (jx_yc k) (jx_yl k) (jx_yr k) ∈ jx_ws) (h0 : Cond.code ⟨owner, x.name, x.desc⟩ b0 m0 r0 ∈ jx_ws) (w1 : Cond.methodLink (jx_ow me) idx x ∈ jx_ws) (w2 : Cond.sameMethod x.cls owner x.name x.desc ∈ jx_ws) (w6 : Cond.instanceMethod ⟨owner, x.name, x.desc⟩ ∈ jx_ws) (w3 : Cond.selects C x (jx_yn k) ∈ jx_ws) (w4 : Cond.instanceMethod (jx_yn k) ∈ jx_ws) (w5 : Cond.initialized (jx_yn k).cls ∈ jx_ws) : jx_CUp g me idx x n k C owner :=
  fun R s args hts hGa h1 h2 => va_cwO n hts (jx_wy_GI (k := k) (hd := [.methodLink (jx_ow me) idx x, .sameMethod x.cls owner x.name x.desc, .instanceMethod ⟨owner, x.name, x.desc⟩, .selects C x (jx_yn k), .instanceMethod (jx_yn k), .initialized (jx_yn k).cls]) (by simp [w1, w2, w3, w4, w5, w6]) hc) rfl rfl rfl h0 hx (jx_room hr.1 hr.2 h1 h2)
theorem jx_cuA {g : jx_G} {me : jx_me} {idx n : Nat} {x : MethodName} {k : jx_yk} {C owner : String} (hr : jx_cr me k) (hx : jx_cx x owner n) (hz : (⟨owner, x.name, x.desc⟩ : MethodName) ∈ jx_wD) (hc : Cond.code (jx_yn k) (jx_yc k) (jx_yl k) (jx_yr k) ∈ jx_ws) (w1 : Cond.methodLink (jx_ow me) idx x ∈ jx_ws) (w2 : Cond.sameMethod x.cls owner x.name x.desc ∈ jx_ws) (w3 : Cond.selects C x (jx_yn k) ∈ jx_ws) (w4 : Cond.instanceMethod (jx_yn k) ∈ jx_ws) (w5 : Cond.initialized (jx_yn k).cls ∈ jx_ws) : jx_CUp g me idx x n k C owner :=
  fun R s args hts hGa h1 h2 => va_cwA n hts (jx_wy_GI (k := k) (hd := [.methodLink (jx_ow me) idx x, .sameMethod x.cls owner x.name x.desc, .selects C x (jx_yn k), .instanceMethod (jx_yn k), .initialized (jx_yn k).cls]) (by simp [w1, w2, w3, w4, w5]) hc) rfl rfl rfl (hGa.2.2.2.2.2.1 _ hz) hx (jx_room hr.1 hr.2 h1 h2)
/-- the contract of a call that the receiver's class decides -/
def jx_Fv (lo hi : Nat) (G : Nat → jx_F) : jx_F := fun as μ K => ∃ (a : Nat) (tl : List Value) (ci : Nat), as = .ref a :: tl ∧ jx_kn μ a = some (.inl ci) ∧ lo ≤ ci ∧ ci ≤ hi ∧ G ci as μ K
theorem js_callU {g : jx_G} {me : jx_me} {pc n idx lo hi mc ms : Nat} {x : MethodName} {G : Nat → jx_F} (hd : decode (jx_cc me) pc = .ok (.invokevirtual idx, 3))
    (hall : ∀ ci, lo ≤ ci → ci ≤ hi → ∃ (k : jx_yk) (C owner : String) (T : u_T) (N : Nat), jx_cl[ci]? = some (C, T, N) ∧ jx_yb k = (mc, ms) ∧ jx_Vd g k (G ci) ∧ jx_CUp g me idx x n k C owner) : jx_So g me pc (pc + 3) (jt_call (n + 1) mc ms (jx_Fv lo hi G)) := by
  intro K P σ hP ht
  obtain ⟨lv, st, μ, b⟩ := σ
  unfold jt_call at ht
  dsimp only at ht
  split at ht
  · rename_i as rest htk
    obtain ⟨hb1, hb2, hsm, a, tl, ci, ea, hka, hlo, hhi, ht⟩ := ht
    obtain ⟨bs, e1, e2, e3⟩ := jx_tk_s (n + 1) st [] as rest htk
    rw [List.append_nil] at e1
    subst e1
    subst ea
    obtain ⟨k, C, owner, T, N, hcl, hyb, hF, hcu⟩ := hall ci hlo hhi
    have hb9 : (jx_yb k).1 = mc ∧ (jx_yb k).2 = ms := by rw [hyb]; exact ⟨rfl, rfl⟩
    obtain ⟨em, es⟩ := hb9
    subst em; subst es
    refine jx_call_go (rest := rest) (as := .ref a :: tl) hP hb1 hb2 ?_
    intro p e R s m args below meth c H locs cells slots ls hC hH hS hls h3 h4
    obtain ⟨hx, hb, hml, hown, -, -, -, -, hts, hGa, -, hR1, hR2⟩ := hC
    exact va_runU (C := C) (owner := owner) (x := x) (Ts := jx_ws) (bytes := jx_yc k) (maxL := jx_yl k) (ret := jx_yr k) (As := tl) (b := a) ⟨hx, hb, hml, hown, hts⟩ (jx_Ct_met (hF _ _ _ ht)) (hcu R s args hts hGa hR1 hR2) ⟨jx_Pc_blind, jx_recv hGa hH hka hcl, jx_Pc_at hGa hH hS⟩ rfl (by simpa using e3) hls (by simpa using e2) (lv_room hsm) hd ⟨h3, h4⟩
  · exact False.elim ht
/-- a private static method of a nest mate -/
theorem js_callSN {g : jx_G} {me : jx_me} {pc n idx : Nat} {host : String} {k : jx_yk} {F : jx_F} (hd : decode (jx_cc me) pc = .ok (.invokestatic idx, 3)) (hF : jx_Vd g k F) (hq : jx_cq me k n) (hc : Cond.code (jx_yn k) (jx_yc k) (jx_yl k) (jx_yr k) ∈ jx_ws) (hw1 : (jx_ow me, idx, jx_yn k, host) ∈ jx_wM) (hw2 : Cond.static (jx_yn k) ∈ jx_ws) (hw3 : Cond.initialized (jx_yn k).cls ∈ jx_ws) : jx_So g me pc (pc + 3) (jt_call n (jx_yb k).1 (jx_yb k).2 F) := by
  intro K P σ hP ht
  obtain ⟨lv, st, μ, b⟩ := σ
  unfold jt_call at ht
  dsimp only at ht
  split at ht
  · rename_i as rest htk
    obtain ⟨hb1, hb2, hsm, ht⟩ := ht
    obtain ⟨bs, e1, e2, e3⟩ := jx_tk_s n st [] as rest htk
    rw [List.append_nil] at e1
    subst e1
    refine jx_call_go (rest := rest) (as := as) hP hb1 hb2 ?_
    intro p e R s m args below meth c H locs cells slots ls hC hH hS hls h3 h4
    obtain ⟨hx, hb, hml, hown, -, -, -, -, hts, hGa, -, hR1, hR2⟩ := hC
    exact va_runSN (host := host) (Ts := jx_ws) (bytes := jx_yc k) (maxL := jx_yl k) (ret := jx_yr k) ⟨hx, hb, hml, hown, hts⟩ (jx_Ct_met (hF _ _ _ ht)) ⟨va_cnB n hts (jx_wy_GI (k := k) (hd := []) (by simp) hc) rfl rfl rfl (hGa.2.2.1 _ hw1) (hts _ hw3) hq.1 (jx_room hq.2.1 hq.2.2 hR1 hR2), hts _ hw2, trivial⟩ ⟨jx_Pc_blind, jx_Pc_at hGa hH hS⟩ rfl e3 hls e2 (lv_room hsm) hd ⟨h3, h4⟩
  · exact False.elim ht
/-! the library's -/
def jt_objI : jx_tr := fun σ P => match σ with
  | (lv, x :: st, μ, b) => jx_r x ∧ jx_sm st ∧ P (lv, st, μ, b)
  | _ => False
theorem jt_objI_e {x : Value} {lv : List (Nat × Value)} {st : List Value} {μ : jx_M} {b : Nat × Nat} {P : jx_S → Prop} : jt_objI (lv, x :: st, μ, b) P = (jx_r x ∧ jx_sm st ∧ P (lv, st, μ, b)) := rfl
theorem js_objI {g : jx_G} {me : jx_me} {pc idx : Nat} (hd : decode (jx_cc me) pc = .ok (.invokespecial idx, 3)) (hw1 : Cond.methodLink (jx_ow me) idx Lib.objectInit ∈ jx_ws) (hw2 : Cond.instanceMethod Lib.objectInit ∈ jx_ws) (hw3 : Cond.code Lib.objectInit ⟨#[0xb1]⟩ 1 none ∈ jx_ws) (hr : 1 ≤ (jx_ht me).1 ∧ 20 ≤ (jx_ht me).2) : jx_So g me pc (pc + 3) jt_objI := by
  intro K P σ hP ht
  obtain ⟨lv, st, μ, b⟩ := σ
  rcases st with _ | ⟨x, st⟩
  · exact False.elim ht
  · obtain ⟨⟨a, rfl⟩, hsm, ht⟩ := ht
    intro p e R s m args below meth c H locs cells slots ls mc ms hC hH hS hl h1 h2 h3 h4
    have hts := hC.2.2.2.2.2.2.2.2.1
    have hl9 : (jx_ht me).2 ≤ R.locals := hC.2.2.2.2.2.2.2.2.2.2.2.2
    have hsm9 := lv_room (m := m) (pc := pc) (ls := ls) (rest := st) hsm
    exact W.objInit hC.1 hC.2.1 hC.2.2.2.1 (hts _ hw1) (hts _ hw2) (hts _ hw3) rfl (hl.1.trans hC.2.2.1.symm) rfl hd (Nat.le_trans hr.1 hC.2.2.2.2.2.2.2.2.2.2.2.1) (Nat.le_trans (Nat.add_le_add_right (show 2 * (F0 m pc ls (Value.ref a :: st)).monitorRoom + (st.map fun v => v.category).sum ≤ 8 from hsm9) 12) (Nat.le_trans hr.2 hl9)) (hP _ ht p e R s m args below meth c H locs cells slots ls mc ms hC hH hS hl h1 h2 h3 h4)
def jx_mx (x y : Int32) : Int32 := if x < y then y else x
def jx_mn (x y : Int32) : Int32 := if y < x then y else x
end
section
def jt_mmax : jx_tr := fun σ P => match σ with
  | (lv, y :: x :: st, μ, b) => jx_i x ∧ jx_i y ∧ jx_sm st ∧ P (lv, .int (jx_mx (jx_iv x) (jx_iv y)) :: st, μ, b)
  | _ => False
theorem jt_mmax_e {y x : Value} {lv : List (Nat × Value)} {st : List Value} {μ : jx_M} {b : Nat × Nat} {P : jx_S → Prop} : jt_mmax (lv, y :: x :: st, μ, b) P = (jx_i x ∧ jx_i y ∧ jx_sm st ∧ P (lv, .int (jx_mx (jx_iv x) (jx_iv y)) :: st, μ, b)) := rfl
theorem js_mmax {g : jx_G} {me : jx_me} {pc idx : Nat} (hd : decode (jx_cc me) pc = .ok (.invokestatic idx, 3)) (hw1 : Cond.methodLink (jx_ow me) idx Lib.Math.max.name ∈ jx_ws) (hw2 : Cond.static Lib.Math.max.name ∈ jx_ws) (hw3 : Cond.initialized "java/lang/Math" ∈ jx_ws) (hw4 : Cond.code Lib.Math.max.name Lib.Math.max.code 2 (some .int) ∈ jx_ws) (hr : 1 ≤ (jx_ht me).1 ∧ 21 ≤ (jx_ht me).2) : jx_So g me pc (pc + 3) jt_mmax := by
  intro K P σ hP ht
  obtain ⟨lv, st, μ, b⟩ := σ
  rcases st with _ | ⟨y, _ | ⟨x, st⟩⟩
  · exact False.elim ht
  · exact False.elim ht
  · obtain ⟨⟨x, rfl⟩, ⟨y, rfl⟩, hsm, ht⟩ := ht
    intro p e R s m args below meth c H locs cells slots ls mc ms hC hH hS hl h1 h2 h3 h4
    have hts := hC.2.2.2.2.2.2.2.2.1
    have hsm9 : (st.map fun v => v.category).sum ≤ 8 := hsm
    exact va_mmax hC.1 hC.2.1 (hC.2.2.1.trans hl.1.symm) hC.2.2.2.1 (hts _ hw1) (hts _ hw2) (hts _ hw3) (hts _ hw4) (Nat.le_trans hr.1 hC.2.2.2.2.2.2.2.2.2.2.2.1) (Nat.le_trans (Nat.add_le_add_right hsm9 13) (Nat.le_trans hr.2 hC.2.2.2.2.2.2.2.2.2.2.2.2)) (by omega) (by omega) hd (hP _ ht p e R s m args below meth c H locs cells slots ls mc ms hC hH hS hl h1 h2 h3 h4)
def jt_mmin : jx_tr := fun σ P => match σ with
  | (lv, y :: x :: st, μ, b) => jx_i x ∧ jx_i y ∧ jx_sm st ∧ P (lv, .int (jx_mn (jx_iv x) (jx_iv y)) :: st, μ, b)
  | _ => False
theorem jt_mmin_e {y x : Value} {lv : List (Nat × Value)} {st : List Value} {μ : jx_M} {b : Nat × Nat} {P : jx_S → Prop} : jt_mmin (lv, y :: x :: st, μ, b) P = (jx_i x ∧ jx_i y ∧ jx_sm st ∧ P (lv, .int (jx_mn (jx_iv x) (jx_iv y)) :: st, μ, b)) := rfl
theorem js_mmin {g : jx_G} {me : jx_me} {pc idx : Nat} (hd : decode (jx_cc me) pc = .ok (.invokestatic idx, 3)) (hw1 : Cond.methodLink (jx_ow me) idx Lib.Math.min.name ∈ jx_ws) (hw2 : Cond.static Lib.Math.min.name ∈ jx_ws) (hw3 : Cond.initialized "java/lang/Math" ∈ jx_ws) (hw4 : Cond.code Lib.Math.min.name Lib.Math.min.code 2 (some .int) ∈ jx_ws) (hr : 1 ≤ (jx_ht me).1 ∧ 21 ≤ (jx_ht me).2) : jx_So g me pc (pc + 3) jt_mmin := by
  intro K P σ hP ht
  obtain ⟨lv, st, μ, b⟩ := σ
  rcases st with _ | ⟨y, _ | ⟨x, st⟩⟩
  · exact False.elim ht
  · exact False.elim ht
  · obtain ⟨⟨x, rfl⟩, ⟨y, rfl⟩, hsm, ht⟩ := ht
    intro p e R s m args below meth c H locs cells slots ls mc ms hC hH hS hl h1 h2 h3 h4
    have hts := hC.2.2.2.2.2.2.2.2.1
    have hsm9 : (st.map fun v => v.category).sum ≤ 8 := hsm
    exact va_mmin hC.1 hC.2.1 (hC.2.2.1.trans hl.1.symm) hC.2.2.2.1 (hts _ hw1) (hts _ hw2) (hts _ hw3) (hts _ hw4) (Nat.le_trans hr.1 hC.2.2.2.2.2.2.2.2.2.2.2.1) (Nat.le_trans (Nat.add_le_add_right hsm9 13) (Nat.le_trans hr.2 hC.2.2.2.2.2.2.2.2.2.2.2.2)) (by omega) (by omega) hd (hP _ ht p e R s m args below meth c H locs cells slots ls mc ms hC hH hS hl h1 h2 h3 h4)
def jt_gets (a : Nat) : jx_tr := fun σ P => match σ with
  | (lv, st, μ, b) => P (lv, .ref a :: st, μ, b)
theorem jt_gets_e (a : Nat) {lv : List (Nat × Value)} {st : List Value} {μ : jx_M} {b : Nat × Nat} {P : jx_S → Prop} : jt_gets a (lv, st, μ, b) P = P (lv, .ref a :: st, μ, b) := rfl
theorem js_getsL {g : jx_G} {me : jx_me} {pc idx : Nat} (hd : decode (jx_cc me) pc = .ok (.getstatic idx, 3)) (hw : Cond.fieldLink (jx_ow me) idx "StretchedRows" "LOWEST" "[I" ∈ jx_ws) : jx_So g me pc (pc + 3) (jt_gets (g.2.2.2 1000)) := by
  intro K P σ hP ht
  obtain ⟨lv, st, μ, b⟩ := σ
  intro p e R s m args below meth c H locs cells slots ls mc ms hC hH hS hl h1 h2 h3 h4
  exact va_gets hC.1 hC.2.1 hC.2.2.2.2.2.2.2.2.2.1.2.2.2.2.2.2.2.2.1 hS hC.2.2.2.1 (hC.2.2.2.2.2.2.2.2.1 _ hw) (fun _ h => h) hd (hP _ ht p e R s m args below meth c H locs cells slots ls mc ms hC hH hS hl h1 h2 h3 h4)
theorem js_getsH {g : jx_G} {me : jx_me} {pc idx : Nat} (hd : decode (jx_cc me) pc = .ok (.getstatic idx, 3)) (hw : Cond.fieldLink (jx_ow me) idx "StretchedRows" "HIGHEST" "[I" ∈ jx_ws) : jx_So g me pc (pc + 3) (jt_gets (g.2.2.2 1001)) := by
  intro K P σ hP ht
  obtain ⟨lv, st, μ, b⟩ := σ
  intro p e R s m args below meth c H locs cells slots ls mc ms hC hH hS hl h1 h2 h3 h4
  exact va_gets hC.1 hC.2.1 hC.2.2.2.2.2.2.2.2.2.1.2.2.2.2.2.2.2.2.2.1 hS hC.2.2.2.1 (hC.2.2.2.2.2.2.2.2.1 _ hw) (fun _ h => h) hd (hP _ ht p e R s m args below meth c H locs cells slots ls mc ms hC hH hS hl h1 h2 h3 h4)
theorem js_getsF {g : jx_G} {me : jx_me} {pc idx : Nat} (hd : decode (jx_cc me) pc = .ok (.getstatic idx, 3)) (hw : (jx_ow me, idx, "StretchedRows", "AT_FIRST", "[I", "StretchedRows") ∈ jx_wF) : jx_So g me pc (pc + 3) (jt_gets (g.2.2.2 1002)) := by
  intro K P σ hP ht
  obtain ⟨lv, st, μ, b⟩ := σ
  intro p e R s m args below meth c H locs cells slots ls mc ms hC hH hS hl h1 h2 h3 h4
  exact va_getsN hC.1 hC.2.1 hC.2.2.2.2.2.2.2.2.2.1.2.2.2.2.2.2.2.2.2.2.1 hS hC.2.2.2.1 (va_Nw.use (A := args) rfl (hC.2.2.2.2.2.2.2.2.2.1.2.2.2.1 _ hw)) (fun _ h => h) hd (hP _ ht p e R s m args below meth c H locs cells slots ls mc ms hC hH hS hl h1 h2 h3 h4)
/-! instanceof, checkcast -/
def jt_inst (lo hi : Nat) : jx_tr := fun σ P => match σ with
  | (lv, x :: st, μ, b) => jx_a x ∧ (x = .null → P (lv, .int 0 :: st, μ, b)) ∧ (¬ x = .null → jx_ok μ (jx_ad x) jx_N0 jx_N1 ∧ (jx_ok μ (jx_ad x) lo hi → P (lv, .int 1 :: st, μ, b)) ∧ (¬ jx_ok μ (jx_ad x) lo hi → P (lv, .int 0 :: st, μ, b)))
  | _ => False
theorem jt_inst_e (lo hi : Nat) {x : Value} {lv : List (Nat × Value)} {st : List Value} {μ : jx_M} {b : Nat × Nat} {P : jx_S → Prop} : jt_inst lo hi (lv, x :: st, μ, b) P = (jx_a x ∧ (x = .null → P (lv, .int 0 :: st, μ, b)) ∧ (¬ x = .null → jx_ok μ (jx_ad x) jx_N0 jx_N1 ∧ (jx_ok μ (jx_ad x) lo hi → P (lv, .int 1 :: st, μ, b)) ∧ (¬ jx_ok μ (jx_ad x) lo hi → P (lv, .int 0 :: st, μ, b)))) := rfl
def jx_icOk (nm : String) (lo hi : Nat) : Prop := ∀ ci, jx_N0 ≤ ci → ci ≤ jx_N1 → ∃ (C : String) (T : u_T) (N : Nat), jx_cl[ci]? = some (C, T, N) ∧ (lo ≤ ci ∧ ci ≤ hi → (C, nm) ∈ jx_wC) ∧ (¬ (lo ≤ ci ∧ ci ≤ hi) → (C, nm) ∈ jx_wN)
theorem js_inst {g : jx_G} {me : jx_me} {pc idx lo hi : Nat} {nm : String} (hd : decode (jx_cc me) pc = .ok (.instanceof idx, 3)) (hw : Cond.classLink (jx_ow me) idx nm ∈ jx_ws) (hic : jx_icOk nm lo hi) : jx_So g me pc (pc + 3) (jt_inst lo hi) := by
  intro K P σ hP ht
  obtain ⟨lv, st, μ, b⟩ := σ
  rcases st with _ | ⟨x, st⟩
  · exact False.elim ht
  · obtain ⟨ha, hn, hr⟩ := ht
    intro p e R s m args below meth c H locs cells slots ls mc ms hC hH hS hl h1 h2 h3 h4
    have hts := hC.2.2.2.2.2.2.2.2.1
    have hGa := hC.2.2.2.2.2.2.2.2.2.1
    rcases ha with rfl | ⟨a, rfl⟩
    · exact lv_instN hC.1 hC.2.1 hd (hP _ (hn rfl) p e R s m args below meth c H locs cells slots ls mc ms hC hH hS hl h1 h2 h3 h4)
    · obtain ⟨⟨ci, hk, hlo, hhi⟩, hy, hno⟩ := hr (fun q => by cases q)
      have hk : jx_kn μ a = some (.inl ci) := hk
      obtain ⟨C, T, N, hcl, q1, q2⟩ := hic ci hlo hhi
      by_cases h9 : lo ≤ ci ∧ ci ≤ hi
      · exact va_instY (C := C) hC.1 hC.2.1 hC.2.2.2.1 (hts _ hw) (hGa.2.2.2.2.1 _ (q1 h9)) (jx_recv hGa hH hk hcl) hd (hP _ (hy ⟨ci, hk, h9.1, h9.2⟩) p e R s m args below meth c H locs cells slots ls mc ms hC hH hS hl h1 h2 h3 h4)
      · refine va_instNo (C := C) hC.1 hC.2.1 hC.2.2.2.1 (hts _ hw) (hGa.2.2.2.2.2.2.1 _ (q2 h9)) (jx_recv hGa hH hk hcl) hd (hP _ (hno ?_) p e R s m args below meth c H locs cells slots ls mc ms hC hH hS hl h1 h2 h3 h4)
        rintro ⟨cj, hkj, hl1, hl2⟩
        have hkj : jx_kn μ a = some (.inl cj) := hkj
        rw [hk] at hkj
        cases hkj
        exact h9 ⟨hl1, hl2⟩
def jt_cast (lo hi : Nat) : jx_tr := fun σ P => match σ with
  | (lv, x :: st, μ, b) => jx_a x ∧ (¬ x = .null → jx_ok μ (jx_ad x) lo hi) ∧ P (lv, x :: st, μ, b)
  | _ => False
theorem jt_cast_e (lo hi : Nat) {x : Value} {lv : List (Nat × Value)} {st : List Value} {μ : jx_M} {b : Nat × Nat} {P : jx_S → Prop} : jt_cast lo hi (lv, x :: st, μ, b) P = (jx_a x ∧ (¬ x = .null → jx_ok μ (jx_ad x) lo hi) ∧ P (lv, x :: st, μ, b)) := rfl
theorem js_cast {g : jx_G} {me : jx_me} {pc idx lo hi : Nat} {nm : String} (hd : decode (jx_cc me) pc = .ok (.checkcast idx, 3)) (hw : Cond.classLink (jx_ow me) idx nm ∈ jx_ws) (hic : jx_icOk nm lo hi) (hlo : jx_N0 ≤ lo) (hhi : hi ≤ jx_N1) : jx_So g me pc (pc + 3) (jt_cast lo hi) := by
  intro K P σ hP ht
  obtain ⟨lv, st, μ, b⟩ := σ
  rcases st with _ | ⟨x, st⟩
  · exact False.elim ht
  · obtain ⟨ha, hr, ht⟩ := ht
    intro p e R s m args below meth c H locs cells slots ls mc ms hC hH hS hl h1 h2 h3 h4
    have hts := hC.2.2.2.2.2.2.2.2.1
    have hGa := hC.2.2.2.2.2.2.2.2.2.1
    rcases ha with rfl | ⟨a, rfl⟩
    · exact lv_castN hC.1 hC.2.1 hd (hP _ ht p e R s m args below meth c H locs cells slots ls mc ms hC hH hS hl h1 h2 h3 h4)
    · obtain ⟨ci, hk, h5, h6⟩ := hr (fun q => by cases q)
      have hk : jx_kn μ a = some (.inl ci) := hk
      obtain ⟨C, T, N, hcl, q1, q2⟩ := hic ci (Nat.le_trans hlo h5) (Nat.le_trans h6 hhi)
      exact va_castY (C := C) hC.1 hC.2.1 hC.2.2.2.1 (hts _ hw) (hGa.2.2.2.2.1 _ (q1 ⟨h5, h6⟩)) (jx_recv hGa hH hk hcl) hd (hP _ ht p e R s m args below meth c H locs cells slots ls mc ms hC hH hS hl h1 h2 h3 h4)
theorem jx_ic_C : jx_icOk "StretchedRows$Container" 5 7 := by
  intro ci h1 h2
  rcases (show ci = 3 ∨ ci = 4 ∨ ci = 5 ∨ ci = 6 ∨ ci = 7 by unfold jx_N0 at h1; unfold jx_N1 at h2; omega) with rfl | rfl | rfl | rfl | rfl <;> exact ⟨_, _, _, rfl, by decide +kernel, by decide +kernel⟩
theorem jx_ic_T : jx_icOk "StretchedRows$Text" 4 4 := by
  intro ci h1 h2
  rcases (show ci = 3 ∨ ci = 4 ∨ ci = 5 ∨ ci = 6 ∨ ci = 7 by unfold jx_N0 at h1; unfold jx_N1 at h2; omega) with rfl | rfl | rfl | rfl | rfl <;> exact ⟨_, _, _, rfl, by decide +kernel, by decide +kernel⟩
theorem jx_ic_G : jx_icOk "StretchedRows$Grid" 7 7 := by
  intro ci h1 h2
  rcases (show ci = 3 ∨ ci = 4 ∨ ci = 5 ∨ ci = 6 ∨ ci = 7 by unfold jx_N0 at h1; unfold jx_N1 at h2; omega) with rfl | rfl | rfl | rfl | rfl <;> exact ⟨_, _, _, rfl, by decide +kernel, by decide +kernel⟩
/-! ends, for the printed stretches -/
def jx_ri (K : jx_Kt) : jx_S → Prop := fun σ => match σ with
  | (_, [x], μ, _) => jx_i x ∧ K (.inl (some (.int (jx_iv x)))) μ
  | _ => False
theorem jx_ri_e {K : jx_Kt} {x : Value} {lv : List (Nat × Value)} {μ : jx_M} {b : Nat × Nat} : jx_ri K (lv, [x], μ, b) = (jx_i x ∧ K (.inl (some (.int (jx_iv x)))) μ) := rfl
theorem jb_ri {g : jx_G} {me : jx_me} {pc : Nat} {K : jx_Kt} (hd : decode (jx_cc me) pc = .ok (.ireturn, 1)) (hr : jx_re me = some .int) (σ : jx_S) (h : jx_ri K σ) : jx_J g me pc σ K := by
  obtain ⟨lv, st, μ, b⟩ := σ
  rcases st with _ | ⟨x, _ | ⟨y, st⟩⟩
  · exact False.elim h
  · obtain ⟨⟨x, rfl⟩, h⟩ := h
    exact jb_iret hd hr h
  · exact False.elim h
def jx_rz (K : jx_Kt) : jx_S → Prop := fun σ => match σ with
  | (_, [x], μ, _) => (x = .int 0 ∨ x = .int 1) ∧ K (.inl (some (.int (jx_iv x)))) μ
  | _ => False
theorem jx_rz_e {K : jx_Kt} {x : Value} {lv : List (Nat × Value)} {μ : jx_M} {b : Nat × Nat} : jx_rz K (lv, [x], μ, b) = ((x = .int 0 ∨ x = .int 1) ∧ K (.inl (some (.int (jx_iv x)))) μ) := rfl
theorem jb_rz {g : jx_G} {me : jx_me} {pc : Nat} {K : jx_Kt} (hd : decode (jx_cc me) pc = .ok (.ireturn, 1)) (hr : jx_re me = some .boolean) (σ : jx_S) (h : jx_rz K σ) : jx_J g me pc σ K := by
  obtain ⟨lv, st, μ, b⟩ := σ
  rcases st with _ | ⟨x, _ | ⟨y, st⟩⟩
  · exact False.elim h
  · obtain ⟨hx, h⟩ := h
    rcases hx with rfl | rfl
    · exact jb_zret hd hr (Or.inl rfl) h
    · exact jb_zret hd hr (Or.inr rfl) h
  · exact False.elim h
def jx_ra (K : jx_Kt) : jx_S → Prop := fun σ => match σ with
  | (_, [x], μ, _) => jx_a x ∧ K (.inl (some x)) μ
  | _ => False
theorem jx_ra_e {K : jx_Kt} {x : Value} {lv : List (Nat × Value)} {μ : jx_M} {b : Nat × Nat} : jx_ra K (lv, [x], μ, b) = (jx_a x ∧ K (.inl (some x)) μ) := rfl
theorem jb_ra {g : jx_G} {me : jx_me} {pc : Nat} {K : jx_Kt} {C : String} (hd : decode (jx_cc me) pc = .ok (.areturn, 1)) (hr : jx_re me = some (.object C)) (σ : jx_S) (h : jx_ra K σ) : jx_J g me pc σ K := by
  obtain ⟨lv, st, μ, b⟩ := σ
  rcases st with _ | ⟨x, _ | ⟨y, st⟩⟩
  · exact False.elim h
  · exact jb_aret hd hr h.1 h.2
  · exact False.elim h
def jx_rl (K : jx_Kt) : jx_S → Prop := fun σ => match σ with
  | (_, [x], μ, _) => jx_l x ∧ K (.inl (some (.long (jx_lv x)))) μ
  | _ => False
theorem jx_rl_e {K : jx_Kt} {x : Value} {lv : List (Nat × Value)} {μ : jx_M} {b : Nat × Nat} : jx_rl K (lv, [x], μ, b) = (jx_l x ∧ K (.inl (some (.long (jx_lv x)))) μ) := rfl
theorem jb_rl {g : jx_G} {me : jx_me} {pc : Nat} {K : jx_Kt} (hd : decode (jx_cc me) pc = .ok (.lreturn, 1)) (hr : jx_re me = some .long) (σ : jx_S) (h : jx_rl K σ) : jx_J g me pc σ K := by
  obtain ⟨lv, st, μ, b⟩ := σ
  rcases st with _ | ⟨x, _ | ⟨y, st⟩⟩
  · exact False.elim h
  · obtain ⟨⟨x, rfl⟩, h⟩ := h
    exact jb_lret hd hr h
  · exact False.elim h
def jx_rv0 (K : jx_Kt) : jx_S → Prop := fun σ => match σ with
  | (_, [], μ, _) => K (.inl none) μ
  | _ => False
theorem jx_rv0_e {K : jx_Kt} {lv : List (Nat × Value)} {μ : jx_M} {b : Nat × Nat} : jx_rv0 K (lv, [], μ, b) = K (.inl none) μ := rfl
theorem jb_rv {g : jx_G} {me : jx_me} {pc : Nat} {K : jx_Kt} (hd : decode (jx_cc me) pc = .ok (.return_, 1)) (hr : jx_re me = none) (σ : jx_S) (h : jx_rv0 K σ) : jx_J g me pc σ K := by
  obtain ⟨lv, st, μ, b⟩ := σ
  rcases st with _ | ⟨x, st⟩
  · exact jb_vret hd hr h
  · exact False.elim h
end
section
theorem jx_sq_t {t u : jx_tr} {lv : List (Nat × Value)} {st : List Value} {μ : jx_M} {b : Nat × Nat} {P : jx_S → Prop} : jx_sq t u (lv, st, μ, b) P = t (lv, st, μ, b) (fun σ' => u σ' P) := rfl
/-! switches -/
def jx_swl (J : Nat → jx_S → Prop) (df : Nat) (σ : jx_S) (x : Int) : List (Int × Nat) → Prop
  | [] => J df σ
  | q :: r => (x = q.1 → J q.2 σ) ∧ (¬ x = q.1 → jx_swl J df σ x r)
theorem jx_swl_e {J : Nat → jx_S → Prop} {df t : Nat} {σ : jx_S} {x a : Int} {r : List (Int × Nat)} : jx_swl J df σ x ((a, t) :: r) = ((x = a → J t σ) ∧ (¬ x = a → jx_swl J df σ x r)) := rfl
theorem jx_swl_0 {J : Nat → jx_S → Prop} {df : Nat} {σ : jx_S} {x : Int} : jx_swl J df σ x [] = J df σ := rfl
def jx_sw (J : Nat → jx_S → Prop) (cs : List (Int × Nat)) (df : Nat) : jx_S → Prop := fun σ => match σ with
  | (lv, x :: st, μ, b) => jx_i x ∧ jx_swl J df (lv, st, μ, b) (jx_iv x).toInt cs
  | _ => False
theorem jx_sw_e {J : Nat → jx_S → Prop} {cs : List (Int × Nat)} {df : Nat} {x : Value} {lv : List (Nat × Value)} {st : List Value} {μ : jx_M} {b : Nat × Nat} : jx_sw J cs df (lv, x :: st, μ, b) = (jx_i x ∧ jx_swl J df (lv, st, μ, b) (jx_iv x).toInt cs) := rfl
theorem jx_swl_hit {J : Nat → jx_S → Prop} {df : Nat} {σ : jx_S} {x : Int} : ∀ (cs : List (Int × Nat)) (j t : Nat), (∀ (i : Nat) (q : Int × Nat), i < j → cs[i]? = some q → x ≠ q.1) → cs[j]? = some (x, t) → jx_swl J df σ x cs → J t σ
  | [], j, t, _, h, _ => by simp at h
  | q :: r, 0, t, _, h, hs => by
    have e : q = (x, t) := by simpa using h
    subst e
    exact hs.1 rfl
  | q :: r, j + 1, t, hne, h, hs => jx_swl_hit r j t (fun i q' hi hq => hne (i + 1) q' (by omega) (by simpa using hq)) (by simpa using h) (hs.2 (hne 0 q (by omega) rfl))
theorem jx_swl_out {J : Nat → jx_S → Prop} {df : Nat} {σ : jx_S} {x : Int} : ∀ (cs : List (Int × Nat)), (∀ q ∈ cs, x ≠ q.1) → jx_swl J df σ x cs → J df σ
  | [], _, h => h
  | q :: r, hne, h => jx_swl_out r (fun q' hq => hne q' (List.mem_cons_of_mem _ hq)) (h.2 (hne q List.mem_cons_self))
def jx_tck (pc : Nat) (lo : Int) (offs : Array Int) (cs : List (Int × Nat)) : Bool := (List.range offs.size).all (fun j => match offs[j]?, cs[j]? with
  | some o, some q => decide (q.1 = lo + (j : Int)) && decide ((pc : Int) + o = (q.2 : Int))
  | _, _ => false)
theorem jb_tsw {g : jx_G} {me : jx_me} {pc df len : Nat} {dflt lo hi : Int} {offs : Array Int} {cs : List (Int × Nat)} {K : jx_Kt} (hd : decode (jx_cc me) pc = .ok (.tableswitch dflt lo hi offs, len)) (hc : jx_tck pc lo offs cs = true) (hl : cs.length = offs.size ∧ hi - lo + 1 = (offs.size : Int)) (hdf : (pc : Int) + dflt = (df : Int)) (σ : jx_S) (h : jx_sw (fun t σ => jx_J g me t σ K) cs df σ) : jx_J g me pc σ K := by
  obtain ⟨lv, st, μ, b⟩ := σ
  rcases st with _ | ⟨x, st⟩
  · exact False.elim h
  · obtain ⟨⟨x, rfl⟩, h⟩ := h
    have h : jx_swl (fun t σ => jx_J g me t σ K) df (lv, st, μ, b) x.toInt cs := h
    have at9 : ∀ (j : Nat) (o : Int), offs[j]? = some o → ∃ t : Nat, cs[j]? = some (lo + (j : Int), t) ∧ (pc : Int) + o = (t : Int) := by
      intro j o ho
      have hj : j < offs.size := (Array.getElem?_eq_some_iff.mp ho).1
      have h9 := List.all_eq_true.mp hc j (List.mem_range.mpr hj)
      rw [ho] at h9
      cases e : cs[j]? with
      | none => rw [e] at h9; cases h9
      | some q =>
        rw [e] at h9
        simp only [Bool.and_eq_true, decide_eq_true_eq] at h9
        exact ⟨q.2, by rw [← h9.1], h9.2⟩
    have fst9 : ∀ (i : Nat) (q : Int × Nat), cs[i]? = some q → q.1 = lo + (i : Int) := by
      intro i q hq
      have hi9 : i < offs.size := by rw [← hl.1]; exact (List.getElem?_eq_some_iff.mp hq).1
      obtain ⟨t, ht, -⟩ := at9 i offs[i] (Array.getElem?_eq_getElem hi9)
      rw [hq] at ht
      cases ht
      rfl
    intro p e R s m args below meth c H locs cells slots ls mc ms hC hH hS hl9 h1 h2 h3 h4
    by_cases hin : x.toInt < lo ∨ hi < x.toInt
    · refine lv_tableOut hC.1 hC.2.1 hd hin hdf (jx_swl_out cs ?_ h p e R s m args below meth c H locs cells slots ls mc ms hC hH hS hl9 h1 h2 h3 h4)
      intro q hq
      obtain ⟨i, hi9⟩ := List.getElem?_of_mem hq
      have e1 := fst9 i q hi9
      have e2 : i < offs.size := by rw [← hl.1]; exact (List.getElem?_eq_some_iff.mp hi9).1
      omega
    · have hj : (x.toInt - lo).toNat < offs.size := by omega
      obtain ⟨t, ht, hpc⟩ := at9 _ offs[(x.toInt - lo).toNat] (Array.getElem?_eq_getElem hj)
      refine lv_tableIn hC.1 hC.2.1 hd (by omega) (by omega) (Array.getElem?_eq_getElem hj) hpc (jx_swl_hit cs (x.toInt - lo).toNat t ?_ ?_ h p e R s m args below meth c H locs cells slots ls mc ms hC hH hS hl9 h1 h2 h3 h4)
      · intro i q hi9 hq
        have e1 := fst9 i q hq
        omega
      · rw [ht]
        congr 2
        omega
theorem jx_lko {a o d x : Int} {r : List (Int × Int)} : Op.lookupswitch.offset ((a, o) :: r) d x = if x = a then o else Op.lookupswitch.offset r d x := by
  rw [Op.lookupswitch.offset_cons]
  by_cases h : x = a
  · subst h; simp
  · rw [if_neg h, if_neg (fun q => h q.symm)]
theorem jx_lk0 {d x : Int} : Op.lookupswitch.offset [] d x = d := by
  first | rfl | simp [Op.lookupswitch.offset]
/-- a lookupswitch of two pairs -/
theorem jb_lsw2 {g : jx_G} {me : jx_me} {pc df t1 t2 len : Nat} {dflt a1 o1 a2 o2 : Int} {K : jx_Kt} (hd : decode (jx_cc me) pc = .ok (.lookupswitch dflt #[(a1, o1), (a2, o2)], len)) (hlt : decide (a1 < a2) = true) (e1 : (pc : Int) + o1 = (t1 : Int)) (e2 : (pc : Int) + o2 = (t2 : Int)) (hdf : (pc : Int) + dflt = (df : Int)) (σ : jx_S) (h : jx_sw (fun t σ => jx_J g me t σ K) [(a1, t1), (a2, t2)] df σ) : jx_J g me pc σ K := by
  obtain ⟨lv, st, μ, b⟩ := σ
  rcases st with _ | ⟨x, st⟩
  · exact False.elim h
  · obtain ⟨⟨x, rfl⟩, h⟩ := h
    have h : jx_swl (fun t σ => jx_J g me t σ K) df (lv, st, μ, b) x.toInt [(a1, t1), (a2, t2)] := h
    obtain ⟨q1, q2⟩ := h
    intro p e R s m args below meth c H locs cells slots ls mc ms hC hH hS hl9 h1 h2 h3 h4
    have hp : ((#[(a1, o1), (a2, o2)] : Array (Int × Int)).toList.zip ((#[(a1, o1), (a2, o2)] : Array (Int × Int)).toList.drop 1)).all (fun (a, next) => a.1 < next.1) = true := by
      simpa using hlt
    by_cases c1 : x.toInt = a1
    · exact lv_lookup hC.1 hC.2.1 hd hp (by show Op.lookupswitch.offset [(a1, o1), (a2, o2)] dflt x.toInt = o1; rw [jx_lko, if_pos c1]) e1 (q1 c1 p e R s m args below meth c H locs cells slots ls mc ms hC hH hS hl9 h1 h2 h3 h4)
    · obtain ⟨q3, q4⟩ := q2 c1
      by_cases c2 : x.toInt = a2
      · exact lv_lookup hC.1 hC.2.1 hd hp (by show Op.lookupswitch.offset [(a1, o1), (a2, o2)] dflt x.toInt = o2; rw [jx_lko, if_neg c1, jx_lko, if_pos c2]) e2 (q3 c2 p e R s m args below meth c H locs cells slots ls mc ms hC hH hS hl9 h1 h2 h3 h4)
      · exact lv_lookup hC.1 hC.2.1 hd hp (by show Op.lookupswitch.offset [(a1, o1), (a2, o2)] dflt x.toInt = dflt; rw [jx_lko, if_neg c1, jx_lko, if_neg c2, jx_lk0]) hdf (q4 c2 p e R s m args below meth c H locs cells slots ls mc ms hC hH hS hl9 h1 h2 h3 h4)
end
section
/-! throws -/
def jx_nmx : List String := ["java/lang/RuntimeException", "java/lang/Exception"]
def jx_ex : List Cond := jx_wC.map (fun q => Cond.castable q.1 q.2) ++ jx_wD.map Cond.declares
theorem jx_exu {g : jx_G} {s : State} {args : Array Value} (hGa : jx_Ga g s s.heap) : ∀ w ∈ jx_ex, w.before args s = true := by
  intro w hw
  rcases List.mem_append.mp hw with h | h
  · obtain ⟨q, hq, rfl⟩ := List.mem_map.mp h
    exact va_Nw.use rfl (hGa.2.2.2.2.1 q hq)
  · obtain ⟨q, hq, rfl⟩ := List.mem_map.mp h
    exact va_Nw.use rfl (hGa.2.2.2.2.2.1 q hq)
theorem jx_hat {g : jx_G} {s : State} {args : Array Value} {L : List Cond} (hts : ∀ w ∈ jx_ws, w.before args s = true) (hGa : jx_Ga g s s.heap) (h : L.all (fun w => (decide (w ∈ tables_1) && goodWord w) || decide (w ∈ jx_ex)) = true) : ∀ w ∈ L, w.before args s = true := by
  intro w hw
  have h9 := List.all_eq_true.mp h w hw
  simp only [Bool.or_eq_true, Bool.and_eq_true, decide_eq_true_eq] at h9
  rcases h9 with ⟨h1, h2⟩ | h1
  · exact hts w (List.mem_filter.mpr ⟨List.mem_append_right _ h1, h2⟩)
  · exact jx_exu hGa w h1
def jx_th (E : String) (K : jx_Kt) : jx_S → Prop := fun σ => match σ with
  | (_, st, μ, b) => 1 ≤ b.1 ∧ 6 ≤ b.2 ∧ jx_sm st ∧ ∀ n, jx_sz μ ≤ n → K (.inr E) (n, μ.2)
theorem jx_th_e {E : String} {K : jx_Kt} {lv : List (Nat × Value)} {st : List Value} {μ : jx_M} {b : Nat × Nat} : jx_th E K (lv, st, μ, b) = (1 ≤ b.1 ∧ 6 ≤ b.2 ∧ jx_sm st ∧ ∀ n, jx_sz μ ≤ n → K (.inr E) (n, μ.2)) := rfl
theorem jx_thx {g : jx_G} {s t : State} {H : Heap} {locs : List Loc} {μ : jx_M} {K : jx_Kt} {E : String} (hH : jx_H g s H μ) (hS : va_S (fun q => g.2.2.1 ≤ q) s.heap H locs) (hK : ∀ n, jx_sz μ ≤ n → K (.inr E) (n, μ.2)) (hvm : s.vm.Alike t.vm) (hz : H.size ≤ t.heap.size) (hq : ∀ q : Nat, q < H.size → t.heap[q]? = H[q]?) : jx_Xc g K E s t := by
  refine ⟨(t.heap.size, μ.2), hK _ (by rw [← hH.2.1]; exact hz), ⟨Nat.le_trans hH.1 hz, rfl, fun a k hk => ?_⟩, Nat.le_trans hS.1 hz, fun q h1 h2 => ?_⟩
  · have h9 := hH.2.2 a k hk
    exact jx_at_kept (jx_at_moved hvm h9) (hq a (jx_at_lt h9)) (fun _ => rfl) (fun _ => rfl) (fun _ => rfl)
  · exact (hq q (Nat.lt_of_lt_of_le h1 hS.1)).trans (hS.2.1 q h1 h2)

theorem jx_atA : (vx_atS "StretchedRows" 30 "java/lang/IllegalArgumentException" jx_nmx).all (fun w => (decide (w ∈ tables_1) && goodWord w) || decide (w ∈ jx_ex)) = true := by decide +kernel
theorem jx_otA : (Cond.classLink "StretchedRows" 26 "java/lang/IllegalArgumentException" :: Cond.initialized "java/lang/IllegalArgumentException" :: vx_atS "StretchedRows" 30 "java/lang/IllegalArgumentException" jx_nmx).all vx_ot = true := by decide +kernel
theorem jx_tkA : Cond.classLink "StretchedRows" 26 "java/lang/IllegalArgumentException" ∈ jx_ws := jx_in 78 (by decide +kernel) (by decide +kernel)
theorem jx_tiA : Cond.initialized "java/lang/IllegalArgumentException" ∈ jx_ws := jx_in 6 (by decide +kernel) (by decide +kernel)
theorem jb_th_A {g : jx_G} {me : jx_me} {pc is : Nat} {text : String} {K : jx_Kt} (how : jx_ow me = "StretchedRows") (d0 : decode (jx_cc me) pc = .ok (.new 26, 3)) (d3 : decode (jx_cc me) (pc + 3) = .ok (.dup, 1)) (d4 : decode (jx_cc me) (pc + 4) = .ok (.ldc is, 2)) (d6 : decode (jx_cc me) (pc + 6) = .ok (.invokespecial 30, 3)) (d9 : decode (jx_cc me) (pc + 9) = .ok (.athrow, 1)) (hst : (is, text) ∈ jx_wS) (htb : jx_tb me = []) (hr : 6 ≤ (jx_ht me).1 ∧ 90 ≤ (jx_ht me).2) (σ : jx_S) (h : jx_th "java/lang/IllegalArgumentException" K σ) : jx_J g me pc σ K := by
  obtain ⟨lv, st, μ, b⟩ := σ
  obtain ⟨hb1, hb2, hsm, hK⟩ := h
  intro p e R s m args below meth c H locs cells slots ls mc ms hC hH hS hl h1 h2 h3 h4
  obtain ⟨hx, hb, hml, hown, -, hlk, -, htab, hts, hGa, -, hR1, hR2⟩ := hC
  rw [how] at hown
  dsimp only at h1 h2
  have hsm9 : (st.map fun v => v.category).sum ≤ 8 := hsm
  refine vx_throwS (A := fun q => g.2.2.1 ≤ q) (own := "StretchedRows") (cls := "java/lang/IllegalArgumentException") (text := text) (names := jx_nmx) (sa := g.2.2.2 is) hx hb hGa.2.2.2.2.2.2.2.2.2.2.2.2.2 hown (by decide) (by decide) (hts _ jx_tkA) (hts _ jx_tiA) (hGa.2.2.2.2.2.2.2.1 _ hst) (jx_hat hts hGa jx_atA) (List.all_eq_true.mp jx_otA) hGa.2.2.2.2.2.2.2.2.2.2.2.1 hGa.2.2.2.2.2.2.2.2.2.2.2.2.1 hS (hl.1.trans hml.symm) d0 d3 d4 d6 d9 ?_ ?_ ?_ (by omega) (by omega) hlk (fun t hvm hz hq => jx_thx hH hS hK hvm hz hq) hS.2.2 (by omega) (by omega)
  · intro x hx9
    rw [htab, htb] at hx9
    cases hx9
  · show 2 + 3 < R.frames
    omega
  · show (st.map fun v => v.category).sum + (13 * (2 + 1) + 43) ≤ R.locals
    omega

theorem jx_atS : (vx_atS "StretchedRows" 48 "java/lang/IllegalStateException" jx_nmx).all (fun w => (decide (w ∈ tables_1) && goodWord w) || decide (w ∈ jx_ex)) = true := by decide +kernel
theorem jx_otS : (Cond.classLink "StretchedRows" 44 "java/lang/IllegalStateException" :: Cond.initialized "java/lang/IllegalStateException" :: vx_atS "StretchedRows" 48 "java/lang/IllegalStateException" jx_nmx).all vx_ot = true := by decide +kernel
theorem jx_tkS : Cond.classLink "StretchedRows" 44 "java/lang/IllegalStateException" ∈ jx_ws := jx_in 155 (by decide +kernel) (by decide +kernel)
theorem jx_tiS : Cond.initialized "java/lang/IllegalStateException" ∈ jx_ws := jx_in 7 (by decide +kernel) (by decide +kernel)
theorem jb_th_S {g : jx_G} {me : jx_me} {pc is : Nat} {text : String} {K : jx_Kt} (how : jx_ow me = "StretchedRows") (d0 : decode (jx_cc me) pc = .ok (.new 44, 3)) (d3 : decode (jx_cc me) (pc + 3) = .ok (.dup, 1)) (d4 : decode (jx_cc me) (pc + 4) = .ok (.ldc is, 2)) (d6 : decode (jx_cc me) (pc + 6) = .ok (.invokespecial 48, 3)) (d9 : decode (jx_cc me) (pc + 9) = .ok (.athrow, 1)) (hst : (is, text) ∈ jx_wS) (htb : jx_tb me = []) (hr : 6 ≤ (jx_ht me).1 ∧ 90 ≤ (jx_ht me).2) (σ : jx_S) (h : jx_th "java/lang/IllegalStateException" K σ) : jx_J g me pc σ K := by
  obtain ⟨lv, st, μ, b⟩ := σ
  obtain ⟨hb1, hb2, hsm, hK⟩ := h
  intro p e R s m args below meth c H locs cells slots ls mc ms hC hH hS hl h1 h2 h3 h4
  obtain ⟨hx, hb, hml, hown, -, hlk, -, htab, hts, hGa, -, hR1, hR2⟩ := hC
  rw [how] at hown
  dsimp only at h1 h2
  have hsm9 : (st.map fun v => v.category).sum ≤ 8 := hsm
  refine vx_throwS (A := fun q => g.2.2.1 ≤ q) (own := "StretchedRows") (cls := "java/lang/IllegalStateException") (text := text) (names := jx_nmx) (sa := g.2.2.2 is) hx hb hGa.2.2.2.2.2.2.2.2.2.2.2.2.2 hown (by decide) (by decide) (hts _ jx_tkS) (hts _ jx_tiS) (hGa.2.2.2.2.2.2.2.1 _ hst) (jx_hat hts hGa jx_atS) (List.all_eq_true.mp jx_otS) hGa.2.2.2.2.2.2.2.2.2.2.2.1 hGa.2.2.2.2.2.2.2.2.2.2.2.2.1 hS (hl.1.trans hml.symm) d0 d3 d4 d6 d9 ?_ ?_ ?_ (by omega) (by omega) hlk (fun t hvm hz hq => jx_thx hH hS hK hvm hz hq) hS.2.2 (by omega) (by omega)
  · intro x hx9
    rw [htab, htb] at hx9
    cases hx9
  · show 2 + 3 < R.frames
    omega
  · show (st.map fun v => v.category).sum + (13 * (2 + 1) + 43) ≤ R.locals
    omega
end
section
def wz1.mLaw : Method := Lib.HandJ.method x.name x.desc [.array .int] ret 0x9 maxLocals code
/-- the class entry of a reference to an inherited member names the subclass: resolved to that class, not to the declarer's -/
def wz1.suRes (es : List (Nat × Resolved)) (c : Class) : Class := { c with resolved := es.foldl (fun r e => r.setIfInBounds e.1 (some e.2)) c.resolved }
def wz1.cObjectC : Class := { Lib.HandBits.cObject with methods := Lib.HandBits.cObject.methods ++ #[{ name := "clone", desc := "()Ljava/lang/Object;", sig := { parameters := [], returnType := some (.object "java/lang/Object") }, accessFlags := 0x104, code := none }] }
def wz1.c0 : Class := { su_own "StretchedRowsLaw" 0x31
    [(1, 7, "StretchedRows", "node", "(II)I", 2, 1),
     (2, 8, "StretchedRows", "", "", 2, 0),
     (2, 13, "java/lang/IllegalArgumentException", "", "", 18, 0),
     (2, 15, "java/lang/IllegalStateException", "", "", 19, 0),
     (1, 17, "StretchedRows", "remove", "(I)I", 2, 2),
     (1, 21, "StretchedRows", "set", "(III)V", 2, 3),
     (1, 25, "StretchedRows", "word", "(II)I", 2, 4),
     (1, 28, "StretchedRows", "track", "(IZI)I", 2, 5),
     (1, 32, "StretchedRows", "layout", "(I)I", 2, 6),
     (1, 35, "StretchedRows", "where", "(II)I", 2, 7),
     (1, 38, "StretchedRows", "lines", "(I)I", 2, 8),
     (1, 41, "StretchedRows", "natural", "(I)I", 2, 10),
     (1, 44, "StretchedRows", "<init>", "()V", 2, 0),
     (2, 45, "StretchedRowsModel", "", "", 3, 0),
     (1, 47, "StretchedRowsModel", "<init>", "()V", 3, 0),
     (1, 48, "StretchedRowsLaw", "node", "(LStretchedRows;II[J)I", 0, 1),
     (1, 53, "StretchedRowsModel", "node", "(II)I", 3, 9),
     (1, 54, "StretchedRowsModel", "thrown", "()I", 3, 1),
     (1, 58, "StretchedRowsLaw", "remove", "(LStretchedRows;I[J)I", 0, 2),
     (1, 61, "StretchedRowsModel", "remove", "(I)I", 3, 10),
     (1, 62, "StretchedRowsLaw", "set", "(LStretchedRows;III)I", 0, 3),
     (1, 65, "StretchedRowsModel", "set", "(III)V", 3, 11),
     (1, 66, "StretchedRowsLaw", "word", "(LStretchedRows;II[J)I", 0, 4),
     (1, 68, "StretchedRowsModel", "word", "(II)I", 3, 12),
     (1, 69, "StretchedRowsLaw", "track", "(LStretchedRows;IZI[J)I", 0, 5),
     (1, 72, "StretchedRowsModel", "track", "(IZI)I", 3, 13),
     (1, 73, "StretchedRowsLaw", "layout", "(LStretchedRows;I[J)I", 0, 6),
     (1, 75, "StretchedRowsModel", "layout", "(I)I", 3, 47),
     (1, 76, "StretchedRowsLaw", "where", "(LStretchedRows;II[J)I", 0, 7),
     (1, 78, "StretchedRowsModel", "where", "(II)I", 3, 49),
     (1, 79, "StretchedRowsLaw", "lines", "(LStretchedRows;I[J)I", 0, 8),
     (1, 81, "StretchedRowsModel", "lines", "(I)I", 3, 50),
     (1, 82, "StretchedRows", "at", "(II)I", 2, 9),
     (1, 85, "StretchedRowsModel", "at", "(II)I", 3, 52),
     (1, 86, "StretchedRowsLaw", "natural", "(LStretchedRows;I[J)I", 0, 9),
     (1, 88, "StretchedRowsModel", "natural", "(I)I", 3, 26),
     (1, 89, "StretchedRows", "nodes", "()I", 2, 11),
     (1, 92, "StretchedRowsModel", "nodes", "()I", 3, 53)]
    [] mLaw with
  methods := #[mLaw,
    (let q := Lib.HandJ.method "node" "(LStretchedRows;II[J)I" [.object "StretchedRows", .int, .int, .array .long] (some .int) 0xa 5 method_3_code; { q with code := q.code.map fun c => { c with exceptionTable := #[{ startPc := 0, endPc := 10, handlerPc := 13, catchType := 13 }, { startPc := 0, endPc := 10, handlerPc := 17, catchType := 15 }] } }),
    (let q := Lib.HandJ.method "remove" "(LStretchedRows;I[J)I" [.object "StretchedRows", .int, .array .long] (some .int) 0xa 4 method_4_code; { q with code := q.code.map fun c => { c with exceptionTable := #[{ startPc := 0, endPc := 9, handlerPc := 12, catchType := 13 }] } }),
    (let q := Lib.HandJ.method "set" "(LStretchedRows;III)I" [.object "StretchedRows", .int, .int, .int] (some .int) 0xa 5 method_5_code; { q with code := q.code.map fun c => { c with exceptionTable := #[{ startPc := 0, endPc := 7, handlerPc := 10, catchType := 13 }] } }),
    (let q := Lib.HandJ.method "word" "(LStretchedRows;II[J)I" [.object "StretchedRows", .int, .int, .array .long] (some .int) 0xa 5 method_6_code; { q with code := q.code.map fun c => { c with exceptionTable := #[{ startPc := 0, endPc := 10, handlerPc := 13, catchType := 13 }, { startPc := 0, endPc := 10, handlerPc := 17, catchType := 15 }] } }),
    (let q := Lib.HandJ.method "track" "(LStretchedRows;IZI[J)I" [.object "StretchedRows", .int, .boolean, .int, .array .long] (some .int) 0xa 6 method_7_code; { q with code := q.code.map fun c => { c with exceptionTable := #[{ startPc := 0, endPc := 12, handlerPc := 15, catchType := 13 }, { startPc := 0, endPc := 12, handlerPc := 19, catchType := 15 }] } }),
    (let q := Lib.HandJ.method "layout" "(LStretchedRows;I[J)I" [.object "StretchedRows", .int, .array .long] (some .int) 0xa 4 method_8_code; { q with code := q.code.map fun c => { c with exceptionTable := #[{ startPc := 0, endPc := 9, handlerPc := 12, catchType := 13 }, { startPc := 0, endPc := 9, handlerPc := 15, catchType := 15 }] } }),
    (let q := Lib.HandJ.method "where" "(LStretchedRows;II[J)I" [.object "StretchedRows", .int, .int, .array .long] (some .int) 0xa 5 method_9_code; { q with code := q.code.map fun c => { c with exceptionTable := #[{ startPc := 0, endPc := 10, handlerPc := 13, catchType := 13 }] } }),
    (let q := Lib.HandJ.method "lines" "(LStretchedRows;I[J)I" [.object "StretchedRows", .int, .array .long] (some .int) 0xa 4 method_10_code; { q with code := q.code.map fun c => { c with exceptionTable := #[{ startPc := 0, endPc := 9, handlerPc := 12, catchType := 13 }] } }),
    (let q := Lib.HandJ.method "natural" "(LStretchedRows;I[J)I" [.object "StretchedRows", .int, .array .long] (some .int) 0xa 4 method_11_code; { q with code := q.code.map fun c => { c with exceptionTable := #[{ startPc := 0, endPc := 9, handlerPc := 12, catchType := 13 }] } })] }
def wz1.c2 : Class := suRes [(282, .cls 12), (359, .cls 12)] <| { su_own "StretchedRows" 0x31
    [(1, 1, "java/lang/Object", "<init>", "()V", 1, 0),
     (2, 9, "StretchedRows$Node", "", "", 5, 0),
     (0, 11, "StretchedRows", "there", "[LStretchedRows$Node;", 2, 0),
     (0, 15, "StretchedRows", "thereCount", "I", 2, 1),
     (0, 19, "StretchedRows", "madeCount", "I", 2, 2),
     (1, 22, "StretchedRows", "isOutside", "(III)Z", 2, 12),
     (2, 26, "java/lang/IllegalArgumentException", "", "", 18, 0),
     (3, 28, "", "no such kind", "", 6, 0),
     (1, 30, "java/lang/IllegalArgumentException", "<init>", "(Ljava/lang/String;)V", 18, 0),
     (1, 33, "StretchedRows", "findContainer", "(I)LStretchedRows$Container;", 2, 14),
     (3, 37, "", "no such parent", "", 8, 0),
     (0, 39, "StretchedRows$Container", "depth", "I", 5, 2),
     (2, 40, "StretchedRows$Container", "", "", 12, 0),
     (2, 44, "java/lang/IllegalStateException", "", "", 19, 0),
     (3, 46, "", "no room for a node", "", 10, 0),
     (1, 48, "java/lang/IllegalStateException", "<init>", "(Ljava/lang/String;)V", 19, 0),
     (1, 49, "StretchedRows", "newNode", "(IILStretchedRows$Container;I)LStretchedRows$Node;", 2, 16),
     (0, 53, "StretchedRows$Node", "number", "I", 5, 0),
     (1, 56, "StretchedRows", "findNode", "(I)LStretchedRows$Node;", 2, 13),
     (3, 60, "", "no such node", "", 12, 0),
     (1, 62, "StretchedRows$Node", "takeAway", "()V", 5, 7),
     (0, 65, "StretchedRows$Node", "parent", "LStretchedRows$Container;", 5, 1),
     (0, 69, "StretchedRows$Container", "takenAway", "Z", 5, 4),
     (0, 73, "StretchedRows$Node", "takenAway", "Z", 5, 4),
     (3, 74, "", "no such number", "", 14, 0),
     (0, 76, "StretchedRows", "LOWEST", "[I", 2, 38),
     (0, 80, "StretchedRows", "HIGHEST", "[I", 2, 39),
     (3, 83, "", "the number is out of its range", "", 16, 0),
     (0, 85, "StretchedRows$Node", "numbers", "[I", 5, 3),
     (2, 88, "StretchedRows$Text", "", "", 11, 0),
     (3, 90, "", "the width is out of its range", "", 18, 0),
     (0, 92, "StretchedRows$Text", "wordCount", "I", 11, 1),
     (3, 95, "", "no room for a word", "", 20, 0),
     (1, 97, "StretchedRows$Text", "addWord", "(I)V", 11, 1),
     (3, 101, "", "no such text", "", 22, 0),
     (2, 103, "StretchedRows$Grid", "", "", 17, 0),
     (0, 105, "StretchedRows$Grid", "trackCount", "I", 17, 3),
     (3, 108, "", "no room for a track", "", 24, 0),
     (1, 110, "StretchedRows$Grid", "addTrack", "(ZI)V", 17, 1),
     (3, 114, "", "no such grid", "", 26, 0),
     (1, 116, "StretchedRows$Node", "isHidden", "()Z", 5, 6),
     (3, 120, "", "nothing to lay out", "", 28, 0),
     (1, 122, "StretchedRows", "measureAll", "()V", 2, 17),
     (1, 125, "StretchedRows", "forgetLayout", "()V", 2, 19),
     (0, 128, "StretchedRows$Node", "laidOut", "Z", 5, 8),
     (1, 131, "StretchedRows$Node", "clamped", "(I)I", 5, 9),
     (0, 135, "StretchedRows$Node", "width", "I", 5, 11),
     (0, 138, "StretchedRows$Node", "left", "I", 5, 9),
     (0, 141, "StretchedRows$Node", "top", "I", 5, 10),
     (1, 144, "StretchedRows$Node", "spread", "()V", 5, 3),
     (1, 147, "StretchedRows$Node", "stack", "()V", 5, 2),
     (1, 150, "StretchedRows$Node", "place", "()V", 5, 10),
     (0, 153, "StretchedRows$Node", "height", "I", 5, 12),
     (1, 156, "StretchedRows", "findLaidOut", "(I)LStretchedRows$Node;", 2, 15),
     (3, 159, "", "the node is not laid out", "", 30, 0),
     (3, 161, "", "no such measure", "", 32, 0),
     (1, 163, "StretchedRows$Node", "brokenInto", "()I", 5, 4),
     (1, 167, "StretchedRows$Node", "covers", "(II)Z", 5, 11),
     (1, 171, "StretchedRows$Node", "lastChildAt", "(II)LStretchedRows$Node;", 5, 5),
     (0, 175, "StretchedRows$Node", "naturalWidth", "I", 5, 5),
     (1, 178, "StretchedRows$Text", "<init>", "(ILStretchedRows$Container;I)V", 11, 0),
     (2, 181, "StretchedRows$Column", "", "", 15, 0),
     (1, 183, "StretchedRows$Column", "<init>", "(ILStretchedRows$Container;I)V", 15, 0),
     (2, 184, "StretchedRows$Row", "", "", 16, 0),
     (1, 186, "StretchedRows$Row", "<init>", "(ILStretchedRows$Container;I)V", 16, 0),
     (1, 187, "StretchedRows$Grid", "<init>", "(ILStretchedRows$Container;I)V", 17, 0),
     (2, 188, "StretchedRows$Box", "", "", 13, 0),
     (1, 190, "StretchedRows$Box", "<init>", "(ILStretchedRows$Container;I)V", 13, 0),
     (1, 191, "StretchedRows", "gatherChildren", "()V", 2, 18),
     (1, 194, "StretchedRows$Node", "measure", "()V", 5, 8),
     (0, 197, "StretchedRows$Container", "shownCount", "I", 12, 1),
     (1, 200, "StretchedRows$Container", "show", "(LStretchedRows$Node;)V", 12, 4),
     (1, 204, "java/lang/Math", "floorDiv", "(II)I", 7, 0)]
    [("there", .array (.object "StretchedRows$Node"), 0x12), ("thereCount", .int, 0x2), ("madeCount", .int, 0x2)] (Lib.HandJ.method "<init>" "()V" [] none 0x1 1 prog_1_method_1_code) with
  methods := #[Lib.HandJ.method "<init>" "()V" [] none 0x1 1 prog_1_method_1_code,
    Lib.HandJ.method "node" "(II)I" [.int, .int] (some .int) 0x1 6 prog_1_method_2_code,
    Lib.HandJ.method "remove" "(I)I" [.int] (some .int) 0x1 7 prog_1_method_3_code,
    Lib.HandJ.method "set" "(III)V" [.int, .int, .int] none 0x1 5 prog_1_method_4_code,
    Lib.HandJ.method "word" "(II)I" [.int, .int] (some .int) 0x1 5 prog_1_method_5_code,
    Lib.HandJ.method "track" "(IZI)I" [.int, .boolean, .int] (some .int) 0x1 6 prog_1_method_6_code,
    Lib.HandJ.method "layout" "(I)I" [.int] (some .int) 0x1 4 prog_1_method_7_code,
    Lib.HandJ.method "where" "(II)I" [.int, .int] (some .int) 0x1 4 prog_1_method_8_code,
    Lib.HandJ.method "lines" "(I)I" [.int] (some .int) 0x1 3 prog_1_method_9_code,
    Lib.HandJ.method "at" "(II)I" [.int, .int] (some .int) 0x1 6 prog_1_method_10_code,
    Lib.HandJ.method "natural" "(I)I" [.int] (some .int) 0x1 3 prog_1_method_11_code,
    Lib.HandJ.method "nodes" "()I" [] (some .int) 0x1 1 prog_1_method_12_code,
    Lib.HandJ.method "isOutside" "(III)Z" [.int, .int, .int] (some .boolean) 0xa 3 prog_1_method_13_code,
    Lib.HandJ.method "findNode" "(I)LStretchedRows$Node;" [.int] (some (.object "StretchedRows$Node")) 0x2 3 prog_1_method_14_code,
    Lib.HandJ.method "findContainer" "(I)LStretchedRows$Container;" [.int] (some (.object "StretchedRows$Container")) 0x2 4 prog_1_method_15_code,
    Lib.HandJ.method "findLaidOut" "(I)LStretchedRows$Node;" [.int] (some (.object "StretchedRows$Node")) 0x2 3 prog_1_method_16_code,
    Lib.HandJ.method "newNode" "(IILStretchedRows$Container;I)LStretchedRows$Node;" [.int, .int, .object "StretchedRows$Container", .int] (some (.object "StretchedRows$Node")) 0xa 4 prog_1_method_17_code,
    Lib.HandJ.method "measureAll" "()V" [] none 0x2 2 prog_1_method_18_code,
    Lib.HandJ.method "gatherChildren" "()V" [] none 0x2 4 prog_1_method_19_code,
    Lib.HandJ.method "forgetLayout" "()V" [] none 0x2 2 prog_1_method_20_code,
    Lib.HandJ.method "shiftWithin" "(II)I" [.int, .int] (some .int) 0xa 2 prog_1_method_21_code],
  fields := (Lib.HandW.fieldsFrom [("there", .array (.object "StretchedRows$Node"), 0x12), ("thereCount", .int, 0x2), ("madeCount", .int, 0x2)] 0).toArray ++ #[{ name := "NONE", type := .int, accessFlags := 0x19, slot := 0, constantValue := 0 }, { name := "BOX", type := .int, accessFlags := 0x19, slot := 1, constantValue := 0 }, { name := "TEXT", type := .int, accessFlags := 0x19, slot := 2, constantValue := 0 }, { name := "COLUMN", type := .int, accessFlags := 0x19, slot := 3, constantValue := 0 }, { name := "ROW", type := .int, accessFlags := 0x19, slot := 4, constantValue := 0 }, { name := "GRID", type := .int, accessFlags := 0x19, slot := 5, constantValue := 0 }, { name := "GROW", type := .int, accessFlags := 0x19, slot := 6, constantValue := 0 }, { name := "SHRINK", type := .int, accessFlags := 0x19, slot := 7, constantValue := 0 }, { name := "BASIS", type := .int, accessFlags := 0x19, slot := 8, constantValue := 0 }, { name := "LEAST", type := .int, accessFlags := 0x19, slot := 9, constantValue := 0 }, { name := "MOST", type := .int, accessFlags := 0x19, slot := 10, constantValue := 0 }, { name := "ALIGN", type := .int, accessFlags := 0x19, slot := 11, constantValue := 0 }, { name := "ORDER", type := .int, accessFlags := 0x19, slot := 12, constantValue := 0 }, { name := "HIDDEN", type := .int, accessFlags := 0x19, slot := 13, constantValue := 0 }, { name := "WIDE", type := .int, accessFlags := 0x19, slot := 14, constantValue := 0 }, { name := "HIGH", type := .int, accessFlags := 0x19, slot := 15, constantValue := 0 }, { name := "GAP", type := .int, accessFlags := 0x19, slot := 16, constantValue := 0 }, { name := "PAD", type := .int, accessFlags := 0x19, slot := 17, constantValue := 0 }, { name := "JUSTIFY", type := .int, accessFlags := 0x19, slot := 18, constantValue := 0 }, { name := "WRAP", type := .int, accessFlags := 0x19, slot := 19, constantValue := 0 }, { name := "STRETCH", type := .int, accessFlags := 0x19, slot := 20, constantValue := 0 }, { name := "START", type := .int, accessFlags := 0x19, slot := 21, constantValue := 0 }, { name := "CENTRE", type := .int, accessFlags := 0x19, slot := 22, constantValue := 0 }, { name := "END", type := .int, accessFlags := 0x19, slot := 23, constantValue := 0 }, { name := "BETWEEN", type := .int, accessFlags := 0x19, slot := 24, constantValue := 0 }, { name := "MOST_THERE", type := .int, accessFlags := 0x1a, slot := 25, constantValue := 0 }, { name := "MOST_MADE", type := .int, accessFlags := 0x1a, slot := 26, constantValue := 0 }, { name := "MOST_DEPTH", type := .int, accessFlags := 0x1a, slot := 27, constantValue := 0 }, { name := "MOST_WORDS", type := .int, accessFlags := 0x1a, slot := 28, constantValue := 0 }, { name := "MOST_TRACKS", type := .int, accessFlags := 0x1a, slot := 29, constantValue := 0 }, { name := "WIDEST_WORD", type := .int, accessFlags := 0x1a, slot := 30, constantValue := 0 }, { name := "LARGEST_TRACK", type := .int, accessFlags := 0x1a, slot := 31, constantValue := 0 }, { name := "WIDEST_LAYOUT", type := .int, accessFlags := 0x1a, slot := 32, constantValue := 0 }, { name := "WORD_GAP", type := .int, accessFlags := 0x1a, slot := 33, constantValue := 0 }, { name := "TEXT_LINE_HEIGHT", type := .int, accessFlags := 0x1a, slot := 34, constantValue := 0 }, { name := "LOWEST", type := .array .int, accessFlags := 0x1a, slot := 35, constantValue := 0 }, { name := "HIGHEST", type := .array .int, accessFlags := 0x1a, slot := 36, constantValue := 0 }, { name := "AT_FIRST", type := .array .int, accessFlags := 0x1a, slot := 37, constantValue := 0 }],
  staticTypes := #[.int, .int, .int, .int, .int, .int, .int, .int, .int, .int, .int, .int, .int, .int, .int, .int, .int, .int, .int, .int, .int, .int, .int, .int, .int, .int, .int, .int, .int, .int, .int, .int, .int, .int, .int, .array .int, .array .int, .array .int],
  statics := some 1 }
def wz1.c3 : Class := { su_own "StretchedRowsModel" 0x31
    [(1, 1, "java/lang/Object", "<init>", "()V", 1, 0),
     (0, 7, "StretchedRowsModel", "there", "[Z", 3, 3),
     (0, 13, "StretchedRowsModel", "kinds", "[I", 3, 4),
     (0, 17, "StretchedRowsModel", "parents", "[I", 3, 5),
     (0, 20, "StretchedRowsModel", "depths", "[I", 3, 6),
     (0, 23, "StretchedRowsModel", "numbers", "[I", 3, 7),
     (0, 26, "StretchedRowsModel", "words", "[I", 3, 8),
     (0, 29, "StretchedRowsModel", "wordCounts", "[I", 3, 9),
     (0, 32, "StretchedRowsModel", "tracks", "[I", 3, 10),
     (0, 35, "StretchedRowsModel", "shares", "[Z", 3, 11),
     (0, 38, "StretchedRowsModel", "trackCounts", "[I", 3, 12),
     (0, 41, "StretchedRowsModel", "naturals", "[I", 3, 13),
     (0, 44, "StretchedRowsModel", "laid", "[Z", 3, 14),
     (0, 47, "StretchedRowsModel", "lefts", "[I", 3, 15),
     (0, 50, "StretchedRowsModel", "tops", "[I", 3, 16),
     (0, 53, "StretchedRowsModel", "widths", "[I", 3, 17),
     (0, 56, "StretchedRowsModel", "heights", "[I", 3, 18),
     (0, 59, "StretchedRowsModel", "lineCounts", "[I", 3, 19),
     (0, 62, "StretchedRowsModel", "ranks", "[I", 3, 20),
     (0, 65, "StretchedRowsModel", "owns", "[I", 3, 21),
     (0, 68, "StretchedRowsModel", "kids", "[I", 3, 23),
     (0, 71, "StretchedRowsModel", "settled", "[Z", 3, 24),
     (0, 74, "StretchedRowsModel", "sizes", "[I", 3, 25),
     (0, 77, "StretchedRowsModel", "clamped", "[I", 3, 26),
     (0, 80, "StretchedRowsModel", "trackWidths", "[I", 3, 27),
     (0, 83, "StretchedRowsModel", "thrown", "I", 3, 0),
     (0, 87, "StretchedRowsModel", "made", "I", 3, 1),
     (1, 90, "StretchedRowsModel", "isThere", "(I)Z", 3, 3),
     (0, 94, "StretchedRowsModel", "count", "I", 3, 2),
     (1, 97, "StretchedRowsModel", "isContainer", "(I)Z", 3, 4),
     (1, 100, "StretchedRowsModel", "refuses", "(ZZ)Z", 3, 2),
     (1, 104, "StretchedRowsModel", "first", "(I)I", 3, 8),
     (1, 108, "StretchedRowsModel", "least", "(I)I", 3, 6),
     (1, 111, "StretchedRowsModel", "most", "(I)I", 3, 7),
     (1, 114, "StretchedRowsModel", "number", "(II)I", 3, 5),
     (0, 118, "StretchedRowsModel", "kidCount", "I", 3, 22),
     (1, 121, "StretchedRowsModel", "isBefore", "(II)Z", 3, 14),
     (1, 125, "StretchedRowsModel", "base", "(I)I", 3, 20),
     (1, 128, "StretchedRowsModel", "clamp", "(II)I", 3, 19),
     (1, 131, "StretchedRowsModel", "hypo", "(I)I", 3, 21),
     (1, 134, "StretchedRowsModel", "gather", "(I)V", 3, 15),
     (1, 138, "StretchedRowsModel", "widest", "(II)I", 3, 22),
     (1, 141, "StretchedRowsModel", "gaps", "(II)I", 3, 23),
     (1, 144, "StretchedRowsModel", "trackCount", "(I)I", 3, 16),
     (1, 147, "StretchedRowsModel", "isShare", "(II)Z", 3, 17),
     (1, 150, "StretchedRowsModel", "trackNumber", "(II)I", 3, 18),
     (1, 153, "StretchedRowsModel", "naturalOf", "(I)I", 3, 24),
     (1, 156, "StretchedRowsModel", "findNaturals", "()V", 3, 25),
     (1, 159, "StretchedRowsModel", "inner", "(I)I", 3, 27),
     (1, 162, "StretchedRowsModel", "part", "(IZ)J", 3, 32),
     (1, 166, "StretchedRowsModel", "restOf", "(III)I", 3, 30),
     (1, 170, "StretchedRowsModel", "deal", "(IIZI)V", 3, 31),
     (1, 174, "StretchedRowsModel", "settle", "(II)Z", 3, 33),
     (1, 177, "StretchedRowsModel", "dealTracks", "(I)V", 3, 28),
     (1, 180, "StretchedRowsModel", "lineEnd", "(II)I", 3, 29),
     (1, 183, "StretchedRowsModel", "stretch", "(III)V", 3, 34),
     (1, 187, "StretchedRowsModel", "textLines", "(I)I", 3, 36),
     (1, 190, "StretchedRowsModel", "nextLine", "(II)I", 3, 37),
     (1, 193, "StretchedRowsModel", "tallest", "(II)I", 3, 38),
     (1, 196, "StretchedRowsModel", "half", "(I)I", 3, 40),
     (1, 199, "StretchedRowsModel", "placeColumn", "(I)V", 3, 41),
     (1, 202, "StretchedRowsModel", "placeAcross", "(III)V", 3, 43),
     (1, 205, "StretchedRowsModel", "placeTracks", "(III)V", 3, 44),
     (1, 208, "StretchedRowsModel", "placeDown", "(III)V", 3, 42),
     (1, 211, "StretchedRowsModel", "root", "()I", 3, 46),
     (1, 215, "StretchedRowsModel", "spread", "(I)V", 3, 35),
     (1, 218, "StretchedRowsModel", "measure", "(I)V", 3, 39),
     (1, 221, "StretchedRowsModel", "place", "(I)V", 3, 45),
     (1, 224, "StretchedRowsModel", "isLaid", "(I)Z", 3, 48),
     (1, 227, "StretchedRowsModel", "has", "(III)Z", 3, 51)]
    [("thrown", .int, 0x2), ("made", .int, 0x2), ("count", .int, 0x2), ("there", .array .boolean, 0x12), ("kinds", .array .int, 0x12), ("parents", .array .int, 0x12), ("depths", .array .int, 0x12), ("numbers", .array .int, 0x12), ("words", .array .int, 0x12), ("wordCounts", .array .int, 0x12), ("tracks", .array .int, 0x12), ("shares", .array .boolean, 0x12), ("trackCounts", .array .int, 0x12), ("naturals", .array .int, 0x12), ("laid", .array .boolean, 0x12), ("lefts", .array .int, 0x12), ("tops", .array .int, 0x12), ("widths", .array .int, 0x12), ("heights", .array .int, 0x12), ("lineCounts", .array .int, 0x12), ("ranks", .array .int, 0x12), ("owns", .array .int, 0x12), ("kidCount", .int, 0x2), ("kids", .array .int, 0x12), ("settled", .array .boolean, 0x12), ("sizes", .array .int, 0x12), ("clamped", .array .int, 0x12), ("trackWidths", .array .int, 0x12)] (Lib.HandJ.method "<init>" "()V" [] none 0x1 1 prog_11_method_1_code) with
  methods := #[Lib.HandJ.method "<init>" "()V" [] none 0x1 1 prog_11_method_1_code,
    Lib.HandJ.method "thrown" "()I" [] (some .int) 0x1 1 prog_11_method_2_code,
    Lib.HandJ.method "refuses" "(ZZ)Z" [.boolean, .boolean] (some .boolean) 0x2 3 prog_11_method_3_code,
    Lib.HandJ.method "isThere" "(I)Z" [.int] (some .boolean) 0x2 2 prog_11_method_4_code,
    Lib.HandJ.method "isContainer" "(I)Z" [.int] (some .boolean) 0x2 2 prog_11_method_5_code,
    Lib.HandJ.method "number" "(II)I" [.int, .int] (some .int) 0x2 3 prog_11_method_6_code,
    Lib.HandJ.method "least" "(I)I" [.int] (some .int) 0xa 1 prog_11_method_7_code,
    Lib.HandJ.method "most" "(I)I" [.int] (some .int) 0xa 1 prog_11_method_8_code,
    Lib.HandJ.method "first" "(I)I" [.int] (some .int) 0xa 1 prog_11_method_9_code,
    Lib.HandJ.method "node" "(II)I" [.int, .int] (some .int) 0x1 7 prog_11_method_10_code,
    Lib.HandJ.method "remove" "(I)I" [.int] (some .int) 0x1 5 prog_11_method_11_code,
    Lib.HandJ.method "set" "(III)V" [.int, .int, .int] none 0x1 5 prog_11_method_12_code,
    Lib.HandJ.method "word" "(II)I" [.int, .int] (some .int) 0x1 4 prog_11_method_13_code,
    Lib.HandJ.method "track" "(IZI)I" [.int, .boolean, .int] (some .int) 0x1 6 prog_11_method_14_code,
    Lib.HandJ.method "isBefore" "(II)Z" [.int, .int] (some .boolean) 0x2 3 prog_11_method_15_code,
    Lib.HandJ.method "gather" "(I)V" [.int] none 0x2 4 prog_11_method_16_code,
    Lib.HandJ.method "trackCount" "(I)I" [.int] (some .int) 0x2 2 prog_11_method_17_code,
    Lib.HandJ.method "isShare" "(II)Z" [.int, .int] (some .boolean) 0x2 3 prog_11_method_18_code,
    Lib.HandJ.method "trackNumber" "(II)I" [.int, .int] (some .int) 0x2 3 prog_11_method_19_code,
    Lib.HandJ.method "clamp" "(II)I" [.int, .int] (some .int) 0x2 4 prog_11_method_20_code,
    Lib.HandJ.method "base" "(I)I" [.int] (some .int) 0x2 2 prog_11_method_21_code,
    Lib.HandJ.method "hypo" "(I)I" [.int] (some .int) 0x2 2 prog_11_method_22_code,
    Lib.HandJ.method "widest" "(II)I" [.int, .int] (some .int) 0x2 5 prog_11_method_23_code,
    Lib.HandJ.method "gaps" "(II)I" [.int, .int] (some .int) 0x2 3 prog_11_method_24_code,
    Lib.HandJ.method "naturalOf" "(I)I" [.int] (some .int) 0x2 5 prog_11_method_25_code,
    Lib.HandJ.method "findNaturals" "()V" [] none 0x2 2 prog_11_method_26_code,
    Lib.HandJ.method "natural" "(I)I" [.int] (some .int) 0x1 2 prog_11_method_27_code,
    Lib.HandJ.method "inner" "(I)I" [.int] (some .int) 0x2 3 prog_11_method_28_code,
    Lib.HandJ.method "dealTracks" "(I)V" [.int] none 0x2 8 prog_11_method_29_code,
    Lib.HandJ.method "lineEnd" "(II)I" [.int, .int] (some .int) 0x2 5 prog_11_method_30_code,
    Lib.HandJ.method "restOf" "(III)I" [.int, .int, .int] (some .int) 0x2 6 prog_11_method_31_code,
    Lib.HandJ.method "deal" "(IIZI)V" [.int, .int, .boolean, .int] none 0x2 14 prog_11_method_32_code,
    Lib.HandJ.method "part" "(IZ)J" [.int, .boolean] (some .long) 0x2 3 prog_11_method_33_code,
    Lib.HandJ.method "settle" "(II)Z" [.int, .int] (some .boolean) 0x2 7 prog_11_method_34_code,
    Lib.HandJ.method "stretch" "(III)V" [.int, .int, .int] none 0x2 10 prog_11_method_35_code,
    Lib.HandJ.method "spread" "(I)V" [.int] none 0x2 5 prog_11_method_36_code,
    Lib.HandJ.method "textLines" "(I)I" [.int] (some .int) 0x2 7 prog_11_method_37_code,
    Lib.HandJ.method "nextLine" "(II)I" [.int, .int] (some .int) 0x2 4 prog_11_method_38_code,
    Lib.HandJ.method "tallest" "(II)I" [.int, .int] (some .int) 0x2 5 prog_11_method_39_code,
    Lib.HandJ.method "measure" "(I)V" [.int] none 0x2 6 prog_11_method_40_code,
    Lib.HandJ.method "half" "(I)I" [.int] (some .int) 0xa 1 prog_11_method_41_code,
    Lib.HandJ.method "placeColumn" "(I)V" [.int] none 0x2 7 prog_11_method_42_code,
    Lib.HandJ.method "placeDown" "(III)V" [.int, .int, .int] none 0x2 9 prog_11_method_43_code,
    Lib.HandJ.method "placeAcross" "(III)V" [.int, .int, .int] none 0x2 11 prog_11_method_44_code,
    Lib.HandJ.method "placeTracks" "(III)V" [.int, .int, .int] none 0x2 6 prog_11_method_45_code,
    Lib.HandJ.method "place" "(I)V" [.int] none 0x2 5 prog_11_method_46_code,
    Lib.HandJ.method "root" "()I" [] (some .int) 0x2 2 prog_11_method_47_code,
    Lib.HandJ.method "layout" "(I)I" [.int] (some .int) 0x1 4 prog_11_method_48_code,
    Lib.HandJ.method "isLaid" "(I)Z" [.int] (some .boolean) 0x2 2 prog_11_method_49_code,
    Lib.HandJ.method "where" "(II)I" [.int, .int] (some .int) 0x1 3 prog_11_method_50_code,
    Lib.HandJ.method "lines" "(I)I" [.int] (some .int) 0x1 2 prog_11_method_51_code,
    Lib.HandJ.method "has" "(III)Z" [.int, .int, .int] (some .boolean) 0x2 4 prog_11_method_52_code,
    Lib.HandJ.method "at" "(II)I" [.int, .int] (some .int) 0x1 8 prog_11_method_53_code,
    Lib.HandJ.method "nodes" "()I" [] (some .int) 0x1 1 prog_11_method_54_code] }
def wz1.c4 : Class := { su_own "java/lang/Throwable" 0x21
    [(1, 1, "java/lang/Object", "<init>", "()V", 1, 0),
     (0, 7, "java/lang/Throwable", "cause", "Ljava/lang/Throwable;", 4, 2),
     (0, 13, "java/lang/Throwable", "UNASSIGNED_STACK", "[Ljava/lang/StackTraceElement;", 4, 7),
     (0, 17, "java/lang/Throwable", "stackTrace", "[Ljava/lang/StackTraceElement;", 4, 3),
     (0, 20, "java/lang/Throwable", "SUPPRESSED_SENTINEL", "Ljava/util/List;", 4, 8),
     (0, 24, "java/lang/Throwable", "suppressedExceptions", "Ljava/util/List;", 4, 5),
     (1, 27, "java/lang/Throwable", "fillInStackTrace", "()Ljava/lang/Throwable;", 4, 2),
     (0, 31, "java/lang/Throwable", "detailMessage", "Ljava/lang/String;", 4, 1),
     (0, 198, "java/lang/Throwable", "backtrace", "Ljava/lang/Object;", 4, 0),
     (1, 202, "java/lang/Throwable", "fillInStackTrace", "(I)Ljava/lang/Throwable;", 4, 3)]
    [("backtrace", .object "java/lang/Object", 0x82), ("detailMessage", .object "java/lang/String", 0x2), ("cause", .object "java/lang/Throwable", 0x2), ("stackTrace", .array (.object "java/lang/StackTraceElement"), 0x2), ("depth", .int, 0x82), ("suppressedExceptions", .object "java/util/List", 0x2)] (Lib.HandJ.method "<init>" "()V" [] none 0x1 1 prog_19_method_1_code) with
  methods := #[Lib.HandJ.method "<init>" "()V" [] none 0x1 1 prog_19_method_1_code,
    Lib.HandJ.method "<init>" "(Ljava/lang/String;)V" [.object "java/lang/String"] none 0x1 2 prog_19_method_2_code,
    Lib.HandJ.method "fillInStackTrace" "()Ljava/lang/Throwable;" [] (some (.object "java/lang/Throwable")) 0x21 1 prog_19_method_18_code,
    { name := "fillInStackTrace", desc := "(I)Ljava/lang/Throwable;", sig := { parameters := [.int], returnType := some (.object "java/lang/Throwable") }, accessFlags := 0x102, code := none }],
  fields := (Lib.HandW.fieldsFrom [("backtrace", .object "java/lang/Object", 0x82), ("detailMessage", .object "java/lang/String", 0x2), ("cause", .object "java/lang/Throwable", 0x2), ("stackTrace", .array (.object "java/lang/StackTraceElement"), 0x2), ("depth", .int, 0x82), ("suppressedExceptions", .object "java/util/List", 0x2)] 0).toArray ++ #[{ name := "serialVersionUID", type := .long, accessFlags := 0x1a, slot := 0, constantValue := 0 }, { name := "UNASSIGNED_STACK", type := .array (.object "java/lang/StackTraceElement"), accessFlags := 0x1a, slot := 1, constantValue := 0 }, { name := "SUPPRESSED_SENTINEL", type := .object "java/util/List", accessFlags := 0x1a, slot := 2, constantValue := 0 }, { name := "NULL_CAUSE_MESSAGE", type := .object "java/lang/String", accessFlags := 0x1a, slot := 3, constantValue := 0 }, { name := "SELF_SUPPRESSION_MESSAGE", type := .object "java/lang/String", accessFlags := 0x1a, slot := 4, constantValue := 0 }, { name := "CAUSE_CAPTION", type := .object "java/lang/String", accessFlags := 0x1a, slot := 5, constantValue := 0 }, { name := "SUPPRESSED_CAPTION", type := .object "java/lang/String", accessFlags := 0x1a, slot := 6, constantValue := 0 }, { name := "EMPTY_THROWABLE_ARRAY", type := .array (.object "java/lang/Throwable"), accessFlags := 0x1a, slot := 7, constantValue := 0 }, { name := "$assertionsDisabled", type := .boolean, accessFlags := 0x1018, slot := 8, constantValue := 0 }],
  staticTypes := #[.long, .array (.object "java/lang/StackTraceElement"), .object "java/util/List", .object "java/lang/String", .object "java/lang/String", .object "java/lang/String", .object "java/lang/String", .array (.object "java/lang/Throwable"), .boolean],
  statics := some 2 }

def wz1.c5 : Class := suRes [(116, .cls 21), (207, .cls 12), (221, .cls 12)] <| { su_own "StretchedRows$Node" 0x420
    [(1, 3, "java/lang/Object", "<init>", "()V", 1, 0),
     (0, 9, "StretchedRows$Node", "number", "I", 5, 0),
     (0, 15, "StretchedRows$Node", "parent", "LStretchedRows$Container;", 5, 1),
     (0, 19, "StretchedRows$Node", "depth", "I", 5, 2),
     (0, 22, "StretchedRows", "AT_FIRST", "[I", 2, 40),
     (1, 26, "[I", "clone", "()Ljava/lang/Object;", 1, 1),
     (2, 27, "[I", "", "", 21, 0),
     (0, 31, "StretchedRows$Node", "numbers", "[I", 5, 3),
     (0, 34, "StretchedRows$Node", "takenAway", "Z", 5, 4),
     (0, 38, "StretchedRows$Node", "laidOut", "Z", 5, 8),
     (1, 41, "StretchedRows$Node", "findNaturalWidth", "()I", 5, 1),
     (0, 45, "StretchedRows$Node", "naturalWidth", "I", 5, 5),
     (0, 48, "StretchedRows$Node", "base", "I", 5, 6),
     (1, 51, "StretchedRows$Node", "clamped", "(I)I", 5, 9),
     (0, 55, "StretchedRows$Node", "hypo", "I", 5, 7),
     (1, 58, "java/lang/Math", "min", "(II)I", 7, 2),
     (1, 64, "java/lang/Math", "max", "(II)I", 7, 1),
     (0, 67, "StretchedRows$Node", "left", "I", 5, 9),
     (0, 70, "StretchedRows$Container", "left", "I", 5, 9),
     (0, 73, "StretchedRows$Node", "top", "I", 5, 10),
     (0, 76, "StretchedRows$Container", "top", "I", 5, 10),
     (0, 77, "StretchedRows$Node", "width", "I", 5, 11),
     (0, 80, "StretchedRows$Node", "height", "I", 5, 12)]
    [("number", .int, 0x10), ("parent", .object "StretchedRows$Container", 0x10), ("depth", .int, 0x10), ("numbers", .array .int, 0x10), ("takenAway", .boolean, 0x0), ("naturalWidth", .int, 0x0), ("base", .int, 0x0), ("hypo", .int, 0x0), ("laidOut", .boolean, 0x0), ("left", .int, 0x0), ("top", .int, 0x0), ("width", .int, 0x0), ("height", .int, 0x0)] (Lib.HandJ.method "<init>" "(ILStretchedRows$Container;I)V" [.int, .object "StretchedRows$Container", .int] none 0x0 4 prog_6_method_1_code) with
  methods := #[Lib.HandJ.method "<init>" "(ILStretchedRows$Container;I)V" [.int, .object "StretchedRows$Container", .int] none 0x0 4 prog_6_method_1_code,
    { name := "findNaturalWidth", desc := "()I", sig := { parameters := [], returnType := some .int }, accessFlags := 0x400, code := none },
    { name := "stack", desc := "()V", sig := { parameters := [], returnType := none }, accessFlags := 0x400, code := none },
    Lib.HandJ.method "spread" "()V" [] none 0x0 1 prog_6_method_4_code,
    Lib.HandJ.method "brokenInto" "()I" [] (some .int) 0x0 1 prog_6_method_5_code,
    Lib.HandJ.method "lastChildAt" "(II)LStretchedRows$Node;" [.int, .int] (some (.object "StretchedRows$Node")) 0x0 3 prog_6_method_6_code,
    Lib.HandJ.method "isHidden" "()Z" [] (some .boolean) 0x10 1 prog_6_method_7_code,
    Lib.HandJ.method "takeAway" "()V" [] none 0x10 1 prog_6_method_8_code,
    Lib.HandJ.method "measure" "()V" [] none 0x10 1 prog_6_method_9_code,
    Lib.HandJ.method "clamped" "(I)I" [.int] (some .int) 0x10 2 prog_6_method_10_code,
    Lib.HandJ.method "place" "()V" [] none 0x10 1 prog_6_method_11_code,
    Lib.HandJ.method "covers" "(II)Z" [.int, .int] (some .boolean) 0x10 3 prog_6_method_12_code],
  nestHost := some 2 }
def wz1.c6 : Class := { su_own "StretchedRows$Shares" 0x30
    [(1, 1, "java/lang/Object", "<init>", "()V", 1, 0),
     (0, 7, "StretchedRows$Shares", "weights", "[J", 6, 0),
     (0, 13, "StretchedRows$Shares", "parts", "[I", 6, 1),
     (1, 17, "java/lang/Math", "max", "(II)I", 7, 1)]
    [("weights", .array .long, 0x10), ("parts", .array .int, 0x10)] (Lib.HandJ.method "<init>" "(I)V" [.int] none 0x0 2 prog_8_method_1_code) with
  methods := #[Lib.HandJ.method "<init>" "(I)V" [.int] none 0x0 2 prog_8_method_1_code,
    Lib.HandJ.method "deal" "(III)V" [.int, .int, .int] none 0x0 9 prog_8_method_2_code],
  nestHost := some 2 }
def wz1.c7 : Class := { su_own "java/lang/Math" 0x31
    []
    [] (Lib.HandJ.method "floorDiv" "(II)I" [.int, .int] (some .int) 0x9 3 prog_16_method_47_code) with
  methods := #[Lib.HandJ.method "floorDiv" "(II)I" [.int, .int] (some .int) 0x9 3 prog_16_method_47_code,
    Lib.HandJ.method "max" "(II)I" [.int, .int] (some .int) 0x9 2 prog_16_method_65_code,
    Lib.HandJ.method "min" "(II)I" [.int, .int] (some .int) 0x9 2 prog_16_method_69_code] }
def wz1.c8 : Class := { su_own "java/lang/String" 0x31
    []
    [("value", .array .byte, 0x12), ("coder", .byte, 0x12), ("hash", .int, 0x2), ("hashIsZero", .boolean, 0x2)] mLaw with
  methods := #[] }
def wz1.c9 : Class := { su_own "java/lang/Cloneable" 0x601
    []
    [] mLaw with
  methods := #[] }
def wz1.c10 : Class := { su_own "java/lang/Exception" 0x21
    [(1, 7, "java/lang/Throwable", "<init>", "(Ljava/lang/String;)V", 4, 1)]
    [] ({ name := "<init>", desc := "()V", sig := { parameters := [], returnType := none }, accessFlags := 0x1, code := none }) with
  methods := #[{ name := "<init>", desc := "()V", sig := { parameters := [], returnType := none }, accessFlags := 0x1, code := none },
    Lib.HandJ.method "<init>" "(Ljava/lang/String;)V" [.object "java/lang/String"] none 0x1 2 prog_13_method_2_code],
  super := some 4,
  instanceTypes := #[.object "java/lang/Object", .object "java/lang/String", .object "java/lang/Throwable", .array (.object "java/lang/StackTraceElement"), .int, .object "java/util/List"],
  fields := (Lib.HandW.fieldsFrom [] 6).toArray }
def wz1.c11 : Class := suRes [(54, .cls 11), (61, .cls 11)] <| { su_own "StretchedRows$Text" 0x30
    [(1, 3, "StretchedRows$Node", "<init>", "(ILStretchedRows$Container;I)V", 5, 0),
     (0, 9, "StretchedRows$Text", "words", "[I", 11, 0),
     (0, 15, "StretchedRows$Text", "wordCount", "I", 11, 1),
     (0, 19, "StretchedRows$Text", "lineCount", "I", 11, 2),
     (0, 22, "StretchedRows$Text", "width", "I", 5, 11),
     (0, 25, "StretchedRows$Text", "height", "I", 5, 12)]
    [("words", .array .int, 0x10), ("wordCount", .int, 0x0), ("lineCount", .int, 0x0)] (Lib.HandJ.method "<init>" "(ILStretchedRows$Container;I)V" [.int, .object "StretchedRows$Container", .int] none 0x0 4 prog_9_method_1_code) with
  methods := #[Lib.HandJ.method "<init>" "(ILStretchedRows$Container;I)V" [.int, .object "StretchedRows$Container", .int] none 0x0 4 prog_9_method_1_code,
    Lib.HandJ.method "addWord" "(I)V" [.int] none 0x0 2 prog_9_method_2_code,
    Lib.HandJ.method "findNaturalWidth" "()I" [] (some .int) 0x0 3 prog_9_method_3_code,
    Lib.HandJ.method "stack" "()V" [] none 0x0 3 prog_9_method_4_code,
    Lib.HandJ.method "brokenInto" "()I" [] (some .int) 0x0 1 prog_9_method_5_code],
  nestHost := some 2,
  super := some 5,
  instanceTypes := #[.int, .object "StretchedRows$Container", .int, .array .int, .boolean, .int, .int, .int, .boolean, .int, .int, .int, .int, .array .int, .int, .int],
  fields := (Lib.HandW.fieldsFrom [("words", .array .int, 0x10), ("wordCount", .int, 0x0), ("lineCount", .int, 0x0)] 13).toArray }
def wz1.c12 : Class := suRes [(130, .cls 12), (144, .cls 12), (214, .cls 12)] <| { su_own "StretchedRows$Container" 0x420
    [(1, 3, "StretchedRows$Node", "<init>", "(ILStretchedRows$Container;I)V", 5, 0),
     (2, 4, "StretchedRows$Node", "", "", 5, 0),
     (0, 9, "StretchedRows$Container", "shown", "[LStretchedRows$Node;", 12, 0),
     (0, 15, "StretchedRows$Container", "laid", "[LStretchedRows$Node;", 12, 2),
     (0, 18, "StretchedRows$Container", "lineEnds", "[I", 12, 4),
     (0, 22, "StretchedRows$Container", "shownCount", "I", 12, 1),
     (0, 26, "StretchedRows$Node", "numbers", "[I", 5, 3),
     (0, 29, "StretchedRows$Container", "numbers", "[I", 5, 3),
     (1, 30, "StretchedRows$Container", "findNaturalInside", "()I", 12, 1),
     (0, 34, "StretchedRows$Container", "width", "I", 5, 11),
     (1, 37, "java/lang/Math", "max", "(II)I", 7, 1),
     (0, 43, "StretchedRows$Container", "inner", "I", 12, 6),
     (0, 46, "StretchedRows$Container", "laidCount", "I", 12, 3),
     (0, 49, "StretchedRows$Node", "laidOut", "Z", 5, 8),
     (0, 53, "StretchedRows$Container", "lineCount", "I", 12, 5),
     (1, 56, "StretchedRows$Container", "breakLines", "()V", 12, 2),
     (1, 60, "StretchedRows$Container", "spreadChildren", "()V", 12, 3),
     (1, 63, "StretchedRows$Container", "greatestHeight", "(II)I", 12, 10),
     (1, 66, "StretchedRows$Container", "alignInLine", "(LStretchedRows$Node;II)V", 12, 11),
     (0, 70, "StretchedRows$Container", "height", "I", 5, 12),
     (0, 73, "StretchedRows$Node", "height", "I", 5, 12),
     (1, 74, "StretchedRows", "shiftWithin", "(II)I", 2, 20),
     (0, 77, "StretchedRows$Node", "top", "I", 5, 10),
     (1, 80, "StretchedRows$Node", "covers", "(II)Z", 5, 11)]
    [("shown", .array (.object "StretchedRows$Node"), 0x10), ("shownCount", .int, 0x0), ("laid", .array (.object "StretchedRows$Node"), 0x10), ("laidCount", .int, 0x0), ("lineEnds", .array .int, 0x10), ("lineCount", .int, 0x0), ("inner", .int, 0x0)] (Lib.HandJ.method "<init>" "(ILStretchedRows$Container;I)V" [.int, .object "StretchedRows$Container", .int] none 0x0 4 prog_4_method_1_code) with
  methods := #[Lib.HandJ.method "<init>" "(ILStretchedRows$Container;I)V" [.int, .object "StretchedRows$Container", .int] none 0x0 4 prog_4_method_1_code,
    { name := "findNaturalInside", desc := "()I", sig := { parameters := [], returnType := some .int }, accessFlags := 0x400, code := none },
    { name := "breakLines", desc := "()V", sig := { parameters := [], returnType := none }, accessFlags := 0x400, code := none },
    { name := "spreadChildren", desc := "()V", sig := { parameters := [], returnType := none }, accessFlags := 0x400, code := none },
    Lib.HandJ.method "show" "(LStretchedRows$Node;)V" [.object "StretchedRows$Node"] none 0x10 3 prog_4_method_5_code,
    Lib.HandJ.method "gapsAmong" "(I)I" [.int] (some .int) 0x10 2 prog_4_method_6_code,
    Lib.HandJ.method "findNaturalWidth" "()I" [] (some .int) 0x10 1 prog_4_method_7_code,
    Lib.HandJ.method "spread" "()V" [] none 0x10 2 prog_4_method_8_code,
    Lib.HandJ.method "putInLine" "(IZ)V" [.int, .boolean] none 0x10 3 prog_4_method_9_code,
    Lib.HandJ.method "stack" "()V" [] none 0x10 7 prog_4_method_10_code,
    Lib.HandJ.method "greatestHeight" "(II)I" [.int, .int] (some .int) 0x2 5 prog_4_method_11_code,
    Lib.HandJ.method "alignInLine" "(LStretchedRows$Node;II)V" [.object "StretchedRows$Node", .int, .int] none 0xa 4 prog_4_method_12_code,
    Lib.HandJ.method "lastChildAt" "(II)LStretchedRows$Node;" [.int, .int] (some (.object "StretchedRows$Node")) 0x10 4 prog_4_method_13_code],
  nestHost := some 2,
  super := some 5,
  instanceTypes := #[.int, .object "StretchedRows$Container", .int, .array .int, .boolean, .int, .int, .int, .boolean, .int, .int, .int, .int, .array (.object "StretchedRows$Node"), .int, .array (.object "StretchedRows$Node"), .int, .array .int, .int, .int],
  fields := (Lib.HandW.fieldsFrom [("shown", .array (.object "StretchedRows$Node"), 0x10), ("shownCount", .int, 0x0), ("laid", .array (.object "StretchedRows$Node"), 0x10), ("laidCount", .int, 0x0), ("lineEnds", .array .int, 0x10), ("lineCount", .int, 0x0), ("inner", .int, 0x0)] 13).toArray }
def wz1.c13 : Class := suRes [(23, .cls 13), (30, .cls 13)] <| { su_own "StretchedRows$Box" 0x30
    [(1, 3, "StretchedRows$Node", "<init>", "(ILStretchedRows$Container;I)V", 5, 0),
     (0, 9, "StretchedRows$Box", "numbers", "[I", 5, 3),
     (0, 15, "StretchedRows$Box", "height", "I", 5, 12)]
    [] (Lib.HandJ.method "<init>" "(ILStretchedRows$Container;I)V" [.int, .object "StretchedRows$Container", .int] none 0x0 4 prog_2_method_1_code) with
  methods := #[Lib.HandJ.method "<init>" "(ILStretchedRows$Container;I)V" [.int, .object "StretchedRows$Container", .int] none 0x0 4 prog_2_method_1_code,
    Lib.HandJ.method "findNaturalWidth" "()I" [] (some .int) 0x0 1 prog_2_method_2_code,
    Lib.HandJ.method "stack" "()V" [] none 0x0 1 prog_2_method_3_code],
  nestHost := some 2,
  super := some 5,
  instanceTypes := #[.int, .object "StretchedRows$Container", .int, .array .int, .boolean, .int, .int, .int, .boolean, .int, .int, .int, .int],
  fields := (Lib.HandW.fieldsFrom [] 13).toArray }
def wz1.c14 : Class := { su_own "java/lang/RuntimeException" 0x21
    [(1, 7, "java/lang/Exception", "<init>", "(Ljava/lang/String;)V", 10, 1)]
    [] ({ name := "<init>", desc := "()V", sig := { parameters := [], returnType := none }, accessFlags := 0x1, code := none }) with
  methods := #[{ name := "<init>", desc := "()V", sig := { parameters := [], returnType := none }, accessFlags := 0x1, code := none },
    Lib.HandJ.method "<init>" "(Ljava/lang/String;)V" [.object "java/lang/String"] none 0x1 2 prog_17_method_2_code],
  super := some 10,
  instanceTypes := #[.object "java/lang/Object", .object "java/lang/String", .object "java/lang/Throwable", .array (.object "java/lang/StackTraceElement"), .int, .object "java/util/List"],
  fields := (Lib.HandW.fieldsFrom [] 6).toArray }
def wz1.c15 : Class := suRes [(143, .cls 15), (73, .cls 15), (66, .cls 15), (108, .cls 15), (94, .cls 15), (122, .cls 15), (101, .cls 15)] <| { su_own "StretchedRows$Column" 0x30
    [(1, 3, "StretchedRows$Container", "<init>", "(ILStretchedRows$Container;I)V", 12, 0),
     (0, 9, "StretchedRows$Column", "shownCount", "I", 12, 1),
     (0, 15, "StretchedRows$Column", "shown", "[LStretchedRows$Node;", 12, 0),
     (0, 19, "StretchedRows$Node", "hypo", "I", 5, 7),
     (1, 24, "java/lang/Math", "max", "(II)I", 7, 1),
     (0, 30, "StretchedRows$Column", "laidCount", "I", 12, 3),
     (1, 33, "StretchedRows$Column", "putInLine", "(IZ)V", 12, 8),
     (0, 37, "StretchedRows$Column", "laid", "[LStretchedRows$Node;", 12, 2),
     (0, 40, "StretchedRows$Node", "numbers", "[I", 5, 3),
     (0, 44, "StretchedRows$Column", "inner", "I", 12, 6),
     (1, 47, "StretchedRows$Node", "clamped", "(I)I", 5, 9),
     (0, 51, "StretchedRows$Node", "width", "I", 5, 11),
     (0, 54, "StretchedRows$Column", "numbers", "[I", 5, 3),
     (1, 55, "StretchedRows", "shiftWithin", "(II)I", 2, 20),
     (0, 58, "StretchedRows$Node", "left", "I", 5, 9)]
    [] (Lib.HandJ.method "<init>" "(ILStretchedRows$Container;I)V" [.int, .object "StretchedRows$Container", .int] none 0x0 4 prog_3_method_1_code) with
  methods := #[Lib.HandJ.method "<init>" "(ILStretchedRows$Container;I)V" [.int, .object "StretchedRows$Container", .int] none 0x0 4 prog_3_method_1_code,
    Lib.HandJ.method "findNaturalInside" "()I" [] (some .int) 0x0 3 prog_3_method_2_code,
    Lib.HandJ.method "breakLines" "()V" [] none 0x0 2 prog_3_method_3_code,
    Lib.HandJ.method "spreadChildren" "()V" [] none 0x0 4 prog_3_method_4_code],
  nestHost := some 2,
  super := some 12,
  instanceTypes := #[.int, .object "StretchedRows$Container", .int, .array .int, .boolean, .int, .int, .int, .boolean, .int, .int, .int, .int, .array (.object "StretchedRows$Node"), .int, .array (.object "StretchedRows$Node"), .int, .array .int, .int, .int],
  fields := (Lib.HandW.fieldsFrom [] 20).toArray }
def wz1.c16 : Class := suRes [(212, .cls 16), (184, .cls 16), (170, .cls 16), (219, .cls 16), (205, .cls 16), (240, .cls 16), (198, .cls 16), (226, .cls 16), (177, .cls 16), (233, .cls 16)] <| { su_own "StretchedRows$Row" 0x30
    [(1, 3, "StretchedRows$Container", "<init>", "(ILStretchedRows$Container;I)V", 12, 0),
     (2, 9, "StretchedRows$Shares", "", "", 6, 0),
     (1, 11, "StretchedRows$Shares", "<init>", "(I)V", 6, 0),
     (0, 14, "StretchedRows$Row", "shares", "LStretchedRows$Shares;", 16, 0),
     (0, 20, "StretchedRows$Row", "asked", "[I", 16, 1),
     (0, 24, "StretchedRows$Row", "settled", "[Z", 16, 2),
     (0, 28, "StretchedRows$Row", "shownCount", "I", 12, 1),
     (1, 32, "StretchedRows$Row", "gapsAmong", "(I)I", 12, 5),
     (0, 36, "StretchedRows$Row", "shown", "[LStretchedRows$Node;", 12, 0),
     (0, 40, "StretchedRows$Node", "hypo", "I", 5, 7),
     (0, 45, "StretchedRows$Row", "lineCount", "I", 12, 5),
     (0, 48, "StretchedRows$Row", "laidCount", "I", 12, 3),
     (0, 51, "StretchedRows$Row", "numbers", "[I", 5, 3),
     (0, 54, "StretchedRows$Row", "laid", "[LStretchedRows$Node;", 12, 2),
     (0, 57, "StretchedRows$Row", "inner", "I", 12, 6),
     (1, 60, "StretchedRows$Row", "putInLine", "(IZ)V", 12, 8),
     (0, 64, "StretchedRows$Row", "lineEnds", "[I", 12, 4),
     (1, 67, "StretchedRows$Row", "fitLine", "(II)V", 16, 5),
     (1, 71, "StretchedRows$Row", "justifyLine", "(II)V", 16, 11),
     (0, 74, "StretchedRows$Node", "width", "I", 5, 11),
     (1, 77, "StretchedRows$Row", "settleFixed", "(IIZ)V", 16, 6),
     (1, 81, "StretchedRows$Row", "hasUnsettled", "(II)Z", 16, 7),
     (1, 85, "StretchedRows$Row", "settleRound", "(IIIZ)V", 16, 8),
     (0, 89, "StretchedRows$Node", "numbers", "[I", 5, 3),
     (0, 90, "StretchedRows$Node", "base", "I", 5, 6),
     (0, 93, "StretchedRows$Shares", "weights", "[J", 6, 0),
     (1, 97, "StretchedRows$Row", "weightOf", "(LStretchedRows$Node;Z)J", 16, 9),
     (1, 101, "StretchedRows$Shares", "deal", "(III)V", 6, 1),
     (0, 105, "StretchedRows$Shares", "parts", "[I", 6, 1),
     (1, 108, "StretchedRows$Node", "clamped", "(I)I", 5, 9),
     (1, 111, "StretchedRows$Row", "settleClamped", "(III)V", 16, 10),
     (1, 114, "java/lang/Math", "max", "(II)I", 7, 1),
     (1, 120, "StretchedRows$Row", "justifyShift", "(III)I", 16, 12),
     (0, 124, "StretchedRows$Node", "left", "I", 5, 9),
     (1, 127, "StretchedRows", "shiftWithin", "(II)I", 2, 20)]
    [("shares", .object "StretchedRows$Shares", 0x10), ("asked", .array .int, 0x10), ("settled", .array .boolean, 0x10)] (Lib.HandJ.method "<init>" "(ILStretchedRows$Container;I)V" [.int, .object "StretchedRows$Container", .int] none 0x0 4 prog_7_method_1_code) with
  methods := #[Lib.HandJ.method "<init>" "(ILStretchedRows$Container;I)V" [.int, .object "StretchedRows$Container", .int] none 0x0 4 prog_7_method_1_code,
    Lib.HandJ.method "findNaturalInside" "()I" [] (some .int) 0x0 3 prog_7_method_2_code,
    Lib.HandJ.method "brokenInto" "()I" [] (some .int) 0x0 1 prog_7_method_3_code,
    Lib.HandJ.method "breakLines" "()V" [] none 0x0 5 prog_7_method_4_code,
    Lib.HandJ.method "spreadChildren" "()V" [] none 0x0 4 prog_7_method_5_code,
    Lib.HandJ.method "fitLine" "(II)V" [.int, .int] none 0x2 7 prog_7_method_6_code,
    Lib.HandJ.method "settleFixed" "(IIZ)V" [.int, .int, .boolean] none 0x2 6 prog_7_method_7_code,
    Lib.HandJ.method "hasUnsettled" "(II)Z" [.int, .int] (some .boolean) 0x2 4 prog_7_method_8_code,
    Lib.HandJ.method "settleRound" "(IIIZ)V" [.int, .int, .int, .boolean] none 0x2 9 prog_7_method_9_code,
    Lib.HandJ.method "weightOf" "(LStretchedRows$Node;Z)J" [.object "StretchedRows$Node", .boolean] (some .long) 0xa 2 prog_7_method_10_code,
    Lib.HandJ.method "settleClamped" "(III)V" [.int, .int, .int] none 0x2 6 prog_7_method_11_code,
    Lib.HandJ.method "justifyLine" "(II)V" [.int, .int] none 0x2 7 prog_7_method_12_code,
    Lib.HandJ.method "justifyShift" "(III)I" [.int, .int, .int] (some .int) 0x2 4 prog_7_method_13_code],
  nestHost := some 2,
  super := some 12,
  instanceTypes := #[.int, .object "StretchedRows$Container", .int, .array .int, .boolean, .int, .int, .int, .boolean, .int, .int, .int, .int, .array (.object "StretchedRows$Node"), .int, .array (.object "StretchedRows$Node"), .int, .array .int, .int, .int, .object "StretchedRows$Shares", .array .int, .array .boolean],
  fields := (Lib.HandW.fieldsFrom [("shares", .object "StretchedRows$Shares", 0x10), ("asked", .array .int, 0x10), ("settled", .array .boolean, 0x10)] 20).toArray }
def wz1.c17 : Class := suRes [(238, .cls 17), (196, .cls 17), (189, .cls 17), (245, .cls 17), (217, .cls 17), (210, .cls 17), (273, .cls 17), (175, .cls 17), (224, .cls 17)] <| { su_own "StretchedRows$Grid" 0x30
    [(1, 3, "StretchedRows$Container", "<init>", "(ILStretchedRows$Container;I)V", 12, 0),
     (0, 9, "StretchedRows$Grid", "isShare", "[Z", 17, 0),
     (0, 15, "StretchedRows$Grid", "trackNumbers", "[I", 17, 1),
     (0, 19, "StretchedRows$Grid", "trackWidths", "[I", 17, 2),
     (2, 22, "StretchedRows$Shares", "", "", 6, 0),
     (1, 24, "StretchedRows$Shares", "<init>", "(I)V", 6, 0),
     (0, 27, "StretchedRows$Grid", "shares", "LStretchedRows$Shares;", 17, 4),
     (0, 31, "StretchedRows$Grid", "trackCount", "I", 17, 3),
     (1, 35, "java/lang/Math", "max", "(II)I", 7, 1),
     (1, 41, "StretchedRows$Grid", "tracksInUse", "()I", 17, 2),
     (1, 45, "StretchedRows$Grid", "gapsAmong", "(I)I", 12, 5),
     (1, 49, "StretchedRows$Grid", "greatestHypo", "(II)I", 17, 4),
     (0, 52, "StretchedRows$Grid", "shownCount", "I", 12, 1),
     (0, 55, "StretchedRows$Grid", "shown", "[LStretchedRows$Node;", 12, 0),
     (0, 59, "StretchedRows$Node", "hypo", "I", 5, 7),
     (0, 64, "StretchedRows$Grid", "lineCount", "I", 12, 5),
     (0, 67, "StretchedRows$Grid", "laidCount", "I", 12, 3),
     (1, 70, "StretchedRows$Grid", "putInLine", "(IZ)V", 12, 8),
     (1, 74, "StretchedRows$Grid", "widenTracks", "()V", 17, 8),
     (0, 78, "StretchedRows$Grid", "numbers", "[I", 5, 3),
     (0, 81, "StretchedRows$Grid", "laid", "[LStretchedRows$Node;", 12, 2),
     (1, 84, "StretchedRows$Node", "clamped", "(I)I", 5, 9),
     (0, 87, "StretchedRows$Node", "width", "I", 5, 11),
     (0, 90, "StretchedRows$Node", "left", "I", 5, 9),
     (0, 93, "StretchedRows$Grid", "inner", "I", 12, 6),
     (0, 96, "StretchedRows$Shares", "weights", "[J", 6, 0),
     (1, 100, "StretchedRows$Shares", "deal", "(III)V", 6, 1),
     (0, 104, "StretchedRows$Shares", "parts", "[I", 6, 1)]
    [("isShare", .array .boolean, 0x10), ("trackNumbers", .array .int, 0x10), ("trackWidths", .array .int, 0x10), ("trackCount", .int, 0x0), ("shares", .object "StretchedRows$Shares", 0x10)] (Lib.HandJ.method "<init>" "(ILStretchedRows$Container;I)V" [.int, .object "StretchedRows$Container", .int] none 0x0 4 prog_5_method_1_code) with
  methods := #[Lib.HandJ.method "<init>" "(ILStretchedRows$Container;I)V" [.int, .object "StretchedRows$Container", .int] none 0x0 4 prog_5_method_1_code,
    Lib.HandJ.method "addTrack" "(ZI)V" [.boolean, .int] none 0x0 3 prog_5_method_2_code,
    Lib.HandJ.method "tracksInUse" "()I" [] (some .int) 0x2 1 prog_5_method_3_code,
    Lib.HandJ.method "findNaturalInside" "()I" [] (some .int) 0x0 4 prog_5_method_4_code,
    Lib.HandJ.method "greatestHypo" "(II)I" [.int, .int] (some .int) 0x2 5 prog_5_method_5_code,
    Lib.HandJ.method "brokenInto" "()I" [] (some .int) 0x0 1 prog_5_method_6_code,
    Lib.HandJ.method "breakLines" "()V" [] none 0x0 3 prog_5_method_7_code,
    Lib.HandJ.method "spreadChildren" "()V" [] none 0x0 5 prog_5_method_8_code,
    Lib.HandJ.method "widenTracks" "()V" [] none 0x2 4 prog_5_method_9_code],
  nestHost := some 2,
  super := some 12,
  instanceTypes := #[.int, .object "StretchedRows$Container", .int, .array .int, .boolean, .int, .int, .int, .boolean, .int, .int, .int, .int, .array (.object "StretchedRows$Node"), .int, .array (.object "StretchedRows$Node"), .int, .array .int, .int, .int, .array .boolean, .array .int, .array .int, .int, .object "StretchedRows$Shares"],
  fields := (Lib.HandW.fieldsFrom [("isShare", .array .boolean, 0x10), ("trackNumbers", .array .int, 0x10), ("trackWidths", .array .int, 0x10), ("trackCount", .int, 0x0), ("shares", .object "StretchedRows$Shares", 0x10)] 20).toArray }
def wz1.c18 : Class := { su_own "java/lang/IllegalArgumentException" 0x21
    [(1, 7, "java/lang/RuntimeException", "<init>", "(Ljava/lang/String;)V", 14, 1)]
    [] (Lib.HandJ.method "<init>" "(Ljava/lang/String;)V" [.object "java/lang/String"] none 0x1 2 prog_14_method_2_code) with
  methods := #[Lib.HandJ.method "<init>" "(Ljava/lang/String;)V" [.object "java/lang/String"] none 0x1 2 prog_14_method_2_code],
  super := some 14,
  instanceTypes := #[.object "java/lang/Object", .object "java/lang/String", .object "java/lang/Throwable", .array (.object "java/lang/StackTraceElement"), .int, .object "java/util/List"],
  fields := (Lib.HandW.fieldsFrom [] 6).toArray }
def wz1.c19 : Class := { su_own "java/lang/IllegalStateException" 0x21
    [(1, 7, "java/lang/RuntimeException", "<init>", "(Ljava/lang/String;)V", 14, 1)]
    [] (Lib.HandJ.method "<init>" "(Ljava/lang/String;)V" [.object "java/lang/String"] none 0x1 2 prog_15_method_2_code) with
  methods := #[Lib.HandJ.method "<init>" "(Ljava/lang/String;)V" [.object "java/lang/String"] none 0x1 2 prog_15_method_2_code],
  super := some 14,
  instanceTypes := #[.object "java/lang/Object", .object "java/lang/String", .object "java/lang/Throwable", .array (.object "java/lang/StackTraceElement"), .int, .object "java/util/List"],
  fields := (Lib.HandW.fieldsFrom [] 6).toArray }
def wz1.cPrim (name : String) (ch : Char) : Class := { Lib.HandJ.cls name #[] #[] 0x411 #[] #[] #[] with kind := .primitive ch, cf := none }
def wz1.cArr (name : String) (prim : Nat) (t : FieldType) : Class := { Lib.HandJ.cls name #[] #[] 0x411 #[] #[] #[] with kind := .array prim t, super := some 1, cf := none }
def wz1.args0 : Array Value := #[.ref 0]
def wz1.cells0 : Array Value := #[.int 0, .int (-1), .int 0, .int 0]
def wz1.aboutOf (script : Array Value) : State where
  vm := { classes := #[c0, cObjectC, c2, c3, c4, c5, c6, c7, c8, c9, c10, c11, c12, c13, c14, c15, c16, c17, c18, c19, cPrim "int" 'I', { cArr "[I" 20 .int with interfaces := #[9] }, cPrim "byte" 'B', { cArr "[B" 22 .byte with interfaces := #[9] }, cPrim "long" 'J', { cArr "[J" 24 .long with interfaces := #[9] }, cPrim "boolean" 'Z', { cArr "[Z" 26 .boolean with interfaces := #[9] }, { cArr "[LStretchedRows$Node;" 5 (.object "StretchedRows$Node") with interfaces := #[9] }, { cArr "another" 20 .int with super := none }] }
  heap := #[{ cls := 21, slots := script, vm := .none }, { cls := 2, slots := #[.int 0, .int 0, .int 0, .int 0, .int 0, .int 0, .int 0, .int 0, .int 0, .int 0, .int 0, .int 0, .int 0, .int 0, .int 0, .int 0, .int 0, .int 0, .int 0, .int 0, .int 0, .int 0, .int 0, .int 0, .int 0, .int 0, .int 0, .int 0, .int 0, .int 0, .int 0, .int 0, .int 0, .int 0, .int 0, .ref 4, .ref 5, .ref 3], vm := .statics 2 }, { cls := 4, slots := #[.long 0, .null, .null, .null, .null, .null, .null, .null, .int 0], vm := .statics 4 }, { cls := 29, slots := #[.int (0), .int (1), .int (-1), .int (0), .int (1000), .int (0), .int (0), .int (0), .int (0), .int (0), .int (0), .int (0), .int (1), .int (0)], vm := .none }, { cls := 21, slots := #[.int (0), .int (0), .int (-1), .int (0), .int (0), .int (0), .int (-9), .int (0), .int (0), .int (0), .int (0), .int (0), .int (0), .int (0)], vm := .none }, { cls := 21, slots := #[.int (9), .int (9), .int (500), .int (500), .int (1000), .int (3), .int (9), .int (1), .int (500), .int (500), .int (50), .int (50), .int (3), .int (1)], vm := .none }, { cls := 8, slots := #[.ref 7, .int 0, .int 0, .int 0], vm := .none }, { cls := 23, slots := #[.int 110, .int 111, .int 32, .int 115, .int 117, .int 99, .int 104, .int 32, .int 107, .int 105, .int 110, .int 100], vm := .none }, { cls := 8, slots := #[.ref 9, .int 0, .int 0, .int 0], vm := .none }, { cls := 23, slots := #[.int 110, .int 111, .int 32, .int 115, .int 117, .int 99, .int 104, .int 32, .int 112, .int 97, .int 114, .int 101, .int 110, .int 116], vm := .none }, { cls := 8, slots := #[.ref 11, .int 0, .int 0, .int 0], vm := .none }, { cls := 23, slots := #[.int 110, .int 111, .int 32, .int 114, .int 111, .int 111, .int 109, .int 32, .int 102, .int 111, .int 114, .int 32, .int 97, .int 32, .int 110, .int 111, .int 100, .int 101], vm := .none }, { cls := 8, slots := #[.ref 13, .int 0, .int 0, .int 0], vm := .none }, { cls := 23, slots := #[.int 110, .int 111, .int 32, .int 115, .int 117, .int 99, .int 104, .int 32, .int 110, .int 111, .int 100, .int 101], vm := .none }, { cls := 8, slots := #[.ref 15, .int 0, .int 0, .int 0], vm := .none }, { cls := 23, slots := #[.int 110, .int 111, .int 32, .int 115, .int 117, .int 99, .int 104, .int 32, .int 110, .int 117, .int 109, .int 98, .int 101, .int 114], vm := .none }, { cls := 8, slots := #[.ref 17, .int 0, .int 0, .int 0], vm := .none }, { cls := 23, slots := #[.int 116, .int 104, .int 101, .int 32, .int 110, .int 117, .int 109, .int 98, .int 101, .int 114, .int 32, .int 105, .int 115, .int 32, .int 111, .int 117, .int 116, .int 32, .int 111, .int 102, .int 32, .int 105, .int 116, .int 115, .int 32, .int 114, .int 97, .int 110, .int 103, .int 101], vm := .none }, { cls := 8, slots := #[.ref 19, .int 0, .int 0, .int 0], vm := .none }, { cls := 23, slots := #[.int 116, .int 104, .int 101, .int 32, .int 119, .int 105, .int 100, .int 116, .int 104, .int 32, .int 105, .int 115, .int 32, .int 111, .int 117, .int 116, .int 32, .int 111, .int 102, .int 32, .int 105, .int 116, .int 115, .int 32, .int 114, .int 97, .int 110, .int 103, .int 101], vm := .none }, { cls := 8, slots := #[.ref 21, .int 0, .int 0, .int 0], vm := .none }, { cls := 23, slots := #[.int 110, .int 111, .int 32, .int 114, .int 111, .int 111, .int 109, .int 32, .int 102, .int 111, .int 114, .int 32, .int 97, .int 32, .int 119, .int 111, .int 114, .int 100], vm := .none }, { cls := 8, slots := #[.ref 23, .int 0, .int 0, .int 0], vm := .none }, { cls := 23, slots := #[.int 110, .int 111, .int 32, .int 115, .int 117, .int 99, .int 104, .int 32, .int 116, .int 101, .int 120, .int 116], vm := .none }, { cls := 8, slots := #[.ref 25, .int 0, .int 0, .int 0], vm := .none }, { cls := 23, slots := #[.int 110, .int 111, .int 32, .int 114, .int 111, .int 111, .int 109, .int 32, .int 102, .int 111, .int 114, .int 32, .int 97, .int 32, .int 116, .int 114, .int 97, .int 99, .int 107], vm := .none }, { cls := 8, slots := #[.ref 27, .int 0, .int 0, .int 0], vm := .none }, { cls := 23, slots := #[.int 110, .int 111, .int 32, .int 115, .int 117, .int 99, .int 104, .int 32, .int 103, .int 114, .int 105, .int 100], vm := .none }, { cls := 8, slots := #[.ref 29, .int 0, .int 0, .int 0], vm := .none }, { cls := 23, slots := #[.int 110, .int 111, .int 116, .int 104, .int 105, .int 110, .int 103, .int 32, .int 116, .int 111, .int 32, .int 108, .int 97, .int 121, .int 32, .int 111, .int 117, .int 116], vm := .none }, { cls := 8, slots := #[.ref 31, .int 0, .int 0, .int 0], vm := .none }, { cls := 23, slots := #[.int 116, .int 104, .int 101, .int 32, .int 110, .int 111, .int 100, .int 101, .int 32, .int 105, .int 115, .int 32, .int 110, .int 111, .int 116, .int 32, .int 108, .int 97, .int 105, .int 100, .int 32, .int 111, .int 117, .int 116], vm := .none }, { cls := 8, slots := #[.ref 33, .int 0, .int 0, .int 0], vm := .none }, { cls := 23, slots := #[.int 110, .int 111, .int 32, .int 115, .int 117, .int 99, .int 104, .int 32, .int 109, .int 101, .int 97, .int 115, .int 117, .int 114, .int 101], vm := .none }]
  slotsUsed := script.size + 392
  threads := #[{ frames := .invoking ⟨0, 0⟩ args0 :: Lib.HandBits.below0 }]

def wz1.about : State := aboutOf cells0
def wz1.p0 : Program := .bare "" "" ""
def wz1.e0 : Env := launch0.env 0 0 0
theorem wz1.word_code : (Cond.code x code maxLocals ret).before args0 about = true := su_hand_word (m := ⟨0, 0⟩) (by decide +kernel) rfl (by decide +kernel) (by decide +kernel)
theorem wz1.su_all_split {α : Type} (p : α → Bool) (n : Nat) (l : List α) (h1 : (l.take n).all p = true) (h2 : (l.drop n).all p = true) : l.all p = true := by
  apply List.all_eq_true.mpr
  intro x hx
  have hx' : x ∈ l.take n ++ l.drop n := by rw [List.take_append_drop]; exact hx
  rcases List.mem_append.mp hx' with h | h
  · exact List.all_eq_true.mp h1 x h
  · exact List.all_eq_true.mp h2 x h

theorem wz1.code0 : (Jvm.Cond.code (⟨"StretchedRows", "<init>", "()V"⟩ : Jvm.MethodName) prog_1_method_1_code 1 none).before args0 about = true :=
  su_hand_word (m := ⟨2, 0⟩) (by decide +kernel) rfl (by decide +kernel) (by decide +kernel)
theorem wz1.code1 : (Jvm.Cond.code (⟨"java/lang/Object", "<init>", "()V"⟩ : Jvm.MethodName) object_method_1_code 1 none).before args0 about = true :=
  su_hand_word (m := ⟨1, 0⟩) (by decide +kernel) rfl (by decide +kernel) (by decide +kernel)
theorem wz1.code2 : (Jvm.Cond.code (⟨"StretchedRows", "at", "(II)I"⟩ : Jvm.MethodName) prog_1_method_10_code 6 (some .int)).before args0 about = true :=
  su_hand_word (m := ⟨2, 9⟩) (by decide +kernel) rfl (by decide +kernel) (by decide +kernel)
theorem wz1.code3 : (Jvm.Cond.code (⟨"StretchedRows$Node", "covers", "(II)Z"⟩ : Jvm.MethodName) prog_6_method_12_code 3 (some .boolean)).before args0 about = true :=
  su_hand_word (m := ⟨5, 11⟩) (by decide +kernel) rfl (by decide +kernel) (by decide +kernel)
theorem wz1.code4 : (Jvm.Cond.code (⟨"StretchedRows$Container", "lastChildAt", "(II)LStretchedRows$Node;"⟩ : Jvm.MethodName) prog_4_method_13_code 4 (some (.object "StretchedRows$Node"))).before args0 about = true :=
  su_hand_word (m := ⟨12, 12⟩) (by decide +kernel) rfl (by decide +kernel) (by decide +kernel)
theorem wz1.code5 : (Jvm.Cond.code (⟨"StretchedRows$Node", "lastChildAt", "(II)LStretchedRows$Node;"⟩ : Jvm.MethodName) prog_6_method_6_code 3 (some (.object "StretchedRows$Node"))).before args0 about = true :=
  su_hand_word (m := ⟨5, 5⟩) (by decide +kernel) rfl (by decide +kernel) (by decide +kernel)
theorem wz1.code6 : (Jvm.Cond.code (⟨"StretchedRows", "nodes", "()I"⟩ : Jvm.MethodName) prog_1_method_12_code 1 (some .int)).before args0 about = true :=
  su_hand_word (m := ⟨2, 11⟩) (by decide +kernel) rfl (by decide +kernel) (by decide +kernel)
theorem wz1.code7 : (Jvm.Cond.code (⟨"StretchedRows", "node", "(II)I"⟩ : Jvm.MethodName) prog_1_method_2_code 6 (some .int)).before args0 about = true :=
  su_hand_word (m := ⟨2, 1⟩) (by decide +kernel) rfl (by decide +kernel) (by decide +kernel)
theorem wz1.code8 : (Jvm.Cond.code (⟨"StretchedRows", "isOutside", "(III)Z"⟩ : Jvm.MethodName) prog_1_method_13_code 3 (some .boolean)).before args0 about = true :=
  su_hand_word (m := ⟨2, 12⟩) (by decide +kernel) rfl (by decide +kernel) (by decide +kernel)
theorem wz1.code9 : (Jvm.Cond.code (⟨"java/lang/Throwable", "<init>", "()V"⟩ : Jvm.MethodName) prog_19_method_1_code 1 none).before args0 about = true :=
  su_hand_word (m := ⟨4, 0⟩) (by decide +kernel) rfl (by decide +kernel) (by decide +kernel)
theorem wz1.code10 : (Jvm.Cond.code (⟨"java/lang/IllegalArgumentException", "<init>", "(Ljava/lang/String;)V"⟩ : Jvm.MethodName) prog_14_method_2_code 2 none).before args0 about = true :=
  su_hand_word (m := ⟨18, 0⟩) (by decide +kernel) rfl (by decide +kernel) (by decide +kernel)
theorem wz1.code11 : (Jvm.Cond.code (⟨"java/lang/RuntimeException", "<init>", "(Ljava/lang/String;)V"⟩ : Jvm.MethodName) prog_17_method_2_code 2 none).before args0 about = true :=
  su_hand_word (m := ⟨14, 1⟩) (by decide +kernel) rfl (by decide +kernel) (by decide +kernel)
theorem wz1.code12 : (Jvm.Cond.code (⟨"java/lang/Exception", "<init>", "(Ljava/lang/String;)V"⟩ : Jvm.MethodName) prog_13_method_2_code 2 none).before args0 about = true :=
  su_hand_word (m := ⟨10, 1⟩) (by decide +kernel) rfl (by decide +kernel) (by decide +kernel)
theorem wz1.code13 : (Jvm.Cond.code (⟨"java/lang/Throwable", "<init>", "(Ljava/lang/String;)V"⟩ : Jvm.MethodName) prog_19_method_2_code 2 none).before args0 about = true :=
  su_hand_word (m := ⟨4, 1⟩) (by decide +kernel) rfl (by decide +kernel) (by decide +kernel)
theorem wz1.code14 : (Jvm.Cond.code (⟨"StretchedRows", "findContainer", "(I)LStretchedRows$Container;"⟩ : Jvm.MethodName) prog_1_method_15_code 4 (some (.object "StretchedRows$Container"))).before args0 about = true :=
  su_hand_word (m := ⟨2, 14⟩) (by decide +kernel) rfl (by decide +kernel) (by decide +kernel)
theorem wz1.code15 : (Jvm.Cond.code (⟨"StretchedRows", "findNode", "(I)LStretchedRows$Node;"⟩ : Jvm.MethodName) prog_1_method_14_code 3 (some (.object "StretchedRows$Node"))).before args0 about = true :=
  su_hand_word (m := ⟨2, 13⟩) (by decide +kernel) rfl (by decide +kernel) (by decide +kernel)
theorem wz1.code16 : (Jvm.Cond.code (⟨"java/lang/IllegalStateException", "<init>", "(Ljava/lang/String;)V"⟩ : Jvm.MethodName) prog_15_method_2_code 2 none).before args0 about = true :=
  su_hand_word (m := ⟨19, 0⟩) (by decide +kernel) rfl (by decide +kernel) (by decide +kernel)
theorem wz1.code17 : (Jvm.Cond.code (⟨"StretchedRows", "newNode", "(IILStretchedRows$Container;I)LStretchedRows$Node;"⟩ : Jvm.MethodName) prog_1_method_17_code 4 (some (.object "StretchedRows$Node"))).before args0 about = true :=
  su_hand_word (m := ⟨2, 16⟩) (by decide +kernel) rfl (by decide +kernel) (by decide +kernel)
theorem wz1.code18 : (Jvm.Cond.code (⟨"StretchedRows$Text", "<init>", "(ILStretchedRows$Container;I)V"⟩ : Jvm.MethodName) prog_9_method_1_code 4 none).before args0 about = true :=
  su_hand_word (m := ⟨11, 0⟩) (by decide +kernel) rfl (by decide +kernel) (by decide +kernel)
theorem wz1.code19 : (Jvm.Cond.code (⟨"StretchedRows$Node", "<init>", "(ILStretchedRows$Container;I)V"⟩ : Jvm.MethodName) prog_6_method_1_code 4 none).before args0 about = true :=
  su_hand_word (m := ⟨5, 0⟩) (by decide +kernel) rfl (by decide +kernel) (by decide +kernel)

set_option maxRecDepth 16384 in
theorem wz1.codes_are_1 : tables_1_1.filter su_isCode = [Jvm.Cond.code (⟨"StretchedRows", "<init>", "()V"⟩ : Jvm.MethodName) prog_1_method_1_code 1 none,
    Jvm.Cond.code (⟨"java/lang/Object", "<init>", "()V"⟩ : Jvm.MethodName) object_method_1_code 1 none,
    Jvm.Cond.code (⟨"StretchedRows", "at", "(II)I"⟩ : Jvm.MethodName) prog_1_method_10_code 6 (some .int),
    Jvm.Cond.code (⟨"StretchedRows$Node", "covers", "(II)Z"⟩ : Jvm.MethodName) prog_6_method_12_code 3 (some .boolean),
    Jvm.Cond.code (⟨"StretchedRows$Container", "lastChildAt", "(II)LStretchedRows$Node;"⟩ : Jvm.MethodName) prog_4_method_13_code 4 (some (.object "StretchedRows$Node")),
    Jvm.Cond.code (⟨"StretchedRows$Node", "lastChildAt", "(II)LStretchedRows$Node;"⟩ : Jvm.MethodName) prog_6_method_6_code 3 (some (.object "StretchedRows$Node")),
    Jvm.Cond.code (⟨"StretchedRows", "nodes", "()I"⟩ : Jvm.MethodName) prog_1_method_12_code 1 (some .int),
    Jvm.Cond.code (⟨"StretchedRows", "node", "(II)I"⟩ : Jvm.MethodName) prog_1_method_2_code 6 (some .int),
    Jvm.Cond.code (⟨"StretchedRows", "isOutside", "(III)Z"⟩ : Jvm.MethodName) prog_1_method_13_code 3 (some .boolean),
    Jvm.Cond.code (⟨"java/lang/Throwable", "<init>", "()V"⟩ : Jvm.MethodName) prog_19_method_1_code 1 none,
    Jvm.Cond.code (⟨"java/lang/IllegalArgumentException", "<init>", "(Ljava/lang/String;)V"⟩ : Jvm.MethodName) prog_14_method_2_code 2 none,
    Jvm.Cond.code (⟨"java/lang/RuntimeException", "<init>", "(Ljava/lang/String;)V"⟩ : Jvm.MethodName) prog_17_method_2_code 2 none,
    Jvm.Cond.code (⟨"java/lang/Exception", "<init>", "(Ljava/lang/String;)V"⟩ : Jvm.MethodName) prog_13_method_2_code 2 none,
    Jvm.Cond.code (⟨"java/lang/Throwable", "<init>", "(Ljava/lang/String;)V"⟩ : Jvm.MethodName) prog_19_method_2_code 2 none,
    Jvm.Cond.code (⟨"StretchedRows", "findContainer", "(I)LStretchedRows$Container;"⟩ : Jvm.MethodName) prog_1_method_15_code 4 (some (.object "StretchedRows$Container")),
    Jvm.Cond.code (⟨"StretchedRows", "findNode", "(I)LStretchedRows$Node;"⟩ : Jvm.MethodName) prog_1_method_14_code 3 (some (.object "StretchedRows$Node")),
    Jvm.Cond.code (⟨"java/lang/IllegalStateException", "<init>", "(Ljava/lang/String;)V"⟩ : Jvm.MethodName) prog_15_method_2_code 2 none,
    Jvm.Cond.code (⟨"StretchedRows", "newNode", "(IILStretchedRows$Container;I)LStretchedRows$Node;"⟩ : Jvm.MethodName) prog_1_method_17_code 4 (some (.object "StretchedRows$Node")),
    Jvm.Cond.code (⟨"StretchedRows$Text", "<init>", "(ILStretchedRows$Container;I)V"⟩ : Jvm.MethodName) prog_9_method_1_code 4 none,
    Jvm.Cond.code (⟨"StretchedRows$Node", "<init>", "(ILStretchedRows$Container;I)V"⟩ : Jvm.MethodName) prog_6_method_1_code 4 none] := by
  first
  | rfl
  | simp only [tables_1_1, List.filter, su_isCode]
theorem wz1.codes_hold_1 : ∀ c ∈ tables_1_1.filter su_isCode, c.before args0 about = true := by
  rw [codes_are_1]
  exact List.forall_mem_cons.mpr ⟨code0, List.forall_mem_cons.mpr ⟨code1, List.forall_mem_cons.mpr ⟨code2, List.forall_mem_cons.mpr ⟨code3, List.forall_mem_cons.mpr ⟨code4, List.forall_mem_cons.mpr ⟨code5, List.forall_mem_cons.mpr ⟨code6, List.forall_mem_cons.mpr ⟨code7, List.forall_mem_cons.mpr ⟨code8, List.forall_mem_cons.mpr ⟨code9, List.forall_mem_cons.mpr ⟨code10, List.forall_mem_cons.mpr ⟨code11, List.forall_mem_cons.mpr ⟨code12, List.forall_mem_cons.mpr ⟨code13, List.forall_mem_cons.mpr ⟨code14, List.forall_mem_cons.mpr ⟨code15, List.forall_mem_cons.mpr ⟨code16, List.forall_mem_cons.mpr ⟨code17, List.forall_mem_cons.mpr ⟨code18, List.forall_mem_cons.mpr ⟨code19, List.forall_mem_nil _⟩⟩⟩⟩⟩⟩⟩⟩⟩⟩⟩⟩⟩⟩⟩⟩⟩⟩⟩⟩
set_option maxRecDepth 16384 in
theorem wz1.others_1_0 : (tables_1_1.take 40).all (fun c => su_isCode c || c.before args0 about) = true := by decide +kernel
set_option maxRecDepth 16384 in
theorem wz1.others_1_1 : ((tables_1_1.drop 40).take 40).all (fun c => su_isCode c || c.before args0 about) = true := by decide +kernel

set_option maxRecDepth 16384 in
theorem wz1.others_1_2 : (((tables_1_1.drop 40).drop 40).take 40).all (fun c => su_isCode c || c.before args0 about) = true := by decide +kernel
set_option maxRecDepth 16384 in
theorem wz1.others_1_3 : ((((tables_1_1.drop 40).drop 40).drop 40).take 40).all (fun c => su_isCode c || c.before args0 about) = true := by decide +kernel

set_option maxRecDepth 16384 in
theorem wz1.others_1_4 : (((((tables_1_1.drop 40).drop 40).drop 40).drop 40).take 40).all (fun c => su_isCode c || c.before args0 about) = true := by decide +kernel
set_option maxRecDepth 16384 in
theorem wz1.others_1_5 : (((((tables_1_1.drop 40).drop 40).drop 40).drop 40).drop 40).all (fun c => su_isCode c || c.before args0 about) = true := by decide +kernel
theorem wz1.others_hold_1 : tables_1_1.all (fun c => su_isCode c || c.before args0 about) = true := su_all_split _ 40 tables_1_1 others_1_0 (su_all_split _ 40 (tables_1_1.drop 40) others_1_1 (su_all_split _ 40 ((tables_1_1.drop 40).drop 40) others_1_2 (su_all_split _ 40 (((tables_1_1.drop 40).drop 40).drop 40) others_1_3 (su_all_split _ 40 ((((tables_1_1.drop 40).drop 40).drop 40).drop 40) others_1_4 others_1_5))))
theorem wz1.words_1 : ∀ c ∈ tables_1_1, c.before args0 about = true := fun c h => su_words others_hold_1 codes_hold_1 c h

theorem wz1.code20 : (Jvm.Cond.code (⟨"StretchedRows$Column", "<init>", "(ILStretchedRows$Container;I)V"⟩ : Jvm.MethodName) prog_3_method_1_code 4 none).before args0 about = true :=
  su_hand_word (m := ⟨15, 0⟩) (by decide +kernel) rfl (by decide +kernel) (by decide +kernel)
theorem wz1.code21 : (Jvm.Cond.code (⟨"StretchedRows$Container", "<init>", "(ILStretchedRows$Container;I)V"⟩ : Jvm.MethodName) prog_4_method_1_code 4 none).before args0 about = true :=
  su_hand_word (m := ⟨12, 0⟩) (by decide +kernel) rfl (by decide +kernel) (by decide +kernel)
theorem wz1.code22 : (Jvm.Cond.code (⟨"StretchedRows$Row", "<init>", "(ILStretchedRows$Container;I)V"⟩ : Jvm.MethodName) prog_7_method_1_code 4 none).before args0 about = true :=
  su_hand_word (m := ⟨16, 0⟩) (by decide +kernel) rfl (by decide +kernel) (by decide +kernel)
theorem wz1.code23 : (Jvm.Cond.code (⟨"StretchedRows$Shares", "<init>", "(I)V"⟩ : Jvm.MethodName) prog_8_method_1_code 2 none).before args0 about = true :=
  su_hand_word (m := ⟨6, 0⟩) (by decide +kernel) rfl (by decide +kernel) (by decide +kernel)
theorem wz1.code24 : (Jvm.Cond.code (⟨"StretchedRows$Grid", "<init>", "(ILStretchedRows$Container;I)V"⟩ : Jvm.MethodName) prog_5_method_1_code 4 none).before args0 about = true :=
  su_hand_word (m := ⟨17, 0⟩) (by decide +kernel) rfl (by decide +kernel) (by decide +kernel)

set_option maxRecDepth 16384 in
theorem wz1.codes_are_2 : tables_1_2.filter su_isCode = [Jvm.Cond.code (⟨"StretchedRows$Column", "<init>", "(ILStretchedRows$Container;I)V"⟩ : Jvm.MethodName) prog_3_method_1_code 4 none,
    Jvm.Cond.code (⟨"StretchedRows$Container", "<init>", "(ILStretchedRows$Container;I)V"⟩ : Jvm.MethodName) prog_4_method_1_code 4 none,
    Jvm.Cond.code (⟨"StretchedRows$Row", "<init>", "(ILStretchedRows$Container;I)V"⟩ : Jvm.MethodName) prog_7_method_1_code 4 none,
    Jvm.Cond.code (⟨"StretchedRows$Shares", "<init>", "(I)V"⟩ : Jvm.MethodName) prog_8_method_1_code 2 none,
    Jvm.Cond.code (⟨"StretchedRows$Grid", "<init>", "(ILStretchedRows$Container;I)V"⟩ : Jvm.MethodName) prog_5_method_1_code 4 none] := by
  first
  | rfl
  | simp only [tables_1_2, List.filter, su_isCode]
theorem wz1.codes_hold_2 : ∀ c ∈ tables_1_2.filter su_isCode, c.before args0 about = true := by
  rw [codes_are_2]
  exact List.forall_mem_cons.mpr ⟨code20, List.forall_mem_cons.mpr ⟨code21, List.forall_mem_cons.mpr ⟨code22, List.forall_mem_cons.mpr ⟨code23, List.forall_mem_cons.mpr ⟨code24, List.forall_mem_nil _⟩⟩⟩⟩⟩
set_option maxRecDepth 16384 in
theorem wz1.others_2_0 : (tables_1_2.take 40).all (fun c => su_isCode c || c.before args0 about) = true := by decide +kernel
set_option maxRecDepth 16384 in
theorem wz1.others_2_1 : ((tables_1_2.drop 40).take 40).all (fun c => su_isCode c || c.before args0 about) = true := by decide +kernel

set_option maxRecDepth 16384 in
theorem wz1.others_2_2 : (((tables_1_2.drop 40).drop 40).take 40).all (fun c => su_isCode c || c.before args0 about) = true := by decide +kernel
set_option maxRecDepth 16384 in
theorem wz1.others_2_3 : ((((tables_1_2.drop 40).drop 40).drop 40).take 40).all (fun c => su_isCode c || c.before args0 about) = true := by decide +kernel

set_option maxRecDepth 16384 in
theorem wz1.others_2_4 : (((((tables_1_2.drop 40).drop 40).drop 40).drop 40).take 40).all (fun c => su_isCode c || c.before args0 about) = true := by decide +kernel
set_option maxRecDepth 16384 in
theorem wz1.others_2_5 : (((((tables_1_2.drop 40).drop 40).drop 40).drop 40).drop 40).all (fun c => su_isCode c || c.before args0 about) = true := by decide +kernel
theorem wz1.others_hold_2 : tables_1_2.all (fun c => su_isCode c || c.before args0 about) = true := su_all_split _ 40 tables_1_2 others_2_0 (su_all_split _ 40 (tables_1_2.drop 40) others_2_1 (su_all_split _ 40 ((tables_1_2.drop 40).drop 40) others_2_2 (su_all_split _ 40 (((tables_1_2.drop 40).drop 40).drop 40) others_2_3 (su_all_split _ 40 ((((tables_1_2.drop 40).drop 40).drop 40).drop 40) others_2_4 others_2_5))))
theorem wz1.words_2 : ∀ c ∈ tables_1_2, c.before args0 about = true := fun c h => su_words others_hold_2 codes_hold_2 c h

theorem wz1.code25 : (Jvm.Cond.code (⟨"StretchedRows$Box", "<init>", "(ILStretchedRows$Container;I)V"⟩ : Jvm.MethodName) prog_2_method_1_code 4 none).before args0 about = true :=
  su_hand_word (m := ⟨13, 0⟩) (by decide +kernel) rfl (by decide +kernel) (by decide +kernel)
theorem wz1.code26 : (Jvm.Cond.code (⟨"StretchedRows", "remove", "(I)I"⟩ : Jvm.MethodName) prog_1_method_3_code 7 (some .int)).before args0 about = true :=
  su_hand_word (m := ⟨2, 2⟩) (by decide +kernel) rfl (by decide +kernel) (by decide +kernel)
theorem wz1.code27 : (Jvm.Cond.code (⟨"StretchedRows$Node", "takeAway", "()V"⟩ : Jvm.MethodName) prog_6_method_8_code 1 none).before args0 about = true :=
  su_hand_word (m := ⟨5, 7⟩) (by decide +kernel) rfl (by decide +kernel) (by decide +kernel)
theorem wz1.code28 : (Jvm.Cond.code (⟨"StretchedRows", "set", "(III)V"⟩ : Jvm.MethodName) prog_1_method_4_code 5 none).before args0 about = true :=
  su_hand_word (m := ⟨2, 3⟩) (by decide +kernel) rfl (by decide +kernel) (by decide +kernel)
theorem wz1.code29 : (Jvm.Cond.code (⟨"StretchedRows", "word", "(II)I"⟩ : Jvm.MethodName) prog_1_method_5_code 5 (some .int)).before args0 about = true :=
  su_hand_word (m := ⟨2, 4⟩) (by decide +kernel) rfl (by decide +kernel) (by decide +kernel)
theorem wz1.code30 : (Jvm.Cond.code (⟨"StretchedRows$Text", "addWord", "(I)V"⟩ : Jvm.MethodName) prog_9_method_2_code 2 none).before args0 about = true :=
  su_hand_word (m := ⟨11, 1⟩) (by decide +kernel) rfl (by decide +kernel) (by decide +kernel)
theorem wz1.code31 : (Jvm.Cond.code (⟨"StretchedRows", "track", "(IZI)I"⟩ : Jvm.MethodName) prog_1_method_6_code 6 (some .int)).before args0 about = true :=
  su_hand_word (m := ⟨2, 5⟩) (by decide +kernel) rfl (by decide +kernel) (by decide +kernel)
theorem wz1.code32 : (Jvm.Cond.code (⟨"StretchedRows$Grid", "addTrack", "(ZI)V"⟩ : Jvm.MethodName) prog_5_method_2_code 3 none).before args0 about = true :=
  su_hand_word (m := ⟨17, 1⟩) (by decide +kernel) rfl (by decide +kernel) (by decide +kernel)
theorem wz1.code33 : (Jvm.Cond.code (⟨"StretchedRows", "layout", "(I)I"⟩ : Jvm.MethodName) prog_1_method_7_code 4 (some .int)).before args0 about = true :=
  su_hand_word (m := ⟨2, 6⟩) (by decide +kernel) rfl (by decide +kernel) (by decide +kernel)
theorem wz1.code34 : (Jvm.Cond.code (⟨"StretchedRows$Node", "isHidden", "()Z"⟩ : Jvm.MethodName) prog_6_method_7_code 1 (some .boolean)).before args0 about = true :=
  su_hand_word (m := ⟨5, 6⟩) (by decide +kernel) rfl (by decide +kernel) (by decide +kernel)
theorem wz1.code35 : (Jvm.Cond.code (⟨"StretchedRows", "measureAll", "()V"⟩ : Jvm.MethodName) prog_1_method_18_code 2 none).before args0 about = true :=
  su_hand_word (m := ⟨2, 17⟩) (by decide +kernel) rfl (by decide +kernel) (by decide +kernel)
theorem wz1.code36 : (Jvm.Cond.code (⟨"StretchedRows", "gatherChildren", "()V"⟩ : Jvm.MethodName) prog_1_method_19_code 4 none).before args0 about = true :=
  su_hand_word (m := ⟨2, 18⟩) (by decide +kernel) rfl (by decide +kernel) (by decide +kernel)
theorem wz1.code37 : (Jvm.Cond.code (⟨"StretchedRows$Container", "show", "(LStretchedRows$Node;)V"⟩ : Jvm.MethodName) prog_4_method_5_code 3 none).before args0 about = true :=
  su_hand_word (m := ⟨12, 4⟩) (by decide +kernel) rfl (by decide +kernel) (by decide +kernel)
theorem wz1.code38 : (Jvm.Cond.code (⟨"StretchedRows$Node", "measure", "()V"⟩ : Jvm.MethodName) prog_6_method_9_code 1 none).before args0 about = true :=
  su_hand_word (m := ⟨5, 8⟩) (by decide +kernel) rfl (by decide +kernel) (by decide +kernel)
theorem wz1.code39 : (Jvm.Cond.code (⟨"StretchedRows$Box", "findNaturalWidth", "()I"⟩ : Jvm.MethodName) prog_2_method_2_code 1 (some .int)).before args0 about = true :=
  su_hand_word (m := ⟨13, 1⟩) (by decide +kernel) rfl (by decide +kernel) (by decide +kernel)
theorem wz1.code40 : (Jvm.Cond.code (⟨"StretchedRows$Container", "findNaturalWidth", "()I"⟩ : Jvm.MethodName) prog_4_method_7_code 1 (some .int)).before args0 about = true :=
  su_hand_word (m := ⟨12, 6⟩) (by decide +kernel) rfl (by decide +kernel) (by decide +kernel)
theorem wz1.code41 : (Jvm.Cond.code (⟨"StretchedRows$Column", "findNaturalInside", "()I"⟩ : Jvm.MethodName) prog_3_method_2_code 3 (some .int)).before args0 about = true :=
  su_hand_word (m := ⟨15, 1⟩) (by decide +kernel) rfl (by decide +kernel) (by decide +kernel)
theorem wz1.code42 : (Jvm.Cond.code (⟨"java/lang/Math", "max", "(II)I"⟩ : Jvm.MethodName) prog_16_method_65_code 2 (some .int)).before args0 about = true :=
  su_hand_word (m := ⟨7, 1⟩) (by decide +kernel) rfl (by decide +kernel) (by decide +kernel)
theorem wz1.code43 : (Jvm.Cond.code (⟨"StretchedRows$Grid", "findNaturalInside", "()I"⟩ : Jvm.MethodName) prog_5_method_4_code 4 (some .int)).before args0 about = true :=
  su_hand_word (m := ⟨17, 3⟩) (by decide +kernel) rfl (by decide +kernel) (by decide +kernel)
theorem wz1.code44 : (Jvm.Cond.code (⟨"StretchedRows$Grid", "tracksInUse", "()I"⟩ : Jvm.MethodName) prog_5_method_3_code 1 (some .int)).before args0 about = true :=
  su_hand_word (m := ⟨17, 2⟩) (by decide +kernel) rfl (by decide +kernel) (by decide +kernel)
theorem wz1.code45 : (Jvm.Cond.code (⟨"StretchedRows$Container", "gapsAmong", "(I)I"⟩ : Jvm.MethodName) prog_4_method_6_code 2 (some .int)).before args0 about = true :=
  su_hand_word (m := ⟨12, 5⟩) (by decide +kernel) rfl (by decide +kernel) (by decide +kernel)
theorem wz1.code46 : (Jvm.Cond.code (⟨"StretchedRows$Grid", "greatestHypo", "(II)I"⟩ : Jvm.MethodName) prog_5_method_5_code 5 (some .int)).before args0 about = true :=
  su_hand_word (m := ⟨17, 4⟩) (by decide +kernel) rfl (by decide +kernel) (by decide +kernel)
theorem wz1.code47 : (Jvm.Cond.code (⟨"StretchedRows$Row", "findNaturalInside", "()I"⟩ : Jvm.MethodName) prog_7_method_2_code 3 (some .int)).before args0 about = true :=
  su_hand_word (m := ⟨16, 1⟩) (by decide +kernel) rfl (by decide +kernel) (by decide +kernel)
theorem wz1.code48 : (Jvm.Cond.code (⟨"StretchedRows$Text", "findNaturalWidth", "()I"⟩ : Jvm.MethodName) prog_9_method_3_code 3 (some .int)).before args0 about = true :=
  su_hand_word (m := ⟨11, 2⟩) (by decide +kernel) rfl (by decide +kernel) (by decide +kernel)
theorem wz1.code49 : (Jvm.Cond.code (⟨"StretchedRows$Node", "clamped", "(I)I"⟩ : Jvm.MethodName) prog_6_method_10_code 2 (some .int)).before args0 about = true :=
  su_hand_word (m := ⟨5, 9⟩) (by decide +kernel) rfl (by decide +kernel) (by decide +kernel)
theorem wz1.code50 : (Jvm.Cond.code (⟨"java/lang/Math", "min", "(II)I"⟩ : Jvm.MethodName) prog_16_method_69_code 2 (some .int)).before args0 about = true :=
  su_hand_word (m := ⟨7, 2⟩) (by decide +kernel) rfl (by decide +kernel) (by decide +kernel)
theorem wz1.code51 : (Jvm.Cond.code (⟨"StretchedRows", "forgetLayout", "()V"⟩ : Jvm.MethodName) prog_1_method_20_code 2 none).before args0 about = true :=
  su_hand_word (m := ⟨2, 19⟩) (by decide +kernel) rfl (by decide +kernel) (by decide +kernel)
theorem wz1.code52 : (Jvm.Cond.code (⟨"StretchedRows$Container", "spread", "()V"⟩ : Jvm.MethodName) prog_4_method_8_code 2 none).before args0 about = true :=
  su_hand_word (m := ⟨12, 7⟩) (by decide +kernel) rfl (by decide +kernel) (by decide +kernel)
theorem wz1.code53 : (Jvm.Cond.code (⟨"StretchedRows$Column", "breakLines", "()V"⟩ : Jvm.MethodName) prog_3_method_3_code 2 none).before args0 about = true :=
  su_hand_word (m := ⟨15, 2⟩) (by decide +kernel) rfl (by decide +kernel) (by decide +kernel)
theorem wz1.code54 : (Jvm.Cond.code (⟨"StretchedRows$Container", "putInLine", "(IZ)V"⟩ : Jvm.MethodName) prog_4_method_9_code 3 none).before args0 about = true :=
  su_hand_word (m := ⟨12, 8⟩) (by decide +kernel) rfl (by decide +kernel) (by decide +kernel)
theorem wz1.code55 : (Jvm.Cond.code (⟨"StretchedRows$Grid", "breakLines", "()V"⟩ : Jvm.MethodName) prog_5_method_7_code 3 none).before args0 about = true :=
  su_hand_word (m := ⟨17, 6⟩) (by decide +kernel) rfl (by decide +kernel) (by decide +kernel)
theorem wz1.code56 : (Jvm.Cond.code (⟨"StretchedRows$Row", "breakLines", "()V"⟩ : Jvm.MethodName) prog_7_method_4_code 5 none).before args0 about = true :=
  su_hand_word (m := ⟨16, 3⟩) (by decide +kernel) rfl (by decide +kernel) (by decide +kernel)
theorem wz1.code57 : (Jvm.Cond.code (⟨"StretchedRows$Column", "spreadChildren", "()V"⟩ : Jvm.MethodName) prog_3_method_4_code 4 none).before args0 about = true :=
  su_hand_word (m := ⟨15, 3⟩) (by decide +kernel) rfl (by decide +kernel) (by decide +kernel)
theorem wz1.code58 : (Jvm.Cond.code (⟨"StretchedRows", "shiftWithin", "(II)I"⟩ : Jvm.MethodName) prog_1_method_21_code 2 (some .int)).before args0 about = true :=
  su_hand_word (m := ⟨2, 20⟩) (by decide +kernel) rfl (by decide +kernel) (by decide +kernel)
theorem wz1.code59 : (Jvm.Cond.code (⟨"java/lang/Math", "floorDiv", "(II)I"⟩ : Jvm.MethodName) prog_16_method_47_code 3 (some .int)).before args0 about = true :=
  su_hand_word (m := ⟨7, 0⟩) (by decide +kernel) rfl (by decide +kernel) (by decide +kernel)
theorem wz1.code60 : (Jvm.Cond.code (⟨"StretchedRows$Grid", "spreadChildren", "()V"⟩ : Jvm.MethodName) prog_5_method_8_code 5 none).before args0 about = true :=
  su_hand_word (m := ⟨17, 7⟩) (by decide +kernel) rfl (by decide +kernel) (by decide +kernel)
theorem wz1.code61 : (Jvm.Cond.code (⟨"StretchedRows$Grid", "widenTracks", "()V"⟩ : Jvm.MethodName) prog_5_method_9_code 4 none).before args0 about = true :=
  su_hand_word (m := ⟨17, 8⟩) (by decide +kernel) rfl (by decide +kernel) (by decide +kernel)
theorem wz1.code62 : (Jvm.Cond.code (⟨"StretchedRows$Shares", "deal", "(III)V"⟩ : Jvm.MethodName) prog_8_method_2_code 9 none).before args0 about = true :=
  su_hand_word (m := ⟨6, 1⟩) (by decide +kernel) rfl (by decide +kernel) (by decide +kernel)

set_option maxRecDepth 16384 in
theorem wz1.codes_are_3 : tables_1_3.filter su_isCode = [Jvm.Cond.code (⟨"StretchedRows$Box", "<init>", "(ILStretchedRows$Container;I)V"⟩ : Jvm.MethodName) prog_2_method_1_code 4 none,
    Jvm.Cond.code (⟨"StretchedRows", "remove", "(I)I"⟩ : Jvm.MethodName) prog_1_method_3_code 7 (some .int),
    Jvm.Cond.code (⟨"StretchedRows$Node", "takeAway", "()V"⟩ : Jvm.MethodName) prog_6_method_8_code 1 none,
    Jvm.Cond.code (⟨"StretchedRows", "set", "(III)V"⟩ : Jvm.MethodName) prog_1_method_4_code 5 none,
    Jvm.Cond.code (⟨"StretchedRows", "word", "(II)I"⟩ : Jvm.MethodName) prog_1_method_5_code 5 (some .int),
    Jvm.Cond.code (⟨"StretchedRows$Text", "addWord", "(I)V"⟩ : Jvm.MethodName) prog_9_method_2_code 2 none,
    Jvm.Cond.code (⟨"StretchedRows", "track", "(IZI)I"⟩ : Jvm.MethodName) prog_1_method_6_code 6 (some .int),
    Jvm.Cond.code (⟨"StretchedRows$Grid", "addTrack", "(ZI)V"⟩ : Jvm.MethodName) prog_5_method_2_code 3 none,
    Jvm.Cond.code (⟨"StretchedRows", "layout", "(I)I"⟩ : Jvm.MethodName) prog_1_method_7_code 4 (some .int),
    Jvm.Cond.code (⟨"StretchedRows$Node", "isHidden", "()Z"⟩ : Jvm.MethodName) prog_6_method_7_code 1 (some .boolean),
    Jvm.Cond.code (⟨"StretchedRows", "measureAll", "()V"⟩ : Jvm.MethodName) prog_1_method_18_code 2 none,
    Jvm.Cond.code (⟨"StretchedRows", "gatherChildren", "()V"⟩ : Jvm.MethodName) prog_1_method_19_code 4 none,
    Jvm.Cond.code (⟨"StretchedRows$Container", "show", "(LStretchedRows$Node;)V"⟩ : Jvm.MethodName) prog_4_method_5_code 3 none,
    Jvm.Cond.code (⟨"StretchedRows$Node", "measure", "()V"⟩ : Jvm.MethodName) prog_6_method_9_code 1 none,
    Jvm.Cond.code (⟨"StretchedRows$Box", "findNaturalWidth", "()I"⟩ : Jvm.MethodName) prog_2_method_2_code 1 (some .int),
    Jvm.Cond.code (⟨"StretchedRows$Container", "findNaturalWidth", "()I"⟩ : Jvm.MethodName) prog_4_method_7_code 1 (some .int),
    Jvm.Cond.code (⟨"StretchedRows$Column", "findNaturalInside", "()I"⟩ : Jvm.MethodName) prog_3_method_2_code 3 (some .int),
    Jvm.Cond.code (⟨"java/lang/Math", "max", "(II)I"⟩ : Jvm.MethodName) prog_16_method_65_code 2 (some .int),
    Jvm.Cond.code (⟨"StretchedRows$Grid", "findNaturalInside", "()I"⟩ : Jvm.MethodName) prog_5_method_4_code 4 (some .int),
    Jvm.Cond.code (⟨"StretchedRows$Grid", "tracksInUse", "()I"⟩ : Jvm.MethodName) prog_5_method_3_code 1 (some .int),
    Jvm.Cond.code (⟨"StretchedRows$Container", "gapsAmong", "(I)I"⟩ : Jvm.MethodName) prog_4_method_6_code 2 (some .int),
    Jvm.Cond.code (⟨"StretchedRows$Grid", "greatestHypo", "(II)I"⟩ : Jvm.MethodName) prog_5_method_5_code 5 (some .int),
    Jvm.Cond.code (⟨"StretchedRows$Row", "findNaturalInside", "()I"⟩ : Jvm.MethodName) prog_7_method_2_code 3 (some .int),
    Jvm.Cond.code (⟨"StretchedRows$Text", "findNaturalWidth", "()I"⟩ : Jvm.MethodName) prog_9_method_3_code 3 (some .int),
    Jvm.Cond.code (⟨"StretchedRows$Node", "clamped", "(I)I"⟩ : Jvm.MethodName) prog_6_method_10_code 2 (some .int),
    Jvm.Cond.code (⟨"java/lang/Math", "min", "(II)I"⟩ : Jvm.MethodName) prog_16_method_69_code 2 (some .int),
    Jvm.Cond.code (⟨"StretchedRows", "forgetLayout", "()V"⟩ : Jvm.MethodName) prog_1_method_20_code 2 none,
    Jvm.Cond.code (⟨"StretchedRows$Container", "spread", "()V"⟩ : Jvm.MethodName) prog_4_method_8_code 2 none,
    Jvm.Cond.code (⟨"StretchedRows$Column", "breakLines", "()V"⟩ : Jvm.MethodName) prog_3_method_3_code 2 none,
    Jvm.Cond.code (⟨"StretchedRows$Container", "putInLine", "(IZ)V"⟩ : Jvm.MethodName) prog_4_method_9_code 3 none,
    Jvm.Cond.code (⟨"StretchedRows$Grid", "breakLines", "()V"⟩ : Jvm.MethodName) prog_5_method_7_code 3 none,
    Jvm.Cond.code (⟨"StretchedRows$Row", "breakLines", "()V"⟩ : Jvm.MethodName) prog_7_method_4_code 5 none,
    Jvm.Cond.code (⟨"StretchedRows$Column", "spreadChildren", "()V"⟩ : Jvm.MethodName) prog_3_method_4_code 4 none,
    Jvm.Cond.code (⟨"StretchedRows", "shiftWithin", "(II)I"⟩ : Jvm.MethodName) prog_1_method_21_code 2 (some .int),
    Jvm.Cond.code (⟨"java/lang/Math", "floorDiv", "(II)I"⟩ : Jvm.MethodName) prog_16_method_47_code 3 (some .int),
    Jvm.Cond.code (⟨"StretchedRows$Grid", "spreadChildren", "()V"⟩ : Jvm.MethodName) prog_5_method_8_code 5 none,
    Jvm.Cond.code (⟨"StretchedRows$Grid", "widenTracks", "()V"⟩ : Jvm.MethodName) prog_5_method_9_code 4 none,
    Jvm.Cond.code (⟨"StretchedRows$Shares", "deal", "(III)V"⟩ : Jvm.MethodName) prog_8_method_2_code 9 none] := by
  first
  | rfl
  | simp only [tables_1_3, List.filter, su_isCode]
theorem wz1.codes_hold_3 : ∀ c ∈ tables_1_3.filter su_isCode, c.before args0 about = true := by
  rw [codes_are_3]
  exact List.forall_mem_cons.mpr ⟨code25, List.forall_mem_cons.mpr ⟨code26, List.forall_mem_cons.mpr ⟨code27, List.forall_mem_cons.mpr ⟨code28, List.forall_mem_cons.mpr ⟨code29, List.forall_mem_cons.mpr ⟨code30, List.forall_mem_cons.mpr ⟨code31, List.forall_mem_cons.mpr ⟨code32, List.forall_mem_cons.mpr ⟨code33, List.forall_mem_cons.mpr ⟨code34, List.forall_mem_cons.mpr ⟨code35, List.forall_mem_cons.mpr ⟨code36, List.forall_mem_cons.mpr ⟨code37, List.forall_mem_cons.mpr ⟨code38, List.forall_mem_cons.mpr ⟨code39, List.forall_mem_cons.mpr ⟨code40, List.forall_mem_cons.mpr ⟨code41, List.forall_mem_cons.mpr ⟨code42, List.forall_mem_cons.mpr ⟨code43, List.forall_mem_cons.mpr ⟨code44, List.forall_mem_cons.mpr ⟨code45, List.forall_mem_cons.mpr ⟨code46, List.forall_mem_cons.mpr ⟨code47, List.forall_mem_cons.mpr ⟨code48, List.forall_mem_cons.mpr ⟨code49, List.forall_mem_cons.mpr ⟨code50, List.forall_mem_cons.mpr ⟨code51, List.forall_mem_cons.mpr ⟨code52, List.forall_mem_cons.mpr ⟨code53, List.forall_mem_cons.mpr ⟨code54, List.forall_mem_cons.mpr ⟨code55, List.forall_mem_cons.mpr ⟨code56, List.forall_mem_cons.mpr ⟨code57, List.forall_mem_cons.mpr ⟨code58, List.forall_mem_cons.mpr ⟨code59, List.forall_mem_cons.mpr ⟨code60, List.forall_mem_cons.mpr ⟨code61, List.forall_mem_cons.mpr ⟨code62, List.forall_mem_nil _⟩⟩⟩⟩⟩⟩⟩⟩⟩⟩⟩⟩⟩⟩⟩⟩⟩⟩⟩⟩⟩⟩⟩⟩⟩⟩⟩⟩⟩⟩⟩⟩⟩⟩⟩⟩⟩⟩
set_option maxRecDepth 16384 in
theorem wz1.others_3_0 : (tables_1_3.take 40).all (fun c => su_isCode c || c.before args0 about) = true := by decide +kernel
set_option maxRecDepth 16384 in
theorem wz1.others_3_1 : ((tables_1_3.drop 40).take 40).all (fun c => su_isCode c || c.before args0 about) = true := by decide +kernel

set_option maxRecDepth 16384 in
theorem wz1.others_3_2 : (((tables_1_3.drop 40).drop 40).take 40).all (fun c => su_isCode c || c.before args0 about) = true := by decide +kernel
set_option maxRecDepth 16384 in
theorem wz1.others_3_3 : ((((tables_1_3.drop 40).drop 40).drop 40).take 40).all (fun c => su_isCode c || c.before args0 about) = true := by decide +kernel

set_option maxRecDepth 16384 in
theorem wz1.others_3_4 : (((((tables_1_3.drop 40).drop 40).drop 40).drop 40).take 40).all (fun c => su_isCode c || c.before args0 about) = true := by decide +kernel
set_option maxRecDepth 16384 in
theorem wz1.others_3_5 : (((((tables_1_3.drop 40).drop 40).drop 40).drop 40).drop 40).all (fun c => su_isCode c || c.before args0 about) = true := by decide +kernel
theorem wz1.others_hold_3 : tables_1_3.all (fun c => su_isCode c || c.before args0 about) = true := su_all_split _ 40 tables_1_3 others_3_0 (su_all_split _ 40 (tables_1_3.drop 40) others_3_1 (su_all_split _ 40 ((tables_1_3.drop 40).drop 40) others_3_2 (su_all_split _ 40 (((tables_1_3.drop 40).drop 40).drop 40) others_3_3 (su_all_split _ 40 ((((tables_1_3.drop 40).drop 40).drop 40).drop 40) others_3_4 others_3_5))))
theorem wz1.words_3 : ∀ c ∈ tables_1_3, c.before args0 about = true := fun c h => su_words others_hold_3 codes_hold_3 c h

theorem wz1.code63 : (Jvm.Cond.code (⟨"StretchedRows$Row", "spreadChildren", "()V"⟩ : Jvm.MethodName) prog_7_method_5_code 4 none).before args0 about = true :=
  su_hand_word (m := ⟨16, 4⟩) (by decide +kernel) rfl (by decide +kernel) (by decide +kernel)
theorem wz1.code64 : (Jvm.Cond.code (⟨"StretchedRows$Row", "fitLine", "(II)V"⟩ : Jvm.MethodName) prog_7_method_6_code 7 none).before args0 about = true :=
  su_hand_word (m := ⟨16, 5⟩) (by decide +kernel) rfl (by decide +kernel) (by decide +kernel)
theorem wz1.code65 : (Jvm.Cond.code (⟨"StretchedRows$Row", "settleFixed", "(IIZ)V"⟩ : Jvm.MethodName) prog_7_method_7_code 6 none).before args0 about = true :=
  su_hand_word (m := ⟨16, 6⟩) (by decide +kernel) rfl (by decide +kernel) (by decide +kernel)
theorem wz1.code66 : (Jvm.Cond.code (⟨"StretchedRows$Row", "hasUnsettled", "(II)Z"⟩ : Jvm.MethodName) prog_7_method_8_code 4 (some .boolean)).before args0 about = true :=
  su_hand_word (m := ⟨16, 7⟩) (by decide +kernel) rfl (by decide +kernel) (by decide +kernel)
theorem wz1.code67 : (Jvm.Cond.code (⟨"StretchedRows$Row", "settleRound", "(IIIZ)V"⟩ : Jvm.MethodName) prog_7_method_9_code 9 none).before args0 about = true :=
  su_hand_word (m := ⟨16, 8⟩) (by decide +kernel) rfl (by decide +kernel) (by decide +kernel)
theorem wz1.code68 : (Jvm.Cond.code (⟨"StretchedRows$Row", "weightOf", "(LStretchedRows$Node;Z)J"⟩ : Jvm.MethodName) prog_7_method_10_code 2 (some .long)).before args0 about = true :=
  su_hand_word (m := ⟨16, 9⟩) (by decide +kernel) rfl (by decide +kernel) (by decide +kernel)
theorem wz1.code69 : (Jvm.Cond.code (⟨"StretchedRows$Row", "settleClamped", "(III)V"⟩ : Jvm.MethodName) prog_7_method_11_code 6 none).before args0 about = true :=
  su_hand_word (m := ⟨16, 10⟩) (by decide +kernel) rfl (by decide +kernel) (by decide +kernel)
theorem wz1.code70 : (Jvm.Cond.code (⟨"StretchedRows$Row", "justifyLine", "(II)V"⟩ : Jvm.MethodName) prog_7_method_12_code 7 none).before args0 about = true :=
  su_hand_word (m := ⟨16, 11⟩) (by decide +kernel) rfl (by decide +kernel) (by decide +kernel)
theorem wz1.code71 : (Jvm.Cond.code (⟨"StretchedRows$Row", "justifyShift", "(III)I"⟩ : Jvm.MethodName) prog_7_method_13_code 4 (some .int)).before args0 about = true :=
  su_hand_word (m := ⟨16, 12⟩) (by decide +kernel) rfl (by decide +kernel) (by decide +kernel)
theorem wz1.code72 : (Jvm.Cond.code (⟨"StretchedRows$Node", "spread", "()V"⟩ : Jvm.MethodName) prog_6_method_4_code 1 none).before args0 about = true :=
  su_hand_word (m := ⟨5, 3⟩) (by decide +kernel) rfl (by decide +kernel) (by decide +kernel)
theorem wz1.code73 : (Jvm.Cond.code (⟨"StretchedRows$Box", "stack", "()V"⟩ : Jvm.MethodName) prog_2_method_3_code 1 none).before args0 about = true :=
  su_hand_word (m := ⟨13, 2⟩) (by decide +kernel) rfl (by decide +kernel) (by decide +kernel)
theorem wz1.code74 : (Jvm.Cond.code (⟨"StretchedRows$Container", "stack", "()V"⟩ : Jvm.MethodName) prog_4_method_10_code 7 none).before args0 about = true :=
  su_hand_word (m := ⟨12, 9⟩) (by decide +kernel) rfl (by decide +kernel) (by decide +kernel)
theorem wz1.code75 : (Jvm.Cond.code (⟨"StretchedRows$Container", "greatestHeight", "(II)I"⟩ : Jvm.MethodName) prog_4_method_11_code 5 (some .int)).before args0 about = true :=
  su_hand_word (m := ⟨12, 10⟩) (by decide +kernel) rfl (by decide +kernel) (by decide +kernel)
theorem wz1.code76 : (Jvm.Cond.code (⟨"StretchedRows$Container", "alignInLine", "(LStretchedRows$Node;II)V"⟩ : Jvm.MethodName) prog_4_method_12_code 4 none).before args0 about = true :=
  su_hand_word (m := ⟨12, 11⟩) (by decide +kernel) rfl (by decide +kernel) (by decide +kernel)
theorem wz1.code77 : (Jvm.Cond.code (⟨"StretchedRows$Text", "stack", "()V"⟩ : Jvm.MethodName) prog_9_method_4_code 3 none).before args0 about = true :=
  su_hand_word (m := ⟨11, 3⟩) (by decide +kernel) rfl (by decide +kernel) (by decide +kernel)
theorem wz1.code78 : (Jvm.Cond.code (⟨"StretchedRows$Node", "place", "()V"⟩ : Jvm.MethodName) prog_6_method_11_code 1 none).before args0 about = true :=
  su_hand_word (m := ⟨5, 10⟩) (by decide +kernel) rfl (by decide +kernel) (by decide +kernel)
theorem wz1.code79 : (Jvm.Cond.code (⟨"StretchedRows", "where", "(II)I"⟩ : Jvm.MethodName) prog_1_method_8_code 4 (some .int)).before args0 about = true :=
  su_hand_word (m := ⟨2, 7⟩) (by decide +kernel) rfl (by decide +kernel) (by decide +kernel)
theorem wz1.code80 : (Jvm.Cond.code (⟨"StretchedRows", "findLaidOut", "(I)LStretchedRows$Node;"⟩ : Jvm.MethodName) prog_1_method_16_code 3 (some (.object "StretchedRows$Node"))).before args0 about = true :=
  su_hand_word (m := ⟨2, 15⟩) (by decide +kernel) rfl (by decide +kernel) (by decide +kernel)
theorem wz1.code81 : (Jvm.Cond.code (⟨"StretchedRows", "lines", "(I)I"⟩ : Jvm.MethodName) prog_1_method_9_code 3 (some .int)).before args0 about = true :=
  su_hand_word (m := ⟨2, 8⟩) (by decide +kernel) rfl (by decide +kernel) (by decide +kernel)
theorem wz1.code82 : (Jvm.Cond.code (⟨"StretchedRows$Grid", "brokenInto", "()I"⟩ : Jvm.MethodName) prog_5_method_6_code 1 (some .int)).before args0 about = true :=
  su_hand_word (m := ⟨17, 5⟩) (by decide +kernel) rfl (by decide +kernel) (by decide +kernel)
theorem wz1.code83 : (Jvm.Cond.code (⟨"StretchedRows$Row", "brokenInto", "()I"⟩ : Jvm.MethodName) prog_7_method_3_code 1 (some .int)).before args0 about = true :=
  su_hand_word (m := ⟨16, 2⟩) (by decide +kernel) rfl (by decide +kernel) (by decide +kernel)
theorem wz1.code84 : (Jvm.Cond.code (⟨"StretchedRows$Text", "brokenInto", "()I"⟩ : Jvm.MethodName) prog_9_method_5_code 1 (some .int)).before args0 about = true :=
  su_hand_word (m := ⟨11, 4⟩) (by decide +kernel) rfl (by decide +kernel) (by decide +kernel)
theorem wz1.code85 : (Jvm.Cond.code (⟨"StretchedRows$Node", "brokenInto", "()I"⟩ : Jvm.MethodName) prog_6_method_5_code 1 (some .int)).before args0 about = true :=
  su_hand_word (m := ⟨5, 4⟩) (by decide +kernel) rfl (by decide +kernel) (by decide +kernel)
theorem wz1.code86 : (Jvm.Cond.code (⟨"StretchedRows", "natural", "(I)I"⟩ : Jvm.MethodName) prog_1_method_11_code 3 (some .int)).before args0 about = true :=
  su_hand_word (m := ⟨2, 10⟩) (by decide +kernel) rfl (by decide +kernel) (by decide +kernel)
theorem wz1.code87 : (Jvm.Cond.code (⟨"StretchedRowsModel", "<init>", "()V"⟩ : Jvm.MethodName) prog_11_method_1_code 1 none).before args0 about = true :=
  su_hand_word (m := ⟨3, 0⟩) (by decide +kernel) rfl (by decide +kernel) (by decide +kernel)
theorem wz1.code88 : (Jvm.Cond.code (⟨"StretchedRowsModel", "thrown", "()I"⟩ : Jvm.MethodName) prog_11_method_2_code 1 (some .int)).before args0 about = true :=
  su_hand_word (m := ⟨3, 1⟩) (by decide +kernel) rfl (by decide +kernel) (by decide +kernel)
theorem wz1.code89 : (Jvm.Cond.code (⟨"StretchedRowsModel", "node", "(II)I"⟩ : Jvm.MethodName) prog_11_method_10_code 7 (some .int)).before args0 about = true :=
  su_hand_word (m := ⟨3, 9⟩) (by decide +kernel) rfl (by decide +kernel) (by decide +kernel)
theorem wz1.code90 : (Jvm.Cond.code (⟨"StretchedRowsModel", "isContainer", "(I)Z"⟩ : Jvm.MethodName) prog_11_method_5_code 2 (some .boolean)).before args0 about = true :=
  su_hand_word (m := ⟨3, 4⟩) (by decide +kernel) rfl (by decide +kernel) (by decide +kernel)
theorem wz1.code91 : (Jvm.Cond.code (⟨"StretchedRowsModel", "isThere", "(I)Z"⟩ : Jvm.MethodName) prog_11_method_4_code 2 (some .boolean)).before args0 about = true :=
  su_hand_word (m := ⟨3, 3⟩) (by decide +kernel) rfl (by decide +kernel) (by decide +kernel)
theorem wz1.code92 : (Jvm.Cond.code (⟨"StretchedRowsModel", "refuses", "(ZZ)Z"⟩ : Jvm.MethodName) prog_11_method_3_code 3 (some .boolean)).before args0 about = true :=
  su_hand_word (m := ⟨3, 2⟩) (by decide +kernel) rfl (by decide +kernel) (by decide +kernel)
theorem wz1.code93 : (Jvm.Cond.code (⟨"StretchedRowsModel", "first", "(I)I"⟩ : Jvm.MethodName) prog_11_method_9_code 1 (some .int)).before args0 about = true :=
  su_hand_word (m := ⟨3, 8⟩) (by decide +kernel) rfl (by decide +kernel) (by decide +kernel)
theorem wz1.code94 : (Jvm.Cond.code (⟨"StretchedRowsModel", "remove", "(I)I"⟩ : Jvm.MethodName) prog_11_method_11_code 5 (some .int)).before args0 about = true :=
  su_hand_word (m := ⟨3, 10⟩) (by decide +kernel) rfl (by decide +kernel) (by decide +kernel)
theorem wz1.code95 : (Jvm.Cond.code (⟨"StretchedRowsModel", "set", "(III)V"⟩ : Jvm.MethodName) prog_11_method_12_code 5 none).before args0 about = true :=
  su_hand_word (m := ⟨3, 11⟩) (by decide +kernel) rfl (by decide +kernel) (by decide +kernel)
theorem wz1.code96 : (Jvm.Cond.code (⟨"StretchedRowsModel", "least", "(I)I"⟩ : Jvm.MethodName) prog_11_method_7_code 1 (some .int)).before args0 about = true :=
  su_hand_word (m := ⟨3, 6⟩) (by decide +kernel) rfl (by decide +kernel) (by decide +kernel)

set_option maxRecDepth 16384 in
theorem wz1.codes_are_4 : tables_1_4.filter su_isCode = [Jvm.Cond.code (⟨"StretchedRows$Row", "spreadChildren", "()V"⟩ : Jvm.MethodName) prog_7_method_5_code 4 none,
    Jvm.Cond.code (⟨"StretchedRows$Row", "fitLine", "(II)V"⟩ : Jvm.MethodName) prog_7_method_6_code 7 none,
    Jvm.Cond.code (⟨"StretchedRows$Row", "settleFixed", "(IIZ)V"⟩ : Jvm.MethodName) prog_7_method_7_code 6 none,
    Jvm.Cond.code (⟨"StretchedRows$Row", "hasUnsettled", "(II)Z"⟩ : Jvm.MethodName) prog_7_method_8_code 4 (some .boolean),
    Jvm.Cond.code (⟨"StretchedRows$Row", "settleRound", "(IIIZ)V"⟩ : Jvm.MethodName) prog_7_method_9_code 9 none,
    Jvm.Cond.code (⟨"StretchedRows$Row", "weightOf", "(LStretchedRows$Node;Z)J"⟩ : Jvm.MethodName) prog_7_method_10_code 2 (some .long),
    Jvm.Cond.code (⟨"StretchedRows$Row", "settleClamped", "(III)V"⟩ : Jvm.MethodName) prog_7_method_11_code 6 none,
    Jvm.Cond.code (⟨"StretchedRows$Row", "justifyLine", "(II)V"⟩ : Jvm.MethodName) prog_7_method_12_code 7 none,
    Jvm.Cond.code (⟨"StretchedRows$Row", "justifyShift", "(III)I"⟩ : Jvm.MethodName) prog_7_method_13_code 4 (some .int),
    Jvm.Cond.code (⟨"StretchedRows$Node", "spread", "()V"⟩ : Jvm.MethodName) prog_6_method_4_code 1 none,
    Jvm.Cond.code (⟨"StretchedRows$Box", "stack", "()V"⟩ : Jvm.MethodName) prog_2_method_3_code 1 none,
    Jvm.Cond.code (⟨"StretchedRows$Container", "stack", "()V"⟩ : Jvm.MethodName) prog_4_method_10_code 7 none,
    Jvm.Cond.code (⟨"StretchedRows$Container", "greatestHeight", "(II)I"⟩ : Jvm.MethodName) prog_4_method_11_code 5 (some .int),
    Jvm.Cond.code (⟨"StretchedRows$Container", "alignInLine", "(LStretchedRows$Node;II)V"⟩ : Jvm.MethodName) prog_4_method_12_code 4 none,
    Jvm.Cond.code (⟨"StretchedRows$Text", "stack", "()V"⟩ : Jvm.MethodName) prog_9_method_4_code 3 none,
    Jvm.Cond.code (⟨"StretchedRows$Node", "place", "()V"⟩ : Jvm.MethodName) prog_6_method_11_code 1 none,
    Jvm.Cond.code (⟨"StretchedRows", "where", "(II)I"⟩ : Jvm.MethodName) prog_1_method_8_code 4 (some .int),
    Jvm.Cond.code (⟨"StretchedRows", "findLaidOut", "(I)LStretchedRows$Node;"⟩ : Jvm.MethodName) prog_1_method_16_code 3 (some (.object "StretchedRows$Node")),
    Jvm.Cond.code (⟨"StretchedRows", "lines", "(I)I"⟩ : Jvm.MethodName) prog_1_method_9_code 3 (some .int),
    Jvm.Cond.code (⟨"StretchedRows$Grid", "brokenInto", "()I"⟩ : Jvm.MethodName) prog_5_method_6_code 1 (some .int),
    Jvm.Cond.code (⟨"StretchedRows$Row", "brokenInto", "()I"⟩ : Jvm.MethodName) prog_7_method_3_code 1 (some .int),
    Jvm.Cond.code (⟨"StretchedRows$Text", "brokenInto", "()I"⟩ : Jvm.MethodName) prog_9_method_5_code 1 (some .int),
    Jvm.Cond.code (⟨"StretchedRows$Node", "brokenInto", "()I"⟩ : Jvm.MethodName) prog_6_method_5_code 1 (some .int),
    Jvm.Cond.code (⟨"StretchedRows", "natural", "(I)I"⟩ : Jvm.MethodName) prog_1_method_11_code 3 (some .int),
    Jvm.Cond.code (⟨"StretchedRowsModel", "<init>", "()V"⟩ : Jvm.MethodName) prog_11_method_1_code 1 none,
    Jvm.Cond.code (⟨"StretchedRowsModel", "thrown", "()I"⟩ : Jvm.MethodName) prog_11_method_2_code 1 (some .int),
    Jvm.Cond.code (⟨"StretchedRowsModel", "node", "(II)I"⟩ : Jvm.MethodName) prog_11_method_10_code 7 (some .int),
    Jvm.Cond.code (⟨"StretchedRowsModel", "isContainer", "(I)Z"⟩ : Jvm.MethodName) prog_11_method_5_code 2 (some .boolean),
    Jvm.Cond.code (⟨"StretchedRowsModel", "isThere", "(I)Z"⟩ : Jvm.MethodName) prog_11_method_4_code 2 (some .boolean),
    Jvm.Cond.code (⟨"StretchedRowsModel", "refuses", "(ZZ)Z"⟩ : Jvm.MethodName) prog_11_method_3_code 3 (some .boolean),
    Jvm.Cond.code (⟨"StretchedRowsModel", "first", "(I)I"⟩ : Jvm.MethodName) prog_11_method_9_code 1 (some .int),
    Jvm.Cond.code (⟨"StretchedRowsModel", "remove", "(I)I"⟩ : Jvm.MethodName) prog_11_method_11_code 5 (some .int),
    Jvm.Cond.code (⟨"StretchedRowsModel", "set", "(III)V"⟩ : Jvm.MethodName) prog_11_method_12_code 5 none,
    Jvm.Cond.code (⟨"StretchedRowsModel", "least", "(I)I"⟩ : Jvm.MethodName) prog_11_method_7_code 1 (some .int)] := by
  first
  | rfl
  | simp only [tables_1_4, List.filter, su_isCode]
theorem wz1.codes_hold_4 : ∀ c ∈ tables_1_4.filter su_isCode, c.before args0 about = true := by
  rw [codes_are_4]
  exact List.forall_mem_cons.mpr ⟨code63, List.forall_mem_cons.mpr ⟨code64, List.forall_mem_cons.mpr ⟨code65, List.forall_mem_cons.mpr ⟨code66, List.forall_mem_cons.mpr ⟨code67, List.forall_mem_cons.mpr ⟨code68, List.forall_mem_cons.mpr ⟨code69, List.forall_mem_cons.mpr ⟨code70, List.forall_mem_cons.mpr ⟨code71, List.forall_mem_cons.mpr ⟨code72, List.forall_mem_cons.mpr ⟨code73, List.forall_mem_cons.mpr ⟨code74, List.forall_mem_cons.mpr ⟨code75, List.forall_mem_cons.mpr ⟨code76, List.forall_mem_cons.mpr ⟨code77, List.forall_mem_cons.mpr ⟨code78, List.forall_mem_cons.mpr ⟨code79, List.forall_mem_cons.mpr ⟨code80, List.forall_mem_cons.mpr ⟨code81, List.forall_mem_cons.mpr ⟨code82, List.forall_mem_cons.mpr ⟨code83, List.forall_mem_cons.mpr ⟨code84, List.forall_mem_cons.mpr ⟨code85, List.forall_mem_cons.mpr ⟨code86, List.forall_mem_cons.mpr ⟨code87, List.forall_mem_cons.mpr ⟨code88, List.forall_mem_cons.mpr ⟨code89, List.forall_mem_cons.mpr ⟨code90, List.forall_mem_cons.mpr ⟨code91, List.forall_mem_cons.mpr ⟨code92, List.forall_mem_cons.mpr ⟨code93, List.forall_mem_cons.mpr ⟨code94, List.forall_mem_cons.mpr ⟨code95, List.forall_mem_cons.mpr ⟨code96, List.forall_mem_nil _⟩⟩⟩⟩⟩⟩⟩⟩⟩⟩⟩⟩⟩⟩⟩⟩⟩⟩⟩⟩⟩⟩⟩⟩⟩⟩⟩⟩⟩⟩⟩⟩⟩⟩
set_option maxRecDepth 16384 in
theorem wz1.others_4_0 : (tables_1_4.take 40).all (fun c => su_isCode c || c.before args0 about) = true := by decide +kernel
set_option maxRecDepth 16384 in
theorem wz1.others_4_1 : ((tables_1_4.drop 40).take 40).all (fun c => su_isCode c || c.before args0 about) = true := by decide +kernel

set_option maxRecDepth 16384 in
theorem wz1.others_4_2 : (((tables_1_4.drop 40).drop 40).take 40).all (fun c => su_isCode c || c.before args0 about) = true := by decide +kernel
set_option maxRecDepth 16384 in
theorem wz1.others_4_3 : ((((tables_1_4.drop 40).drop 40).drop 40).take 40).all (fun c => su_isCode c || c.before args0 about) = true := by decide +kernel

set_option maxRecDepth 16384 in
theorem wz1.others_4_4 : (((((tables_1_4.drop 40).drop 40).drop 40).drop 40).take 40).all (fun c => su_isCode c || c.before args0 about) = true := by decide +kernel
set_option maxRecDepth 16384 in
theorem wz1.others_4_5 : (((((tables_1_4.drop 40).drop 40).drop 40).drop 40).drop 40).all (fun c => su_isCode c || c.before args0 about) = true := by decide +kernel
theorem wz1.others_hold_4 : tables_1_4.all (fun c => su_isCode c || c.before args0 about) = true := su_all_split _ 40 tables_1_4 others_4_0 (su_all_split _ 40 (tables_1_4.drop 40) others_4_1 (su_all_split _ 40 ((tables_1_4.drop 40).drop 40) others_4_2 (su_all_split _ 40 (((tables_1_4.drop 40).drop 40).drop 40) others_4_3 (su_all_split _ 40 ((((tables_1_4.drop 40).drop 40).drop 40).drop 40) others_4_4 others_4_5))))
theorem wz1.words_4 : ∀ c ∈ tables_1_4, c.before args0 about = true := fun c h => su_words others_hold_4 codes_hold_4 c h

theorem wz1.code97 : (Jvm.Cond.code (⟨"StretchedRowsModel", "most", "(I)I"⟩ : Jvm.MethodName) prog_11_method_8_code 1 (some .int)).before args0 about = true :=
  su_hand_word (m := ⟨3, 7⟩) (by decide +kernel) rfl (by decide +kernel) (by decide +kernel)
theorem wz1.code98 : (Jvm.Cond.code (⟨"StretchedRowsModel", "word", "(II)I"⟩ : Jvm.MethodName) prog_11_method_13_code 4 (some .int)).before args0 about = true :=
  su_hand_word (m := ⟨3, 12⟩) (by decide +kernel) rfl (by decide +kernel) (by decide +kernel)
theorem wz1.code99 : (Jvm.Cond.code (⟨"StretchedRowsModel", "track", "(IZI)I"⟩ : Jvm.MethodName) prog_11_method_14_code 6 (some .int)).before args0 about = true :=
  su_hand_word (m := ⟨3, 13⟩) (by decide +kernel) rfl (by decide +kernel) (by decide +kernel)
theorem wz1.code100 : (Jvm.Cond.code (⟨"StretchedRowsModel", "natural", "(I)I"⟩ : Jvm.MethodName) prog_11_method_27_code 2 (some .int)).before args0 about = true :=
  su_hand_word (m := ⟨3, 26⟩) (by decide +kernel) rfl (by decide +kernel) (by decide +kernel)
theorem wz1.code101 : (Jvm.Cond.code (⟨"StretchedRowsModel", "findNaturals", "()V"⟩ : Jvm.MethodName) prog_11_method_26_code 2 none).before args0 about = true :=
  su_hand_word (m := ⟨3, 25⟩) (by decide +kernel) rfl (by decide +kernel) (by decide +kernel)
theorem wz1.code102 : (Jvm.Cond.code (⟨"StretchedRowsModel", "naturalOf", "(I)I"⟩ : Jvm.MethodName) prog_11_method_25_code 5 (some .int)).before args0 about = true :=
  su_hand_word (m := ⟨3, 24⟩) (by decide +kernel) rfl (by decide +kernel) (by decide +kernel)
theorem wz1.code103 : (Jvm.Cond.code (⟨"StretchedRowsModel", "number", "(II)I"⟩ : Jvm.MethodName) prog_11_method_6_code 3 (some .int)).before args0 about = true :=
  su_hand_word (m := ⟨3, 5⟩) (by decide +kernel) rfl (by decide +kernel) (by decide +kernel)
theorem wz1.code104 : (Jvm.Cond.code (⟨"StretchedRowsModel", "gather", "(I)V"⟩ : Jvm.MethodName) prog_11_method_16_code 4 none).before args0 about = true :=
  su_hand_word (m := ⟨3, 15⟩) (by decide +kernel) rfl (by decide +kernel) (by decide +kernel)
theorem wz1.code105 : (Jvm.Cond.code (⟨"StretchedRowsModel", "isBefore", "(II)Z"⟩ : Jvm.MethodName) prog_11_method_15_code 3 (some .boolean)).before args0 about = true :=
  su_hand_word (m := ⟨3, 14⟩) (by decide +kernel) rfl (by decide +kernel) (by decide +kernel)
theorem wz1.code106 : (Jvm.Cond.code (⟨"StretchedRowsModel", "widest", "(II)I"⟩ : Jvm.MethodName) prog_11_method_23_code 5 (some .int)).before args0 about = true :=
  su_hand_word (m := ⟨3, 22⟩) (by decide +kernel) rfl (by decide +kernel) (by decide +kernel)
theorem wz1.code107 : (Jvm.Cond.code (⟨"StretchedRowsModel", "hypo", "(I)I"⟩ : Jvm.MethodName) prog_11_method_22_code 2 (some .int)).before args0 about = true :=
  su_hand_word (m := ⟨3, 21⟩) (by decide +kernel) rfl (by decide +kernel) (by decide +kernel)
theorem wz1.code108 : (Jvm.Cond.code (⟨"StretchedRowsModel", "base", "(I)I"⟩ : Jvm.MethodName) prog_11_method_21_code 2 (some .int)).before args0 about = true :=
  su_hand_word (m := ⟨3, 20⟩) (by decide +kernel) rfl (by decide +kernel) (by decide +kernel)
theorem wz1.code109 : (Jvm.Cond.code (⟨"StretchedRowsModel", "clamp", "(II)I"⟩ : Jvm.MethodName) prog_11_method_20_code 4 (some .int)).before args0 about = true :=
  su_hand_word (m := ⟨3, 19⟩) (by decide +kernel) rfl (by decide +kernel) (by decide +kernel)
theorem wz1.code110 : (Jvm.Cond.code (⟨"StretchedRowsModel", "gaps", "(II)I"⟩ : Jvm.MethodName) prog_11_method_24_code 3 (some .int)).before args0 about = true :=
  su_hand_word (m := ⟨3, 23⟩) (by decide +kernel) rfl (by decide +kernel) (by decide +kernel)
theorem wz1.code111 : (Jvm.Cond.code (⟨"StretchedRowsModel", "trackCount", "(I)I"⟩ : Jvm.MethodName) prog_11_method_17_code 2 (some .int)).before args0 about = true :=
  su_hand_word (m := ⟨3, 16⟩) (by decide +kernel) rfl (by decide +kernel) (by decide +kernel)
theorem wz1.code112 : (Jvm.Cond.code (⟨"StretchedRowsModel", "isShare", "(II)Z"⟩ : Jvm.MethodName) prog_11_method_18_code 3 (some .boolean)).before args0 about = true :=
  su_hand_word (m := ⟨3, 17⟩) (by decide +kernel) rfl (by decide +kernel) (by decide +kernel)
theorem wz1.code113 : (Jvm.Cond.code (⟨"StretchedRowsModel", "trackNumber", "(II)I"⟩ : Jvm.MethodName) prog_11_method_19_code 3 (some .int)).before args0 about = true :=
  su_hand_word (m := ⟨3, 18⟩) (by decide +kernel) rfl (by decide +kernel) (by decide +kernel)
theorem wz1.code114 : (Jvm.Cond.code (⟨"StretchedRowsModel", "layout", "(I)I"⟩ : Jvm.MethodName) prog_11_method_48_code 4 (some .int)).before args0 about = true :=
  su_hand_word (m := ⟨3, 47⟩) (by decide +kernel) rfl (by decide +kernel) (by decide +kernel)
theorem wz1.code115 : (Jvm.Cond.code (⟨"StretchedRowsModel", "root", "()I"⟩ : Jvm.MethodName) prog_11_method_47_code 2 (some .int)).before args0 about = true :=
  su_hand_word (m := ⟨3, 46⟩) (by decide +kernel) rfl (by decide +kernel) (by decide +kernel)
theorem wz1.code116 : (Jvm.Cond.code (⟨"StretchedRowsModel", "spread", "(I)V"⟩ : Jvm.MethodName) prog_11_method_36_code 5 none).before args0 about = true :=
  su_hand_word (m := ⟨3, 35⟩) (by decide +kernel) rfl (by decide +kernel) (by decide +kernel)
theorem wz1.code117 : (Jvm.Cond.code (⟨"StretchedRowsModel", "dealTracks", "(I)V"⟩ : Jvm.MethodName) prog_11_method_29_code 8 none).before args0 about = true :=
  su_hand_word (m := ⟨3, 28⟩) (by decide +kernel) rfl (by decide +kernel) (by decide +kernel)
theorem wz1.code118 : (Jvm.Cond.code (⟨"StretchedRowsModel", "inner", "(I)I"⟩ : Jvm.MethodName) prog_11_method_28_code 3 (some .int)).before args0 about = true :=
  su_hand_word (m := ⟨3, 27⟩) (by decide +kernel) rfl (by decide +kernel) (by decide +kernel)
theorem wz1.code119 : (Jvm.Cond.code (⟨"StretchedRowsModel", "lineEnd", "(II)I"⟩ : Jvm.MethodName) prog_11_method_30_code 5 (some .int)).before args0 about = true :=
  su_hand_word (m := ⟨3, 29⟩) (by decide +kernel) rfl (by decide +kernel) (by decide +kernel)
theorem wz1.code120 : (Jvm.Cond.code (⟨"StretchedRowsModel", "stretch", "(III)V"⟩ : Jvm.MethodName) prog_11_method_35_code 10 none).before args0 about = true :=
  su_hand_word (m := ⟨3, 34⟩) (by decide +kernel) rfl (by decide +kernel) (by decide +kernel)
theorem wz1.code121 : (Jvm.Cond.code (⟨"StretchedRowsModel", "restOf", "(III)I"⟩ : Jvm.MethodName) prog_11_method_31_code 6 (some .int)).before args0 about = true :=
  su_hand_word (m := ⟨3, 30⟩) (by decide +kernel) rfl (by decide +kernel) (by decide +kernel)
theorem wz1.code122 : (Jvm.Cond.code (⟨"StretchedRowsModel", "deal", "(IIZI)V"⟩ : Jvm.MethodName) prog_11_method_32_code 14 none).before args0 about = true :=
  su_hand_word (m := ⟨3, 31⟩) (by decide +kernel) rfl (by decide +kernel) (by decide +kernel)
theorem wz1.code123 : (Jvm.Cond.code (⟨"StretchedRowsModel", "part", "(IZ)J"⟩ : Jvm.MethodName) prog_11_method_33_code 3 (some .long)).before args0 about = true :=
  su_hand_word (m := ⟨3, 32⟩) (by decide +kernel) rfl (by decide +kernel) (by decide +kernel)
theorem wz1.code124 : (Jvm.Cond.code (⟨"StretchedRowsModel", "settle", "(II)Z"⟩ : Jvm.MethodName) prog_11_method_34_code 7 (some .boolean)).before args0 about = true :=
  su_hand_word (m := ⟨3, 33⟩) (by decide +kernel) rfl (by decide +kernel) (by decide +kernel)
theorem wz1.code125 : (Jvm.Cond.code (⟨"StretchedRowsModel", "measure", "(I)V"⟩ : Jvm.MethodName) prog_11_method_40_code 6 none).before args0 about = true :=
  su_hand_word (m := ⟨3, 39⟩) (by decide +kernel) rfl (by decide +kernel) (by decide +kernel)
theorem wz1.code126 : (Jvm.Cond.code (⟨"StretchedRowsModel", "textLines", "(I)I"⟩ : Jvm.MethodName) prog_11_method_37_code 7 (some .int)).before args0 about = true :=
  su_hand_word (m := ⟨3, 36⟩) (by decide +kernel) rfl (by decide +kernel) (by decide +kernel)
theorem wz1.code127 : (Jvm.Cond.code (⟨"StretchedRowsModel", "nextLine", "(II)I"⟩ : Jvm.MethodName) prog_11_method_38_code 4 (some .int)).before args0 about = true :=
  su_hand_word (m := ⟨3, 37⟩) (by decide +kernel) rfl (by decide +kernel) (by decide +kernel)
theorem wz1.code128 : (Jvm.Cond.code (⟨"StretchedRowsModel", "tallest", "(II)I"⟩ : Jvm.MethodName) prog_11_method_39_code 5 (some .int)).before args0 about = true :=
  su_hand_word (m := ⟨3, 38⟩) (by decide +kernel) rfl (by decide +kernel) (by decide +kernel)
theorem wz1.code129 : (Jvm.Cond.code (⟨"StretchedRowsModel", "place", "(I)V"⟩ : Jvm.MethodName) prog_11_method_46_code 5 none).before args0 about = true :=
  su_hand_word (m := ⟨3, 45⟩) (by decide +kernel) rfl (by decide +kernel) (by decide +kernel)
theorem wz1.code130 : (Jvm.Cond.code (⟨"StretchedRowsModel", "placeColumn", "(I)V"⟩ : Jvm.MethodName) prog_11_method_42_code 7 none).before args0 about = true :=
  su_hand_word (m := ⟨3, 41⟩) (by decide +kernel) rfl (by decide +kernel) (by decide +kernel)
theorem wz1.code131 : (Jvm.Cond.code (⟨"StretchedRowsModel", "half", "(I)I"⟩ : Jvm.MethodName) prog_11_method_41_code 1 (some .int)).before args0 about = true :=
  su_hand_word (m := ⟨3, 40⟩) (by decide +kernel) rfl (by decide +kernel) (by decide +kernel)
theorem wz1.code132 : (Jvm.Cond.code (⟨"StretchedRowsModel", "placeAcross", "(III)V"⟩ : Jvm.MethodName) prog_11_method_44_code 11 none).before args0 about = true :=
  su_hand_word (m := ⟨3, 43⟩) (by decide +kernel) rfl (by decide +kernel) (by decide +kernel)
theorem wz1.code133 : (Jvm.Cond.code (⟨"StretchedRowsModel", "placeTracks", "(III)V"⟩ : Jvm.MethodName) prog_11_method_45_code 6 none).before args0 about = true :=
  su_hand_word (m := ⟨3, 44⟩) (by decide +kernel) rfl (by decide +kernel) (by decide +kernel)
theorem wz1.code134 : (Jvm.Cond.code (⟨"StretchedRowsModel", "placeDown", "(III)V"⟩ : Jvm.MethodName) prog_11_method_43_code 9 none).before args0 about = true :=
  su_hand_word (m := ⟨3, 42⟩) (by decide +kernel) rfl (by decide +kernel) (by decide +kernel)
theorem wz1.code135 : (Jvm.Cond.code (⟨"StretchedRowsModel", "where", "(II)I"⟩ : Jvm.MethodName) prog_11_method_50_code 3 (some .int)).before args0 about = true :=
  su_hand_word (m := ⟨3, 49⟩) (by decide +kernel) rfl (by decide +kernel) (by decide +kernel)
theorem wz1.code136 : (Jvm.Cond.code (⟨"StretchedRowsModel", "isLaid", "(I)Z"⟩ : Jvm.MethodName) prog_11_method_49_code 2 (some .boolean)).before args0 about = true :=
  su_hand_word (m := ⟨3, 48⟩) (by decide +kernel) rfl (by decide +kernel) (by decide +kernel)
theorem wz1.code137 : (Jvm.Cond.code (⟨"StretchedRowsModel", "lines", "(I)I"⟩ : Jvm.MethodName) prog_11_method_51_code 2 (some .int)).before args0 about = true :=
  su_hand_word (m := ⟨3, 50⟩) (by decide +kernel) rfl (by decide +kernel) (by decide +kernel)
theorem wz1.code138 : (Jvm.Cond.code (⟨"StretchedRowsModel", "at", "(II)I"⟩ : Jvm.MethodName) prog_11_method_53_code 8 (some .int)).before args0 about = true :=
  su_hand_word (m := ⟨3, 52⟩) (by decide +kernel) rfl (by decide +kernel) (by decide +kernel)
theorem wz1.code139 : (Jvm.Cond.code (⟨"StretchedRowsModel", "has", "(III)Z"⟩ : Jvm.MethodName) prog_11_method_52_code 4 (some .boolean)).before args0 about = true :=
  su_hand_word (m := ⟨3, 51⟩) (by decide +kernel) rfl (by decide +kernel) (by decide +kernel)
theorem wz1.code140 : (Jvm.Cond.code (⟨"StretchedRowsModel", "nodes", "()I"⟩ : Jvm.MethodName) prog_11_method_54_code 1 (some .int)).before args0 about = true :=
  su_hand_word (m := ⟨3, 53⟩) (by decide +kernel) rfl (by decide +kernel) (by decide +kernel)

set_option maxRecDepth 16384 in
theorem wz1.codes_are_5 : tables_1_5.filter su_isCode = [Jvm.Cond.code (⟨"StretchedRowsModel", "most", "(I)I"⟩ : Jvm.MethodName) prog_11_method_8_code 1 (some .int),
    Jvm.Cond.code (⟨"StretchedRowsModel", "word", "(II)I"⟩ : Jvm.MethodName) prog_11_method_13_code 4 (some .int),
    Jvm.Cond.code (⟨"StretchedRowsModel", "track", "(IZI)I"⟩ : Jvm.MethodName) prog_11_method_14_code 6 (some .int),
    Jvm.Cond.code (⟨"StretchedRowsModel", "natural", "(I)I"⟩ : Jvm.MethodName) prog_11_method_27_code 2 (some .int),
    Jvm.Cond.code (⟨"StretchedRowsModel", "findNaturals", "()V"⟩ : Jvm.MethodName) prog_11_method_26_code 2 none,
    Jvm.Cond.code (⟨"StretchedRowsModel", "naturalOf", "(I)I"⟩ : Jvm.MethodName) prog_11_method_25_code 5 (some .int),
    Jvm.Cond.code (⟨"StretchedRowsModel", "number", "(II)I"⟩ : Jvm.MethodName) prog_11_method_6_code 3 (some .int),
    Jvm.Cond.code (⟨"StretchedRowsModel", "gather", "(I)V"⟩ : Jvm.MethodName) prog_11_method_16_code 4 none,
    Jvm.Cond.code (⟨"StretchedRowsModel", "isBefore", "(II)Z"⟩ : Jvm.MethodName) prog_11_method_15_code 3 (some .boolean),
    Jvm.Cond.code (⟨"StretchedRowsModel", "widest", "(II)I"⟩ : Jvm.MethodName) prog_11_method_23_code 5 (some .int),
    Jvm.Cond.code (⟨"StretchedRowsModel", "hypo", "(I)I"⟩ : Jvm.MethodName) prog_11_method_22_code 2 (some .int),
    Jvm.Cond.code (⟨"StretchedRowsModel", "base", "(I)I"⟩ : Jvm.MethodName) prog_11_method_21_code 2 (some .int),
    Jvm.Cond.code (⟨"StretchedRowsModel", "clamp", "(II)I"⟩ : Jvm.MethodName) prog_11_method_20_code 4 (some .int),
    Jvm.Cond.code (⟨"StretchedRowsModel", "gaps", "(II)I"⟩ : Jvm.MethodName) prog_11_method_24_code 3 (some .int),
    Jvm.Cond.code (⟨"StretchedRowsModel", "trackCount", "(I)I"⟩ : Jvm.MethodName) prog_11_method_17_code 2 (some .int),
    Jvm.Cond.code (⟨"StretchedRowsModel", "isShare", "(II)Z"⟩ : Jvm.MethodName) prog_11_method_18_code 3 (some .boolean),
    Jvm.Cond.code (⟨"StretchedRowsModel", "trackNumber", "(II)I"⟩ : Jvm.MethodName) prog_11_method_19_code 3 (some .int),
    Jvm.Cond.code (⟨"StretchedRowsModel", "layout", "(I)I"⟩ : Jvm.MethodName) prog_11_method_48_code 4 (some .int),
    Jvm.Cond.code (⟨"StretchedRowsModel", "root", "()I"⟩ : Jvm.MethodName) prog_11_method_47_code 2 (some .int),
    Jvm.Cond.code (⟨"StretchedRowsModel", "spread", "(I)V"⟩ : Jvm.MethodName) prog_11_method_36_code 5 none,
    Jvm.Cond.code (⟨"StretchedRowsModel", "dealTracks", "(I)V"⟩ : Jvm.MethodName) prog_11_method_29_code 8 none,
    Jvm.Cond.code (⟨"StretchedRowsModel", "inner", "(I)I"⟩ : Jvm.MethodName) prog_11_method_28_code 3 (some .int),
    Jvm.Cond.code (⟨"StretchedRowsModel", "lineEnd", "(II)I"⟩ : Jvm.MethodName) prog_11_method_30_code 5 (some .int),
    Jvm.Cond.code (⟨"StretchedRowsModel", "stretch", "(III)V"⟩ : Jvm.MethodName) prog_11_method_35_code 10 none,
    Jvm.Cond.code (⟨"StretchedRowsModel", "restOf", "(III)I"⟩ : Jvm.MethodName) prog_11_method_31_code 6 (some .int),
    Jvm.Cond.code (⟨"StretchedRowsModel", "deal", "(IIZI)V"⟩ : Jvm.MethodName) prog_11_method_32_code 14 none,
    Jvm.Cond.code (⟨"StretchedRowsModel", "part", "(IZ)J"⟩ : Jvm.MethodName) prog_11_method_33_code 3 (some .long),
    Jvm.Cond.code (⟨"StretchedRowsModel", "settle", "(II)Z"⟩ : Jvm.MethodName) prog_11_method_34_code 7 (some .boolean),
    Jvm.Cond.code (⟨"StretchedRowsModel", "measure", "(I)V"⟩ : Jvm.MethodName) prog_11_method_40_code 6 none,
    Jvm.Cond.code (⟨"StretchedRowsModel", "textLines", "(I)I"⟩ : Jvm.MethodName) prog_11_method_37_code 7 (some .int),
    Jvm.Cond.code (⟨"StretchedRowsModel", "nextLine", "(II)I"⟩ : Jvm.MethodName) prog_11_method_38_code 4 (some .int),
    Jvm.Cond.code (⟨"StretchedRowsModel", "tallest", "(II)I"⟩ : Jvm.MethodName) prog_11_method_39_code 5 (some .int),
    Jvm.Cond.code (⟨"StretchedRowsModel", "place", "(I)V"⟩ : Jvm.MethodName) prog_11_method_46_code 5 none,
    Jvm.Cond.code (⟨"StretchedRowsModel", "placeColumn", "(I)V"⟩ : Jvm.MethodName) prog_11_method_42_code 7 none,
    Jvm.Cond.code (⟨"StretchedRowsModel", "half", "(I)I"⟩ : Jvm.MethodName) prog_11_method_41_code 1 (some .int),
    Jvm.Cond.code (⟨"StretchedRowsModel", "placeAcross", "(III)V"⟩ : Jvm.MethodName) prog_11_method_44_code 11 none,
    Jvm.Cond.code (⟨"StretchedRowsModel", "placeTracks", "(III)V"⟩ : Jvm.MethodName) prog_11_method_45_code 6 none,
    Jvm.Cond.code (⟨"StretchedRowsModel", "placeDown", "(III)V"⟩ : Jvm.MethodName) prog_11_method_43_code 9 none,
    Jvm.Cond.code (⟨"StretchedRowsModel", "where", "(II)I"⟩ : Jvm.MethodName) prog_11_method_50_code 3 (some .int),
    Jvm.Cond.code (⟨"StretchedRowsModel", "isLaid", "(I)Z"⟩ : Jvm.MethodName) prog_11_method_49_code 2 (some .boolean),
    Jvm.Cond.code (⟨"StretchedRowsModel", "lines", "(I)I"⟩ : Jvm.MethodName) prog_11_method_51_code 2 (some .int),
    Jvm.Cond.code (⟨"StretchedRowsModel", "at", "(II)I"⟩ : Jvm.MethodName) prog_11_method_53_code 8 (some .int),
    Jvm.Cond.code (⟨"StretchedRowsModel", "has", "(III)Z"⟩ : Jvm.MethodName) prog_11_method_52_code 4 (some .boolean),
    Jvm.Cond.code (⟨"StretchedRowsModel", "nodes", "()I"⟩ : Jvm.MethodName) prog_11_method_54_code 1 (some .int)] := by
  first
  | rfl
  | simp only [tables_1_5, List.filter, su_isCode]
theorem wz1.codes_hold_5 : ∀ c ∈ tables_1_5.filter su_isCode, c.before args0 about = true := by
  rw [codes_are_5]
  exact List.forall_mem_cons.mpr ⟨code97, List.forall_mem_cons.mpr ⟨code98, List.forall_mem_cons.mpr ⟨code99, List.forall_mem_cons.mpr ⟨code100, List.forall_mem_cons.mpr ⟨code101, List.forall_mem_cons.mpr ⟨code102, List.forall_mem_cons.mpr ⟨code103, List.forall_mem_cons.mpr ⟨code104, List.forall_mem_cons.mpr ⟨code105, List.forall_mem_cons.mpr ⟨code106, List.forall_mem_cons.mpr ⟨code107, List.forall_mem_cons.mpr ⟨code108, List.forall_mem_cons.mpr ⟨code109, List.forall_mem_cons.mpr ⟨code110, List.forall_mem_cons.mpr ⟨code111, List.forall_mem_cons.mpr ⟨code112, List.forall_mem_cons.mpr ⟨code113, List.forall_mem_cons.mpr ⟨code114, List.forall_mem_cons.mpr ⟨code115, List.forall_mem_cons.mpr ⟨code116, List.forall_mem_cons.mpr ⟨code117, List.forall_mem_cons.mpr ⟨code118, List.forall_mem_cons.mpr ⟨code119, List.forall_mem_cons.mpr ⟨code120, List.forall_mem_cons.mpr ⟨code121, List.forall_mem_cons.mpr ⟨code122, List.forall_mem_cons.mpr ⟨code123, List.forall_mem_cons.mpr ⟨code124, List.forall_mem_cons.mpr ⟨code125, List.forall_mem_cons.mpr ⟨code126, List.forall_mem_cons.mpr ⟨code127, List.forall_mem_cons.mpr ⟨code128, List.forall_mem_cons.mpr ⟨code129, List.forall_mem_cons.mpr ⟨code130, List.forall_mem_cons.mpr ⟨code131, List.forall_mem_cons.mpr ⟨code132, List.forall_mem_cons.mpr ⟨code133, List.forall_mem_cons.mpr ⟨code134, List.forall_mem_cons.mpr ⟨code135, List.forall_mem_cons.mpr ⟨code136, List.forall_mem_cons.mpr ⟨code137, List.forall_mem_cons.mpr ⟨code138, List.forall_mem_cons.mpr ⟨code139, List.forall_mem_cons.mpr ⟨code140, List.forall_mem_nil _⟩⟩⟩⟩⟩⟩⟩⟩⟩⟩⟩⟩⟩⟩⟩⟩⟩⟩⟩⟩⟩⟩⟩⟩⟩⟩⟩⟩⟩⟩⟩⟩⟩⟩⟩⟩⟩⟩⟩⟩⟩⟩⟩⟩
set_option maxRecDepth 16384 in
theorem wz1.others_5_0 : (tables_1_5.take 40).all (fun c => su_isCode c || c.before args0 about) = true := by decide +kernel
set_option maxRecDepth 16384 in
theorem wz1.others_5_1 : ((tables_1_5.drop 40).take 40).all (fun c => su_isCode c || c.before args0 about) = true := by decide +kernel

set_option maxRecDepth 16384 in
theorem wz1.others_5_2 : (((tables_1_5.drop 40).drop 40).take 40).all (fun c => su_isCode c || c.before args0 about) = true := by decide +kernel
set_option maxRecDepth 16384 in
theorem wz1.others_5_3 : ((((tables_1_5.drop 40).drop 40).drop 40).take 40).all (fun c => su_isCode c || c.before args0 about) = true := by decide +kernel

set_option maxRecDepth 16384 in
theorem wz1.others_5_4 : ((((tables_1_5.drop 40).drop 40).drop 40).drop 40).all (fun c => su_isCode c || c.before args0 about) = true := by decide +kernel
theorem wz1.others_hold_5 : tables_1_5.all (fun c => su_isCode c || c.before args0 about) = true := su_all_split _ 40 tables_1_5 others_5_0 (su_all_split _ 40 (tables_1_5.drop 40) others_5_1 (su_all_split _ 40 ((tables_1_5.drop 40).drop 40) others_5_2 (su_all_split _ 40 (((tables_1_5.drop 40).drop 40).drop 40) others_5_3 others_5_4)))
theorem wz1.words_5 : ∀ c ∈ tables_1_5, c.before args0 about = true := fun c h => su_words others_hold_5 codes_hold_5 c h
theorem wz1.words : ∀ c ∈ (Cond.code x code maxLocals ret :: tables_1), c.before args0 about = true := by
  intro c hc
  rcases List.mem_cons.mp hc with h | h
  · rw [h]; exact word_code
  · have h1 : c ∈ tables_1_1 ++ (tables_1_2 ++ (tables_1_3 ++ (tables_1_4 ++ tables_1_5))) := h
    rcases List.mem_append.mp h1 with h2 | h1
    · exact words_1 c h2
    rcases List.mem_append.mp h1 with h2 | h1
    · exact words_2 c h2
    rcases List.mem_append.mp h1 with h2 | h1
    · exact words_3 c h2
    rcases List.mem_append.mp h1 with h2 | h1
    · exact words_4 c h2
    exact words_5 c h1
set_option maxRecDepth 16384 in
theorem wz1.premises : wz1.about.frames = Frame.invoking ⟨0, 0⟩ args0 :: Lib.HandBits.below0 ∧ argsFit wz1.about.vm ⟨0, 0⟩ args0 = true ∧ heapFits wz1.about = true ∧ (headSpec (Jvm.Cond.code x code maxLocals ret :: tables_1) room_1).applies x e0.platform wz1.about = true ∧ rest_1_c.before args0 wz1.about = true ∧ (Cond.and given_1 narrow_1).before args0 wz1.about = true :=
  ⟨rfl, by decide +kernel, by decide +kernel,
    (Spec.applies_iff rfl).mpr ⟨rfl, rfl, rfl, by decide +kernel, by decide +kernel, by decide +kernel, launch0.hasRoom_least _ room_1 (by decide +kernel) (by decide +kernel) (by decide +kernel) (by decide +kernel) (by decide +kernel) (by decide +kernel), atoms_intro words⟩,
    (show rest_1_c.before args0 about = true by decide +kernel), (show (Cond.and given_1 narrow_1).before args0 about = true by decide +kernel)⟩
def wz1.selOf : Selection → Nat
  | .method _ => 1
  | .none => 2
  | .several => 3
  | .refused => 4
/-- Object's clone is not selected for the array that AT_FIRST holds -/
theorem wz1.noClone : (wz1.about.methodNamed? ⟨"java/lang/Object", "clone", "()Ljava/lang/Object;"⟩).map (fun m => selOf (selectMethod {} wz1.about.vm 29 m)) = some 2 := by decide +kernel
/-- .. though for an array of the class called [I it is -/
theorem wz1.cloneOfI : (wz1.about.methodNamed? ⟨"java/lang/Object", "clone", "()Ljava/lang/Object;"⟩).map (fun m => selOf (selectMethod {} wz1.about.vm 21 m)) = some 1 := by decide +kernel
end
section
def wz1.run (tb : Tables) (e : Env) : Nat → State → Nat
  | 0, _ => 9
  | n + 1, s => match s.frames with
    | [_] => 4
    | [.throwing _, _] => 2
    | _ => match s.status with
      | .running => match s.curStatus? with
        | some .runnable => match s.alone with
          | true => wz1.run tb e n (stepThread tb e s).1
          | false => 7
        | _ => 6
      | _ => 1
set_option maxRecDepth 100000 in
theorem wz1.P30 : wz1.run wz1.p0.tables wz1.e0 30 wz1.about = 9 := by decide +kernel
set_option maxRecDepth 100000 in
theorem wz1.P60 : wz1.run wz1.p0.tables wz1.e0 60 wz1.about = 9 := by decide +kernel
end
