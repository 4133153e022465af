section
-- ===== PART A: goes FIRST, ahead of the names: the tables' words, and 'selects' of the private methods out of them =====
/-- a private method of a class that the tables say can be made, by its rows of tables_1 -/
def lw_okq (q : MethodName × Nat) : Prop := (q.1.cls ≠ "java/lang/invoke/MethodHandle" ∧ q.1.cls ≠ "java/lang/invoke/VarHandle") ∧ Cond.instantiable q.1.cls q.2 ∈ tables_1 ∧ Cond.privateMethod q.1 ∈ tables_1 ∧ Cond.instanceMethod q.1 ∈ tables_1
theorem lw_p0 : lw_okq (⟨"PanelOffice", "refreshTally", "()V"⟩, 12) := ⟨⟨by decide +kernel, by decide +kernel⟩, List.mem_of_getElem? (i := 20) (by decide +kernel), List.mem_of_getElem? (i := 288) (by decide +kernel), List.mem_of_getElem? (i := 289) (by decide +kernel)⟩
theorem lw_p1 : lw_okq (⟨"PanelOffice$Tally", "stateOf", "(J)I"⟩, 13) := ⟨⟨by decide +kernel, by decide +kernel⟩, List.mem_of_getElem? (i := 88) (by decide +kernel), List.mem_of_getElem? (i := 297) (by decide +kernel), List.mem_of_getElem? (i := 298) (by decide +kernel)⟩
theorem lw_p2 : lw_okq (⟨"PanelOffice$Tally", "enter", "(JI)I"⟩, 13) := ⟨⟨by decide +kernel, by decide +kernel⟩, List.mem_of_getElem? (i := 88) (by decide +kernel), List.mem_of_getElem? (i := 302) (by decide +kernel), List.mem_of_getElem? (i := 303) (by decide +kernel)⟩
theorem lw_p3 : lw_okq (⟨"PanelOffice$Tally", "addLayer", "(ILPanelOffice$Quotas;I)V"⟩, 13) := ⟨⟨by decide +kernel, by decide +kernel⟩, List.mem_of_getElem? (i := 88) (by decide +kernel), List.mem_of_getElem? (i := 306) (by decide +kernel), List.mem_of_getElem? (i := 307) (by decide +kernel)⟩
theorem lw_p4 : lw_okq (⟨"PanelOffice$Tally", "takesFrom", "(JILPanelOffice$Quotas;I)I"⟩, 13) := ⟨⟨by decide +kernel, by decide +kernel⟩, List.mem_of_getElem? (i := 88) (by decide +kernel), List.mem_of_getElem? (i := 320) (by decide +kernel), List.mem_of_getElem? (i := 321) (by decide +kernel)⟩
theorem lw_p5 : lw_okq (⟨"PanelOffice$Tally", "countAhead", "(LPanelOffice$Quotas;I)V"⟩, 13) := ⟨⟨by decide +kernel, by decide +kernel⟩, List.mem_of_getElem? (i := 88) (by decide +kernel), List.mem_of_getElem? (i := 328) (by decide +kernel), List.mem_of_getElem? (i := 329) (by decide +kernel)⟩
theorem lw_p6 : lw_okq (⟨"PanelOffice$Tally", "isPanel", "(JLPanelOffice$Quotas;I)Z"⟩, 13) := ⟨⟨by decide +kernel, by decide +kernel⟩, List.mem_of_getElem? (i := 88) (by decide +kernel), List.mem_of_getElem? (i := 332) (by decide +kernel), List.mem_of_getElem? (i := 333) (by decide +kernel)⟩
theorem lw_p7 : lw_okq (⟨"PanelOffice$Tally", "aheadWithAny", "(II)J"⟩, 13) := ⟨⟨by decide +kernel, by decide +kernel⟩, List.mem_of_getElem? (i := 88) (by decide +kernel), List.mem_of_getElem? (i := 336) (by decide +kernel), List.mem_of_getElem? (i := 337) (by decide +kernel)⟩
theorem lw_p8 : lw_okq (⟨"PanelOffice", "changed", "()V"⟩, 12) := ⟨⟨by decide +kernel, by decide +kernel⟩, List.mem_of_getElem? (i := 20) (by decide +kernel), List.mem_of_getElem? (i := 369) (by decide +kernel), List.mem_of_getElem? (i := 370) (by decide +kernel)⟩
theorem lw_p9 : lw_okq (⟨"java/lang/Throwable", "fillInStackTrace", "(I)Ljava/lang/Throwable;"⟩, 6) := ⟨⟨by decide +kernel, by decide +kernel⟩, List.mem_of_getElem? (i := 433) (by decide +kernel), List.mem_of_getElem? (i := 431) (by decide +kernel), List.mem_of_getElem? (i := 432) (by decide +kernel)⟩
theorem lw_p10 : lw_okq (⟨"PanelOffice", "requireOpen", "()V"⟩, 12) := ⟨⟨by decide +kernel, by decide +kernel⟩, List.mem_of_getElem? (i := 20) (by decide +kernel), List.mem_of_getElem? (i := 463) (by decide +kernel), List.mem_of_getElem? (i := 464) (by decide +kernel)⟩
theorem lw_p11 : lw_okq (⟨"PanelOffice$Pool", "isKind", "(I)Z"⟩, 6) := ⟨⟨by decide +kernel, by decide +kernel⟩, List.mem_of_getElem? (i := 28) (by decide +kernel), List.mem_of_getElem? (i := 506) (by decide +kernel), List.mem_of_getElem? (i := 507) (by decide +kernel)⟩
theorem lw_p12 : lw_okq (⟨"PanelOffice$Pool", "kindsBelow", "(I)I"⟩, 6) := ⟨⟨by decide +kernel, by decide +kernel⟩, List.mem_of_getElem? (i := 28) (by decide +kernel), List.mem_of_getElem? (i := 510) (by decide +kernel), List.mem_of_getElem? (i := 511) (by decide +kernel)⟩
theorem lw_p13 : lw_okq (⟨"PanelOffice$Pool", "insertKind", "(II)V"⟩, 6) := ⟨⟨by decide +kernel, by decide +kernel⟩, List.mem_of_getElem? (i := 28) (by decide +kernel), List.mem_of_getElem? (i := 519) (by decide +kernel), List.mem_of_getElem? (i := 520) (by decide +kernel)⟩
theorem lw_p14 : lw_okq (⟨"PanelOffice", "requireCountable", "()V"⟩, 12) := ⟨⟨by decide +kernel, by decide +kernel⟩, List.mem_of_getElem? (i := 20) (by decide +kernel), List.mem_of_getElem? (i := 552) (by decide +kernel), List.mem_of_getElem? (i := 553) (by decide +kernel)⟩
theorem lw_p15 : lw_okq (⟨"PanelOffice", "requirePerson", "(I)V"⟩, 12) := ⟨⟨by decide +kernel, by decide +kernel⟩, List.mem_of_getElem? (i := 20) (by decide +kernel), List.mem_of_getElem? (i := 583) (by decide +kernel), List.mem_of_getElem? (i := 584) (by decide +kernel)⟩
def lw_privs_1 : List (MethodName × Nat) := [(⟨"PanelOffice", "refreshTally", "()V"⟩, 12), (⟨"PanelOffice$Tally", "stateOf", "(J)I"⟩, 13), (⟨"PanelOffice$Tally", "enter", "(JI)I"⟩, 13), (⟨"PanelOffice$Tally", "addLayer", "(ILPanelOffice$Quotas;I)V"⟩, 13), (⟨"PanelOffice$Tally", "takesFrom", "(JILPanelOffice$Quotas;I)I"⟩, 13), (⟨"PanelOffice$Tally", "countAhead", "(LPanelOffice$Quotas;I)V"⟩, 13), (⟨"PanelOffice$Tally", "isPanel", "(JLPanelOffice$Quotas;I)Z"⟩, 13), (⟨"PanelOffice$Tally", "aheadWithAny", "(II)J"⟩, 13), (⟨"PanelOffice", "changed", "()V"⟩, 12), (⟨"java/lang/Throwable", "fillInStackTrace", "(I)Ljava/lang/Throwable;"⟩, 6), (⟨"PanelOffice", "requireOpen", "()V"⟩, 12), (⟨"PanelOffice$Pool", "isKind", "(I)Z"⟩, 6), (⟨"PanelOffice$Pool", "kindsBelow", "(I)I"⟩, 6), (⟨"PanelOffice$Pool", "insertKind", "(II)V"⟩, 6), (⟨"PanelOffice", "requireCountable", "()V"⟩, 12), (⟨"PanelOffice", "requirePerson", "(I)V"⟩, 12)]
theorem lw_r1 : ∀ q ∈ lw_privs_1, lw_okq q := List.forall_mem_cons.mpr ⟨lw_p0, List.forall_mem_cons.mpr ⟨lw_p1, List.forall_mem_cons.mpr ⟨lw_p2, List.forall_mem_cons.mpr ⟨lw_p3, List.forall_mem_cons.mpr ⟨lw_p4, List.forall_mem_cons.mpr ⟨lw_p5, List.forall_mem_cons.mpr ⟨lw_p6, List.forall_mem_cons.mpr ⟨lw_p7, List.forall_mem_cons.mpr ⟨lw_p8, List.forall_mem_cons.mpr ⟨lw_p9, List.forall_mem_cons.mpr ⟨lw_p10, List.forall_mem_cons.mpr ⟨lw_p11, List.forall_mem_cons.mpr ⟨lw_p12, List.forall_mem_cons.mpr ⟨lw_p13, List.forall_mem_cons.mpr ⟨lw_p14, List.forall_mem_cons.mpr ⟨lw_p15, fun _ h => absurd h List.not_mem_nil⟩⟩⟩⟩⟩⟩⟩⟩⟩⟩⟩⟩⟩⟩⟩⟩
theorem lw_p16 : lw_okq (⟨"PanelOffice$Tally", "countBehind", "()V"⟩, 13) := ⟨⟨by decide +kernel, by decide +kernel⟩, List.mem_of_getElem? (i := 88) (by decide +kernel), List.mem_of_getElem? (i := 596) (by decide +kernel), List.mem_of_getElem? (i := 597) (by decide +kernel)⟩
theorem lw_p17 : lw_okq (⟨"PanelOffice$Tally", "passOn", "(II)V"⟩, 13) := ⟨⟨by decide +kernel, by decide +kernel⟩, List.mem_of_getElem? (i := 88) (by decide +kernel), List.mem_of_getElem? (i := 603) (by decide +kernel), List.mem_of_getElem? (i := 604) (by decide +kernel)⟩
theorem lw_p18 : lw_okq (⟨"PanelOffice$Tally", "aheadWithOneOf", "(II)J"⟩, 13) := ⟨⟨by decide +kernel, by decide +kernel⟩, List.mem_of_getElem? (i := 88) (by decide +kernel), List.mem_of_getElem? (i := 607) (by decide +kernel), List.mem_of_getElem? (i := 608) (by decide +kernel)⟩
theorem lw_p19 : lw_okq (⟨"PanelOffice$Clash", "tryWithout", "(IILPanelOffice$Quotas;I)V"⟩, 6) := ⟨⟨by decide +kernel, by decide +kernel⟩, List.mem_of_getElem? (i := 155) (by decide +kernel), List.mem_of_getElem? (i := 643) (by decide +kernel), List.mem_of_getElem? (i := 644) (by decide +kernel)⟩
theorem lw_p20 : lw_okq (⟨"PanelOffice", "requirePlace", "(I)V"⟩, 12) := ⟨⟨by decide +kernel, by decide +kernel⟩, List.mem_of_getElem? (i := 20) (by decide +kernel), List.mem_of_getElem? (i := 670) (by decide +kernel), List.mem_of_getElem? (i := 671) (by decide +kernel)⟩
theorem lw_p21 : lw_okq (⟨"PanelOffice$Ranking", "tellKind", "(IIJ[II)V"⟩, 2) := ⟨⟨by decide +kernel, by decide +kernel⟩, List.mem_of_getElem? (i := 142) (by decide +kernel), List.mem_of_getElem? (i := 684) (by decide +kernel), List.mem_of_getElem? (i := 685) (by decide +kernel)⟩
theorem lw_p22 : lw_okq (⟨"PanelOffice$Ranking", "membersOf", "(IJ)I"⟩, 2) := ⟨⟨by decide +kernel, by decide +kernel⟩, List.mem_of_getElem? (i := 142) (by decide +kernel), List.mem_of_getElem? (i := 710) (by decide +kernel), List.mem_of_getElem? (i := 711) (by decide +kernel)⟩
theorem lw_p23 : lw_okq (⟨"PanelOffice$Ranking", "indexIn", "(IIJ)J"⟩, 2) := ⟨⟨by decide +kernel, by decide +kernel⟩, List.mem_of_getElem? (i := 142) (by decide +kernel), List.mem_of_getElem? (i := 716) (by decide +kernel), List.mem_of_getElem? (i := 717) (by decide +kernel)⟩
theorem lw_p24 : lw_okq (⟨"PanelOffice", "goalNow", "()J"⟩, 12) := ⟨⟨by decide +kernel, by decide +kernel⟩, List.mem_of_getElem? (i := 20) (by decide +kernel), List.mem_of_getElem? (i := 744) (by decide +kernel), List.mem_of_getElem? (i := 745) (by decide +kernel)⟩
theorem lw_p25 : lw_okq (⟨"PanelOffice$Seats", "addValuesOf", "(I)V"⟩, 9) := ⟨⟨by decide +kernel, by decide +kernel⟩, List.mem_of_getElem? (i := 213) (by decide +kernel), List.mem_of_getElem? (i := 762) (by decide +kernel), List.mem_of_getElem? (i := 763) (by decide +kernel)⟩
theorem lw_p26 : lw_okq (⟨"PanelOffice", "requireNumber", "()V"⟩, 12) := ⟨⟨by decide +kernel, by decide +kernel⟩, List.mem_of_getElem? (i := 20) (by decide +kernel), List.mem_of_getElem? (i := 823) (by decide +kernel), List.mem_of_getElem? (i := 824) (by decide +kernel)⟩
theorem lw_p27 : lw_okq (⟨"PanelOffice", "requireDrawn", "()V"⟩, 12) := ⟨⟨by decide +kernel, by decide +kernel⟩, List.mem_of_getElem? (i := 20) (by decide +kernel), List.mem_of_getElem? (i := 839) (by decide +kernel), List.mem_of_getElem? (i := 840) (by decide +kernel)⟩
theorem lw_p28 : lw_okq (⟨"PanelOfficeModel", "changed", "()V"⟩, 35) := ⟨⟨by decide +kernel, by decide +kernel⟩, List.mem_of_getElem? (i := 903) (by decide +kernel), List.mem_of_getElem? (i := 1027) (by decide +kernel), List.mem_of_getElem? (i := 1028) (by decide +kernel)⟩
theorem lw_p29 : lw_okq (⟨"PanelOfficeModel", "gather", "()V"⟩, 35) := ⟨⟨by decide +kernel, by decide +kernel⟩, List.mem_of_getElem? (i := 903) (by decide +kernel), List.mem_of_getElem? (i := 1031) (by decide +kernel), List.mem_of_getElem? (i := 1032) (by decide +kernel)⟩
theorem lw_p30 : lw_okq (⟨"PanelOfficeModel", "is", "(I)I"⟩, 35) := ⟨⟨by decide +kernel, by decide +kernel⟩, List.mem_of_getElem? (i := 903) (by decide +kernel), List.mem_of_getElem? (i := 1035) (by decide +kernel), List.mem_of_getElem? (i := 1036) (by decide +kernel)⟩
theorem lw_p31 : lw_okq (⟨"PanelOfficeModel", "counts", "()Z"⟩, 35) := ⟨⟨by decide +kernel, by decide +kernel⟩, List.mem_of_getElem? (i := 903) (by decide +kernel), List.mem_of_getElem? (i := 1055) (by decide +kernel), List.mem_of_getElem? (i := 1056) (by decide +kernel)⟩
def lw_privs_2 : List (MethodName × Nat) := [(⟨"PanelOffice$Tally", "countBehind", "()V"⟩, 13), (⟨"PanelOffice$Tally", "passOn", "(II)V"⟩, 13), (⟨"PanelOffice$Tally", "aheadWithOneOf", "(II)J"⟩, 13), (⟨"PanelOffice$Clash", "tryWithout", "(IILPanelOffice$Quotas;I)V"⟩, 6), (⟨"PanelOffice", "requirePlace", "(I)V"⟩, 12), (⟨"PanelOffice$Ranking", "tellKind", "(IIJ[II)V"⟩, 2), (⟨"PanelOffice$Ranking", "membersOf", "(IJ)I"⟩, 2), (⟨"PanelOffice$Ranking", "indexIn", "(IIJ)J"⟩, 2), (⟨"PanelOffice", "goalNow", "()J"⟩, 12), (⟨"PanelOffice$Seats", "addValuesOf", "(I)V"⟩, 9), (⟨"PanelOffice", "requireNumber", "()V"⟩, 12), (⟨"PanelOffice", "requireDrawn", "()V"⟩, 12), (⟨"PanelOfficeModel", "changed", "()V"⟩, 35), (⟨"PanelOfficeModel", "gather", "()V"⟩, 35), (⟨"PanelOfficeModel", "is", "(I)I"⟩, 35), (⟨"PanelOfficeModel", "counts", "()Z"⟩, 35)]
theorem lw_r2 : ∀ q ∈ lw_privs_2, lw_okq q := List.forall_mem_cons.mpr ⟨lw_p16, List.forall_mem_cons.mpr ⟨lw_p17, List.forall_mem_cons.mpr ⟨lw_p18, List.forall_mem_cons.mpr ⟨lw_p19, List.forall_mem_cons.mpr ⟨lw_p20, List.forall_mem_cons.mpr ⟨lw_p21, List.forall_mem_cons.mpr ⟨lw_p22, List.forall_mem_cons.mpr ⟨lw_p23, List.forall_mem_cons.mpr ⟨lw_p24, List.forall_mem_cons.mpr ⟨lw_p25, List.forall_mem_cons.mpr ⟨lw_p26, List.forall_mem_cons.mpr ⟨lw_p27, List.forall_mem_cons.mpr ⟨lw_p28, List.forall_mem_cons.mpr ⟨lw_p29, List.forall_mem_cons.mpr ⟨lw_p30, List.forall_mem_cons.mpr ⟨lw_p31, fun _ h => absurd h List.not_mem_nil⟩⟩⟩⟩⟩⟩⟩⟩⟩⟩⟩⟩⟩⟩⟩⟩
theorem lw_p32 : lw_okq (⟨"PanelOfficeModel", "work", "(I)V"⟩, 35) := ⟨⟨by decide +kernel, by decide +kernel⟩, List.mem_of_getElem? (i := 903) (by decide +kernel), List.mem_of_getElem? (i := 1059) (by decide +kernel), List.mem_of_getElem? (i := 1060) (by decide +kernel)⟩
theorem lw_p33 : lw_okq (⟨"PanelOfficeModel", "list", "()V"⟩, 35) := ⟨⟨by decide +kernel, by decide +kernel⟩, List.mem_of_getElem? (i := 903) (by decide +kernel), List.mem_of_getElem? (i := 1063) (by decide +kernel), List.mem_of_getElem? (i := 1064) (by decide +kernel)⟩
theorem lw_p34 : lw_okq (⟨"PanelOfficeModel", "spread", "(II)V"⟩, 35) := ⟨⟨by decide +kernel, by decide +kernel⟩, List.mem_of_getElem? (i := 903) (by decide +kernel), List.mem_of_getElem? (i := 1067) (by decide +kernel), List.mem_of_getElem? (i := 1068) (by decide +kernel)⟩
theorem lw_p35 : lw_okq (⟨"PanelOfficeModel", "adds", "(I)J"⟩, 35) := ⟨⟨by decide +kernel, by decide +kernel⟩, List.mem_of_getElem? (i := 903) (by decide +kernel), List.mem_of_getElem? (i := 1071) (by decide +kernel), List.mem_of_getElem? (i := 1072) (by decide +kernel)⟩
theorem lw_p36 : lw_okq (⟨"PanelOfficeModel", "isAllowed", "(J)Z"⟩, 35) := ⟨⟨by decide +kernel, by decide +kernel⟩, List.mem_of_getElem? (i := 903) (by decide +kernel), List.mem_of_getElem? (i := 1075) (by decide +kernel), List.mem_of_getElem? (i := 1076) (by decide +kernel)⟩
theorem lw_p37 : lw_okq (⟨"PanelOfficeModel", "find", "(IJ)I"⟩, 35) := ⟨⟨by decide +kernel, by decide +kernel⟩, List.mem_of_getElem? (i := 903) (by decide +kernel), List.mem_of_getElem? (i := 1085) (by decide +kernel), List.mem_of_getElem? (i := 1086) (by decide +kernel)⟩
theorem lw_p38 : lw_okq (⟨"PanelOfficeModel", "isPanel", "(J)Z"⟩, 35) := ⟨⟨by decide +kernel, by decide +kernel⟩, List.mem_of_getElem? (i := 903) (by decide +kernel), List.mem_of_getElem? (i := 1093) (by decide +kernel), List.mem_of_getElem? (i := 1094) (by decide +kernel)⟩
theorem lw_p39 : lw_okq (⟨"PanelOfficeModel", "isPerson", "(I)Z"⟩, 35) := ⟨⟨by decide +kernel, by decide +kernel⟩, List.mem_of_getElem? (i := 903) (by decide +kernel), List.mem_of_getElem? (i := 1108) (by decide +kernel), List.mem_of_getElem? (i := 1109) (by decide +kernel)⟩
theorem lw_p40 : lw_okq (⟨"PanelOfficeModel", "kindOf", "(I)I"⟩, 35) := ⟨⟨by decide +kernel, by decide +kernel⟩, List.mem_of_getElem? (i := 903) (by decide +kernel), List.mem_of_getElem? (i := 1112) (by decide +kernel), List.mem_of_getElem? (i := 1113) (by decide +kernel)⟩
theorem lw_p41 : lw_okq (⟨"PanelOfficeModel", "left", "(I)I"⟩, 35) := ⟨⟨by decide +kernel, by decide +kernel⟩, List.mem_of_getElem? (i := 903) (by decide +kernel), List.mem_of_getElem? (i := 1124) (by decide +kernel), List.mem_of_getElem? (i := 1125) (by decide +kernel)⟩
theorem lw_p42 : lw_okq (⟨"PanelOfficeModel", "take", "(J)V"⟩, 35) := ⟨⟨by decide +kernel, by decide +kernel⟩, List.mem_of_getElem? (i := 903) (by decide +kernel), List.mem_of_getElem? (i := 1132) (by decide +kernel), List.mem_of_getElem? (i := 1133) (by decide +kernel)⟩
theorem lw_p43 : lw_okq (⟨"PanelOfficeModel", "rows", "(IIJ)V"⟩, 35) := ⟨⟨by decide +kernel, by decide +kernel⟩, List.mem_of_getElem? (i := 903) (by decide +kernel), List.mem_of_getElem? (i := 1136) (by decide +kernel), List.mem_of_getElem? (i := 1137) (by decide +kernel)⟩
theorem lw_p44 : lw_okq (⟨"PanelOfficeModel", "personOf", "(II)I"⟩, 35) := ⟨⟨by decide +kernel, by decide +kernel⟩, List.mem_of_getElem? (i := 903) (by decide +kernel), List.mem_of_getElem? (i := 1140) (by decide +kernel), List.mem_of_getElem? (i := 1141) (by decide +kernel)⟩
theorem lw_p45 : lw_okq (⟨"PanelOfficeModel", "index", "(II)J"⟩, 35) := ⟨⟨by decide +kernel, by decide +kernel⟩, List.mem_of_getElem? (i := 903) (by decide +kernel), List.mem_of_getElem? (i := 1152) (by decide +kernel), List.mem_of_getElem? (i := 1153) (by decide +kernel)⟩
theorem lw_p46 : lw_okq (⟨"PanelOfficeModel", "goalNow", "()J"⟩, 35) := ⟨⟨by decide +kernel, by decide +kernel⟩, List.mem_of_getElem? (i := 903) (by decide +kernel), List.mem_of_getElem? (i := 1160) (by decide +kernel), List.mem_of_getElem? (i := 1161) (by decide +kernel)⟩
theorem lw_p47 : lw_okq (⟨"PanelOfficeModel", "candidates", "()I"⟩, 35) := ⟨⟨by decide +kernel, by decide +kernel⟩, List.mem_of_getElem? (i := 903) (by decide +kernel), List.mem_of_getElem? (i := 1164) (by decide +kernel), List.mem_of_getElem? (i := 1165) (by decide +kernel)⟩
def lw_privs_3 : List (MethodName × Nat) := [(⟨"PanelOfficeModel", "work", "(I)V"⟩, 35), (⟨"PanelOfficeModel", "list", "()V"⟩, 35), (⟨"PanelOfficeModel", "spread", "(II)V"⟩, 35), (⟨"PanelOfficeModel", "adds", "(I)J"⟩, 35), (⟨"PanelOfficeModel", "isAllowed", "(J)Z"⟩, 35), (⟨"PanelOfficeModel", "find", "(IJ)I"⟩, 35), (⟨"PanelOfficeModel", "isPanel", "(J)Z"⟩, 35), (⟨"PanelOfficeModel", "isPerson", "(I)Z"⟩, 35), (⟨"PanelOfficeModel", "kindOf", "(I)I"⟩, 35), (⟨"PanelOfficeModel", "left", "(I)I"⟩, 35), (⟨"PanelOfficeModel", "take", "(J)V"⟩, 35), (⟨"PanelOfficeModel", "rows", "(IIJ)V"⟩, 35), (⟨"PanelOfficeModel", "personOf", "(II)I"⟩, 35), (⟨"PanelOfficeModel", "index", "(II)J"⟩, 35), (⟨"PanelOfficeModel", "goalNow", "()J"⟩, 35), (⟨"PanelOfficeModel", "candidates", "()I"⟩, 35)]
theorem lw_r3 : ∀ q ∈ lw_privs_3, lw_okq q := List.forall_mem_cons.mpr ⟨lw_p32, List.forall_mem_cons.mpr ⟨lw_p33, List.forall_mem_cons.mpr ⟨lw_p34, List.forall_mem_cons.mpr ⟨lw_p35, List.forall_mem_cons.mpr ⟨lw_p36, List.forall_mem_cons.mpr ⟨lw_p37, List.forall_mem_cons.mpr ⟨lw_p38, List.forall_mem_cons.mpr ⟨lw_p39, List.forall_mem_cons.mpr ⟨lw_p40, List.forall_mem_cons.mpr ⟨lw_p41, List.forall_mem_cons.mpr ⟨lw_p42, List.forall_mem_cons.mpr ⟨lw_p43, List.forall_mem_cons.mpr ⟨lw_p44, List.forall_mem_cons.mpr ⟨lw_p45, List.forall_mem_cons.mpr ⟨lw_p46, List.forall_mem_cons.mpr ⟨lw_p47, fun _ h => absurd h List.not_mem_nil⟩⟩⟩⟩⟩⟩⟩⟩⟩⟩⟩⟩⟩⟩⟩⟩
theorem lw_p48 : lw_okq (⟨"PanelOfficeModel", "leastBreach", "()I"⟩, 35) := ⟨⟨by decide +kernel, by decide +kernel⟩, List.mem_of_getElem? (i := 903) (by decide +kernel), List.mem_of_getElem? (i := 1168) (by decide +kernel), List.mem_of_getElem? (i := 1169) (by decide +kernel)⟩
theorem lw_p49 : lw_okq (⟨"PanelOfficeModel", "placeOf", "(I)I"⟩, 35) := ⟨⟨by decide +kernel, by decide +kernel⟩, List.mem_of_getElem? (i := 903) (by decide +kernel), List.mem_of_getElem? (i := 1172) (by decide +kernel), List.mem_of_getElem? (i := 1173) (by decide +kernel)⟩
theorem lw_p50 : lw_okq (⟨"PanelOfficeModel", "breachWith", "(I)I"⟩, 35) := ⟨⟨by decide +kernel, by decide +kernel⟩, List.mem_of_getElem? (i := 903) (by decide +kernel), List.mem_of_getElem? (i := 1176) (by decide +kernel), List.mem_of_getElem? (i := 1177) (by decide +kernel)⟩
theorem lw_p51 : lw_okq (⟨"PanelOfficeModel", "isCandidate", "(II)Z"⟩, 35) := ⟨⟨by decide +kernel, by decide +kernel⟩, List.mem_of_getElem? (i := 903) (by decide +kernel), List.mem_of_getElem? (i := 1180) (by decide +kernel), List.mem_of_getElem? (i := 1181) (by decide +kernel)⟩
theorem lw_p52 : lw_okq (⟨"PanelOfficeModel", "used", "()V"⟩, 35) := ⟨⟨by decide +kernel, by decide +kernel⟩, List.mem_of_getElem? (i := 903) (by decide +kernel), List.mem_of_getElem? (i := 1196) (by decide +kernel), List.mem_of_getElem? (i := 1197) (by decide +kernel)⟩
theorem lw_p53 : lw_okq (⟨"PanelOfficeModel", "candidateAt", "(J)I"⟩, 35) := ⟨⟨by decide +kernel, by decide +kernel⟩, List.mem_of_getElem? (i := 903) (by decide +kernel), List.mem_of_getElem? (i := 1212) (by decide +kernel), List.mem_of_getElem? (i := 1213) (by decide +kernel)⟩
def lw_privs_4 : List (MethodName × Nat) := [(⟨"PanelOfficeModel", "leastBreach", "()I"⟩, 35), (⟨"PanelOfficeModel", "placeOf", "(I)I"⟩, 35), (⟨"PanelOfficeModel", "breachWith", "(I)I"⟩, 35), (⟨"PanelOfficeModel", "isCandidate", "(II)Z"⟩, 35), (⟨"PanelOfficeModel", "used", "()V"⟩, 35), (⟨"PanelOfficeModel", "candidateAt", "(J)I"⟩, 35)]
theorem lw_r4 : ∀ q ∈ lw_privs_4, lw_okq q := List.forall_mem_cons.mpr ⟨lw_p48, List.forall_mem_cons.mpr ⟨lw_p49, List.forall_mem_cons.mpr ⟨lw_p50, List.forall_mem_cons.mpr ⟨lw_p51, List.forall_mem_cons.mpr ⟨lw_p52, List.forall_mem_cons.mpr ⟨lw_p53, fun _ h => absurd h List.not_mem_nil⟩⟩⟩⟩⟩⟩
def lw_privs : List (MethodName × Nat) := lw_privs_1 ++ (lw_privs_2 ++ (lw_privs_3 ++ (lw_privs_4)))
def lw_tbl : List Cond := k2_sels lw_privs ++ tables_1
theorem lw_privs_ok : ∀ q ∈ lw_privs, lw_okq q := by
  show ∀ q ∈ lw_privs_1 ++ (lw_privs_2 ++ (lw_privs_3 ++ (lw_privs_4))), lw_okq q
  exact List.forall_mem_append.mpr ⟨lw_r1, List.forall_mem_append.mpr ⟨lw_r2, List.forall_mem_append.mpr ⟨lw_r3, lw_r4⟩⟩⟩
-- ===== end of PART A; then your names; then what follows =====
end
section
/-! Own rows, of no class: a method's contract with two ends (it returns, or it throws), a walk begun anew at the point where it stands, an exception made and thrown. -/
section TwoEnds
variable {p : Program} {l : Launch} {e : Env} {R : Room} {s : State} {m : MethodId} {args : Array Value} {below : List Frame} {meth : Method} {c : Code} {T : State} {locs : List Loc} {cells slots : Nat}
/-- what is left of the frame's word when the end is not named: the tables are warmer, nothing has moved but the slots L and what is new -/
def xe_End (st t : State) (L : List Loc) (k n : Nat) : Prop := st.WarmedH t.vm ∧ st.sameButNew ({ t with vm := st.vm } : State) L k n
/-- how much is new at an end: nothing at a return, the exception at a throw -/
def xk (o : Outcome) (k : Nat) : Nat := match o with
  | .returned _ => 0
  | .threw _ => k
/-- a contract whose method returns or throws -/
def MetX (l : Launch) (y : MethodName) (ws : List Cond) (rm : Room) (Pc : Array Value → State → Prop) (Qc : Array Value → State → Outcome → State → Prop) (free : Addr → Prop) : Prop :=
  MetFree l y (headSpec ws rm) Pc (fun _ _ _ _ _ => True) (fun a st o t => Qc a st o t ∧ ∃ L, xe_End st t L (xk o 1) (xk o 6) ∧ ∀ q ∈ L, free q.base)
def MQX (below : List Frame) (Qc : Array Value → State → Outcome → State → Prop) (a : Array Value) (s : State) (free : Addr → Prop) : State → Prop := fun t =>
  ∃ o, t.status = .running ∧ Ended t below o ∧ Qc a s o t ∧ ∃ L, xe_End s t L (xk o 1) (xk o 6) ∧ ∀ q ∈ L, free q.base
theorem MQX.of {Qc : Array Value → State → Outcome → State → Prop} {a : Array Value} {free : Addr → Prop} {t : State} (h : MQ below Qc a s 0 0 free t) : MQX below Qc a s free t := by
  obtain ⟨o, h1, h2, h3, L, h4, h5⟩ := h
  obtain ⟨⟨v, rfl⟩, h6⟩ := h4
  exact ⟨_, h1, h2, h3, L, h6, h5⟩
/-- a walk whose end is weakened -/
theorem W.imp {H : Heap} {Q Q' : State → Prop} {g : JFrame} (h : ∀ t, Q t → Q' t) (w : W p l e R s m args below meth c H locs cells slots Q g) : W p l e R s m args below meth c H locs cells slots Q' g := by
  intro T hT X
  obtain ⟨t, a, b⟩ := w T hT X
  exact ⟨t, a, h t b⟩
theorem MetX.ofW {y : MethodName} {ws : List Cond} {rm : Room} {Pc : Array Value → State → Prop} {Qc : Array Value → State → Outcome → State → Prop} {free : Addr → Prop} {cc : ByteArray} {maxL : Nat} {ret : Option FieldType}
    (hy : plainName y.cls = true) (his : ∀ (args : Array Value) (s : State) (m : MethodId), (headSpec ws rm).pre.before args s = true → s.methodNamed? y = some m → ∃ meth c, s.vm.method? m = some meth ∧ meth.code = some c ∧ c.code = cc ∧ c.maxLocals = maxL ∧ meth.sig.returnType = ret ∧ meth.locks = false)
    (body : ∀ p e s m args below meth c s₁, BodyLoose p l y (headSpec ws rm) cc maxL ret e s m args below meth c s₁ → c.maxLocals = maxL → Pc args s →
      W p l e (headSpec ws rm).room s m args below meth c s.heap [] 0 0 (MQX below Qc args s free) (entryFrame m args maxL)) : MetX l y ws rm Pc Qc free := by
  refine MetFree.of_bodyS (code := cc) (maxLocals := maxL) (ret := ret) hy his ?_
  intro p e s m args below meth c s₁ B hml hP _
  have hh0 : s₁.heap = s.heap := by rw [B.state]; rfl
  obtain ⟨t, a1, o, b1, b2, b3⟩ := body p e s m args below meth c s₁ B hml hP s₁ hh0 (Stand.of_body B)
  exact ⟨t, o, a1, b1, b2, b3⟩
/-- the walk begun anew where it stands: the same frames, the heap and the tables as they are now -/
theorem st_re (X : Stand p l e R s m args below meth c T locs cells slots) (kc ks : Nat) (h1 : cells + kc ≤ R.cells) (h2 : slots + ks ≤ R.slots) :
    Stand p l e { R with cells := kc, slots := ks } (T.setFrames (.invoking m args :: below)) m args below meth c T [] 0 0 := by
  obtain ⟨g₀, hfr⟩ := X.frames_eq
  have hcur : T.cur < T.threads.size := State.cur_lt_of_frames hfr
  have hF : (T.setFrames (.invoking m args :: below)).frames = .invoking m args :: below := State.frames_setFrames _ hcur
  have hmeth : (T.setFrames (.invoking m args :: below)).vm.method? m = some meth := X.method'
  refine ⟨X.admits, X.cas, X.clock, hF, ?_, ?_, hmeth, X.code, X.here, X.tail, State.WarmedH.refl T, (State.stackLimits_setFrames _ _ _).symm, (State.stackBytes_setFrames _ _).symm, ?_⟩
  · have h0 := X.room
    have hb : (T.setFrames (.invoking m args :: below)).slotsTrue = true := X.book
    have hl0 := State.localsInUse_invoking X.frames X.method X.code
    have hl1 := State.localsInUse_invoking hF hmeth X.code
    have hcells : (T.setFrames (.invoking m args :: below)).heap.size + kc ≤ e.platform.maxCells := X.cellsAbove (n := kc) h1
    have hslots : (T.setFrames (.invoking m args :: below)).slotsUsed + ks ≤ e.platform.maxSlots := X.slotsAbove (n := ks) h2
    simp only [State.hasRoom, Bool.and_eq_true, decide_eq_true_eq] at h0 ⊢
    rw [hl0, X.frames] at h0
    rw [hl1, hF, State.stackLimits_setFrames, State.stackBytes_setFrames, X.limits, X.bytes]
    exact ⟨⟨⟨h0.1.1.1, hcells⟩, hslots⟩, hb⟩
  · have h0 := X.hears
    have hal := X.warmed.alike
    revert h0
    unfold State.hears
    cases below with
    | nil => intro h0; show (T.vm.method? m).any _ = true; rw [hal.method?]; exact h0
    | cons f r =>
      cases f with
      | java g =>
        intro h0
        have h0 : ((s.code? g.method).bind fun c => (decode c.code g.pc).toOption).isSome = true := h0
        have h1 : (T.setFrames (.invoking m args :: .java g :: r)).code? g.method = s.code? g.method := by
          rw [State.code?_eq, State.code?_eq]
          show (T.vm.method? g.method).bind _ = _
          rw [hal.method?]
        show (((T.setFrames (.invoking m args :: .java g :: r)).code? g.method).bind fun c => (decode c.code g.pc).toOption).isSome = true
        rw [h1]; exact h0
      | native _ => intro _; rfl
      | proc _ => intro _; rfl
      | _ => intro h0; show (T.vm.method? m).any _ = true; rw [hal.method?]; exact h0
  · obtain ⟨t, ht, -⟩ := State.frames_cons hfr
    have hdrop : T.heap.toList.drop T.heap.size = [] := List.drop_eq_nil_of_le (by simp)
    refine ⟨?_, Nat.le_refl _, Nat.le_refl _, ?_, ?_, fun a c h => ⟨c, h, rfl, rfl, fun _ _ => rfl⟩⟩
    · show T = { (T.setFrames (.invoking m args :: below)).setFrames T.frames with heap := T.heap, slotsUsed := T.slotsUsed }
      rw [State.setFrames_setFrames, State.setFrames_self ht]
    · show T.slotsUsed = T.slotsUsed + ((T.heap.toList.drop T.heap.size).map (·.slots.size)).sum
      rw [hdrop]; rfl
    · show ((T.heap.toList.drop T.heap.size).map (·.slots.size)).sum ≤ 0
      rw [hdrop]; exact Nat.le_refl _
/-- what a walk begun anew left unmoved, said of the first walk -/
theorem st_back (X : Stand p l e R s m args below meth c T locs cells slots) {fs : List Frame} {U : State} {k n : Nat} (h : (T.setFrames fs).sameButNew ({ U with vm := (T.setFrames fs).vm } : State) [] k n) :
    s.sameButNew ({ U with vm := s.vm } : State) locs (cells + k) (slots + n) := by
  have h' : T.sameButNew ({ U with vm := T.vm } : State) [] k n := by
    obtain ⟨h1, h2, h3, h4, h5, h6⟩ := h
    refine ⟨?_, h2, h3, h4, h5, h6⟩
    rw [State.setFrames_setFrames] at h1
    exact h1
  have h2 := X.same.trans (h'.setVm s.vm)
  rw [List.append_nil] at h2
  exact h2
end TwoEnds
end
section
/-! Own rows: a call with two ends; an exception made, constructed and thrown; an exception that goes on; an exception that is caught. -/
section TwoCalls
variable {p : Program} {l : Launch} {e : Env} {R : Room} {s : State} {m : MethodId} {args : Array Value} {below : List Frame} {meth : Method} {c : Code} {T : State} {locs : List Loc} {cells slots : Nat}
/-- behind the invoking instruction's own step: the callee comes back with a value, or it throws over the caller's frame; either way the caller stands -/
theorem xc_two {y : MethodName} {ws : List Cond} {rm : Room} {Pc : Array Value → State → Prop} {Qc : Array Value → State → Outcome → State → Prop} {free : Addr → Prop} (hM : MetX l y ws rm Pc Qc free)
    (X : Stand p l e R s m args below meth c T locs cells slots) {mk : MethodId} {methY : Method} {cY : Code} {kY : Class} (hn : T.methodNamed? y = some mk) (hmY : T.vm.method? mk = some methY) (hcY : methY.code = some cY)
    (hkY : T.vm.classes[mk.cls]? = some kY) (hini : kY.init = .initialized) {a : Array Value} (hpre : (headSpec ws rm).pre.before a T = true) {g : JFrame} {ig : Instr} {len : Nat} (hg : g.method = m) (hsize : g.locals.size = c.maxLocals) (hdg : decode c.code g.pc = .ok (ig, len))
    (hframes : rm.frames + 1 ≤ R.frames) (hlocals : 2 * g.monitorRoom + (g.stack.map fun v => v.category).sum + (cY.maxLocals + 11) + rm.locals ≤ R.locals) (hcells : cells + rm.cells ≤ R.cells) (hslots : slots + rm.slots ≤ R.slots) (hP : Pc a (T.calling g mk a)) :
    ∃ (o : Outcome) (t T' : State) (L : List Loc), Stand p l e R s m args below meth c T' (locs ++ L) (cells + xk o 1) (slots + xk o 6) ∧ (∀ q ∈ L, free q.base) ∧ T'.heap = t.heap ∧ T'.vm = t.vm ∧ Qc a (T.calling g mk a) o t ∧
      ((∃ v, o = .returned v ∧ Steps p.tables e below (doInvoke e (T.setTop g) [] mk a).1 (T'.setTop { g with pc := g.pc + len, stack := v.toList ++ g.stack })) ∨
       (∃ x, o = .threw x ∧ Steps p.tables e below (doInvoke e (T.setTop g) [] mk a).1 ((T'.setTop g).pushFrame (.throwing x)))) := by
  have h : At T g.method c below := by rw [hg]; exact X.here
  have happ : (headSpec ws rm).appliesLoose y e.platform (T.calling g mk a) = true :=
    Spec.appliesLoose_calling (g := g) h hdg hn hkY hini (X.room_calling (g := g) (R' := (headSpec ws rm).room) hsize hmY hcY hframes hlocals hcells hslots) hpre
  obtain ⟨mid, hmid⟩ := h.above
  have hfr : (T.setTop g).frames = (.java g :: mid) ++ below := by rw [State.frames_setTop' g h.top, hmid]; rfl
  obtain ⟨o, t, hsteps, -, hend, hq0⟩ := Steps.callFree hM p X.admits X.cas X.clock (acts := []) hfr happ hP trivial
  have hq0 : Qc a (T.calling g mk a) o t ∧ ∃ L, xe_End (T.calling g mk a) t L (xk o 1) (xk o 6) ∧ ∀ q ∈ L, free q.base := hq0
  obtain ⟨hq, L, ⟨hW0, e2, q2, q3, q4, q5, q6⟩, hL⟩ := hq0
  rw [State.frames_setTop' g h.top] at hend
  have hW : T.WarmedH t.vm := hW0
  have e3 : t = ({ (T.calling g mk a).setFrames t.frames with heap := t.heap, slotsUsed := t.slotsUsed } : State).setVm t.vm := by
    have e4 : t = ({ t with vm := (T.calling g mk a).vm } : State).setVm t.vm := rfl
    rw [e2] at e4
    exact e4
  obtain ⟨g₀, hg0⟩ := Option.isSome_iff_exists.mp h.top
  obtain ⟨r, hr⟩ := State.topJava?_eq_some.mp hg0
  have hr' : (({ T with heap := t.heap, slotsUsed := t.slotsUsed } : State).setVm t.vm).frames = .java g₀ :: r := hr
  have hsame : T.sameButNew ({ T with heap := t.heap, slotsUsed := t.slotsUsed } : State) L (xk o 1) (xk o 6) := by
    refine ⟨?_, q2, q3, q4, q5, q6⟩
    obtain ⟨th, ht, -⟩ := State.frames_cons hr
    show ({ T with heap := t.heap, slotsUsed := t.slotsUsed } : State) = { T.setFrames T.frames with heap := t.heap, slotsUsed := t.slotsUsed }
    rw [State.setFrames_self ht]
  subst hg
  refine ⟨o, t, ({ T with heap := t.heap, slotsUsed := t.slotsUsed } : State).setVm t.vm, L, ⟨X.admits, X.cas, X.clock, X.frames, X.room, X.hears, X.method, X.code, (X.here.setHeapUsed t.heap t.slotsUsed).setVm hW.alike, X.tail, State.WarmedH.trans X.warmed hW, X.limits, X.bytes, X.same.trans (hsame.setVm s.vm)⟩, hL, rfl, rfl, hq, ?_⟩
  cases o with
  | returned v =>
    refine Or.inl ⟨v, rfl, ?_⟩
    obtain ⟨c₂, i₂, len₂, hc₂, hd₂, hf₂⟩ := hend
    have hcc : c₂ = c := by
      have h1 : t.code? g.method = T.code? g.method := by rw [State.code?_eq, State.code?_eq, hW.alike.method?]
      exact Option.some.inj (hc₂.symm.trans (h1.trans h.code))
    subst hcc
    have hlen : len₂ = len := by rw [hdg] at hd₂; cases hd₂; rfl
    subst hlen
    have ht : t = (({ T with heap := t.heap, slotsUsed := t.slotsUsed } : State).setVm t.vm).setTop { g with pc := g.pc + len₂, stack := v.toList ++ g.stack } := by
      refine e3.trans ?_
      rw [hf₂, State.calling_eq h.top, State.setFrames_setFrames, State.setTop_of_frames _ hr', hr]
      rfl
    rw [← ht]
    exact hsteps
  | threw x =>
    refine Or.inr ⟨x, rfl, ?_⟩
    have hf₂ : t.frames = .throwing x :: .java g :: T.frames.tail := hend
    have ht : t = ((({ T with heap := t.heap, slotsUsed := t.slotsUsed } : State).setVm t.vm).setTop g).pushFrame (.throwing x) := by
      refine e3.trans ?_
      rw [hf₂, State.calling_eq h.top, State.setFrames_setFrames, State.pushFrame, State.frames_setTop _ hr', State.setTop_of_frames _ hr', State.setFrames_setFrames, hr]
      rfl
    rw [← ht]
    exact hsteps
/-- how a call's two ends go on in the caller, as a property of its walk: 'kr' behind a return, 'kt' behind a throw (the note over the caller's frame) -/
def XRun (p : Program) (l : Launch) (e : Env) (R : Room) (s : State) (m : MethodId) (args : Array Value) (below : List Frame) (meth : Method) (c : Code) (H : Heap) (locs : List Loc) (cells slots : Nat) (g : JFrame) (rest : List Value) (Qa : State → Outcome → State → Prop) (free : Addr → Prop) : Prop :=
  ∀ T : State, T.heap = H → Stand p l e R s m args below meth c T locs cells slots → ∃ (o : Outcome) (st₀ t T' : State) (L : List Loc), st₀.heap = H ∧ s.WarmedH st₀.vm ∧ Stand p l e R s m args below meth c T' (locs ++ L) (cells + xk o 1) (slots + xk o 6) ∧ (∀ q ∈ L, free q.base) ∧ T'.heap = t.heap ∧ T'.vm = t.vm ∧ Qa st₀ o t ∧
    ((∃ v, o = .returned v ∧ Goes p e below T g T' { g with pc := g.pc + 3, stack := v.toList ++ rest }) ∨ (∃ x, o = .threw x ∧ ∀ tg, Steps p.tables e below ((T'.setTop { g with stack := rest }).pushFrame (.throwing x)) tg → Steps p.tables e below (T.setTop g) tg))
end TwoCalls
section TwoRuns
variable {p : Program} {l : Launch} {e : Env} {R : Room} {s : State} {m : MethodId} {args : Array Value} {below : List Frame} {meth : Method} {c : Code} {H : Heap} {locs : List Loc} {cells slots : Nat}
variable {y : MethodName} {cc : ByteArray} {nL n index maxL : Nat} {ws : List Cond} {rm : Room} {Pc : Array Value → State → Prop} {Qc : Array Value → State → Outcome → State → Prop} {free : Addr → Prop} {own C : String} {b : Addr} {As rest : List Value} {g : JFrame}
/-- what a caller must know of its callee's code, at every state with warmer tables -/
def XCode (s : State) (y : MethodName) (maxL n : Nat) (ws : List Cond) : Prop :=
  (y.cls ≠ "java/lang/invoke/MethodHandle" ∧ y.cls ≠ "java/lang/invoke/VarHandle") ∧ (∀ (a' : Array Value) (U : State), s.WarmedH U.vm → (allAtoms ws).before a' U = true) ∧
  ∃ (mk : MethodId) (meth : Method) (c : Code), s.methodNamed? y = some mk ∧ s.vm.method? mk = some meth ∧ meth.code = some c ∧ c.maxLocals = maxL ∧ parseMethodDescriptor y.desc = some meth.sig ∧ meth.sig.parameters.length = n
/-- invokevirtual of a method with two ends -/
theorem xc_runV (hx : p.tables.exec = Jvm.exec) (hb : c.code = cc) (hml : c.maxLocals = nL) (hown : s.vm.findClass own = some m.cls) (hM : MetX l y ws rm Pc Qc free) (hbl : FrameBlind Pc)
    (hcode : XCode s y maxL n ws) (hlink : (Cond.methodLink own index y).before args s = true) (hinst : (Cond.instanceMethod y).before args s = true) (hsel : (Cond.selects C y y).before args s = true) (hini : (Cond.initialized y.cls).before args s = true)
    (hR : rm.frames + 1 ≤ R.frames ∧ 8 + (maxL + 11) + rm.locals ≤ R.locals)
    (hrecv : ∃ cellB : Cell, H[b]? = some cellB ∧ cellB.vm.isStatics = false ∧ s.vm.findClass C = some cellB.cls) (hPc : ∀ U : State, U.heap = H → s.WarmedH U.vm → Pc (Value.ref b :: As).toArray U)
    (hg : g.method = m) (hn : As.length = n) (hsize : g.locals.size = nL) (hstack : g.stack = As.reverse ++ .ref b :: rest) (hW : 2 * g.monitorRoom + (rest.map fun v => v.category).sum ≤ 8) (hdg : decode cc g.pc = .ok (.invokevirtual index, 3)) (hf : cells + rm.cells ≤ R.cells ∧ slots + rm.slots ≤ R.slots) :
    XRun p l e R s m args below meth c H locs cells slots g rest (Qc (Value.ref b :: As).toArray) free := by
  intro T hT X
  subst hb
  obtain ⟨hy, hws, mk, methM, cM, hnamed, hmethM, hcM, hmlM, hsigM, hlenM⟩ := hcode
  obtain ⟨mk', methM', hnamed', hmethM', hstM, habM⟩ := Cond.instanceMethod_spec hinst
  cases Option.some.inj (hnamed.symm.trans hnamed')
  cases Option.some.inj (hmethM.symm.trans hmethM')
  obtain ⟨cellB, hcB, hoB, hclB⟩ := hrecv
  obtain ⟨c2, r2, m2, q1, q2, q3, q4, kP, hkP, hkPi⟩ := Cond.selects_spec hsel
  cases Option.some.inj (hclB.symm.trans q1)
  cases Option.some.inj ((State.methodFound?_of_named hnamed hy).symm.trans q2)
  cases Option.some.inj (hnamed.symm.trans q3)
  have hselP : selectMethod e.platform s.vm cellB.cls mk = .method mk := by rw [Launch.admits_selectMethod X.admits]; exact q4
  have hkI : kP.init = .initialized := Cond.initialized_spec (findClass_of_methodNamed hnamed) hkP hini
  obtain ⟨vm₁, X₁, hstep₁⟩ := X.invokevirtual hx hown hlink hnamed hmethM hstM hkP hkPi hy (a := b) (cell := cellB) (by rw [hT]; exact hcB)
    (fun z h => by rw [h] at hoB; cases hoB) hselP hmethM habM hkP hkPi (g := g) hg (argsL := As) (rest := rest) (by rw [hn, hlenM]) hstack hdg
  obtain ⟨kP₁, hkP₁, heP₁⟩ := X₁.warmed.alike.2.2 _ _ hkP
  have hm₁ : (T.setVm vm₁).vm.method? mk = some methM := by rw [X₁.warmed.alike.method?]; exact hmethM
  obtain ⟨o, t, T', L, X', hL, e1, e2, hq, hend⟩ := xc_two hM X₁ (g := { g with stack := rest }) (a := (Value.ref b :: As).toArray) (X₁.named hnamed) hm₁ hcM hkP₁ (by rw [heP₁]; exact hkI) (hws _ _ X₁.warmed) hg (hsize.trans hml.symm) hdg hR.1
    (by rw [hmlM]; show 2 * g.monitorRoom + (rest.map fun v => v.category).sum + (maxL + 11) + rm.locals ≤ R.locals; omega) hf.1 hf.2 (hbl _ _ _ _ (hPc (T.setVm vm₁) hT X₁.warmed))
  refine ⟨o, (T.setVm vm₁).calling { g with stack := rest } mk (Value.ref b :: As).toArray, t, T', L, hT, X₁.warmed, X', hL, e1, e2, hq, ?_⟩
  rcases hend with ⟨v, ho, hs⟩ | ⟨x, ho, hs⟩
  · exact Or.inl ⟨v, ho, fun tg h => hstep₁ _ fun acts => by rw [doInvoke_state]; exact hs.trans h⟩
  · exact Or.inr ⟨x, ho, fun tg h => hstep₁ _ fun acts => by rw [doInvoke_state]; exact hs.trans h⟩
/-- invokestatic of a method with two ends -/
theorem xc_runS (hx : p.tables.exec = Jvm.exec) (hb : c.code = cc) (hml : c.maxLocals = nL) (hown : s.vm.findClass own = some m.cls) (hM : MetX l y ws rm Pc Qc free) (hbl : FrameBlind Pc)
    (hcode : XCode s y maxL n ws) (hlink : (Cond.methodLink own index y).before args s = true) (hstat : (Cond.static y).before args s = true) (hini : (Cond.initialized y.cls).before args s = true)
    (hR : rm.frames + 1 ≤ R.frames ∧ 8 + (maxL + 11) + rm.locals ≤ R.locals)
    (hPc : ∀ U : State, U.heap = H → s.WarmedH U.vm → Pc As.toArray U)
    (hg : g.method = m) (hn : As.length = n) (hsize : g.locals.size = nL) (hstack : g.stack = As.reverse ++ rest) (hW : 2 * g.monitorRoom + (rest.map fun v => v.category).sum ≤ 8) (hdg : decode cc g.pc = .ok (.invokestatic index, 3)) (hf : cells + rm.cells ≤ R.cells ∧ slots + rm.slots ≤ R.slots) :
    XRun p l e R s m args below meth c H locs cells slots g rest (Qc As.toArray) free := by
  intro T hT X
  subst hb
  obtain ⟨hy, hws, mk, methM, cM, hnamed, hmethM, hcM, hmlM, hsigM, hlenM⟩ := hcode
  have hstatic : methM.isStatic = true := Cond.static_spec hnamed hmethM hstat
  obtain ⟨kP, hkP, -⟩ := className_of_methodNamed hnamed
  have hkPi : kP.init = .initialized := Cond.initialized_spec (findClass_of_methodNamed hnamed) hkP hini
  obtain ⟨vm₁, X₁, hstep₁⟩ := X.invokestatic hx hown hlink hnamed hmethM hstatic hkP hkPi hy (g := g) hg (argsL := As) (rest := rest) (by rw [hn, hlenM]) hstack hdg
  obtain ⟨kP₁, hkP₁, heP₁⟩ := X₁.warmed.alike.2.2 _ _ hkP
  have hm₁ : (T.setVm vm₁).vm.method? mk = some methM := by rw [X₁.warmed.alike.method?]; exact hmethM
  obtain ⟨o, t, T', L, X', hL, e1, e2, hq, hend⟩ := xc_two hM X₁ (g := { g with stack := rest }) (a := As.toArray) (X₁.named hnamed) hm₁ hcM hkP₁ (by rw [heP₁]; exact hkPi) (hws _ _ X₁.warmed) hg (hsize.trans hml.symm) hdg hR.1
    (by rw [hmlM]; show 2 * g.monitorRoom + (rest.map fun v => v.category).sum + (maxL + 11) + rm.locals ≤ R.locals; omega) hf.1 hf.2 (hbl _ _ _ _ (hPc (T.setVm vm₁) hT X₁.warmed))
  refine ⟨o, (T.setVm vm₁).calling { g with stack := rest } mk As.toArray, t, T', L, hT, X₁.warmed, X', hL, e1, e2, hq, ?_⟩
  rcases hend with ⟨v, ho, hs⟩ | ⟨x, ho, hs⟩
  · exact Or.inl ⟨v, ho, fun tg h => hstep₁ _ fun acts => by rw [doInvoke_state]; exact hs.trans h⟩
  · exact Or.inr ⟨x, ho, fun tg h => hstep₁ _ fun acts => by rw [doInvoke_state]; exact hs.trans h⟩
end TwoRuns
end
section
/-! Own rows: 'throw new X("text")' in a method without handlers, whatever the method wrote before. -/
section Throw
variable {p : Program} {l : Launch} {e : Env} {R : Room} {s : State} {m : MethodId} {args : Array Value} {below : List Frame} {meth : Method} {c : Code} {H : Heap} {locs : List Loc}
/-- ldc_w of a String constant that is resolved -/
theorem xt_ldcw {cc : ByteArray} {cells slots pc : Nat} {Q : State → Prop} {ls : Array Slot} {rest : List Value} (hexec : p.tables.exec = Jvm.exec) (hb : c.code = cc) {own tx : String} {index q : Nat} (hown : s.vm.findClass own = some m.cls) (hZ : vk_R own index tx q s) (hdg : decode cc pc = .ok (.ldc_w index, 3))
    (kk : W p l e R s m args below meth c H locs cells slots Q (F0 m (pc + 3) ls (.ref q :: rest))) : W p l e R s m args below meth c H locs cells slots Q (F0 m pc ls rest) := by
  intro T hT X
  obtain ⟨t, a1, b1⟩ := kk T hT X
  obtain ⟨k, cf, i, a', hk, hcf, hcp, -, hr, hev'⟩ := Cond.stringRef_spec hown hZ.1
  cases hZ.2.symm.trans hev'
  obtain ⟨k', hk', he⟩ := X.warmed.alike.2.2 _ _ hk
  have hr' : k'.resolved[index]? = some (some (.string q)) := by
    obtain ⟨k2, hk2, -, -, hres, -⟩ := X.warmed.2.2 _ _ hk
    cases Option.some.inj (hk'.symm.trans hk2)
    rcases hres index with h | h
    · rw [h]; exact hr
    · rw [hr] at h; cases h.1
  refine ⟨t, ?_, b1⟩
  subst hb
  jvm_step X.here [hexec, hdg, ldc_w.wp_string (s := T) (f := F0 m pc ls rest) X.here.top hk' (by rw [he]; exact hcf) hcp hr']
  exact a1
/-- old cells, where nothing is free -/
theorem xt_old {s t : State} {k n : Nat} (h : s.sameButNew t [] k n) {q : Nat} (hq : q < s.heap.size) : t.heap[q]? = s.heap[q]? := by
  obtain ⟨cell, hc⟩ : ∃ cell, s.heap[q]? = some cell := ⟨s.heap[q], by simp [hq]⟩
  obtain ⟨c', h1, h2, h3, h4⟩ := h.2.2.2.2.2 q cell hc
  have h5 : c'.slots = cell.slots := by
    apply Array.ext_getElem?
    intro i
    exact h4 i (by simp)
  rw [h1, hc, h2, h5]
end Throw
end
section
/-! Own rows: the constructor X(String) of an exception whose link to its superclass's constructor stands at any place of its constant pool (NoSuchElementException: 13); then athrow. Begun in a walk that has written nothing. -/
section Ctor
variable {p : Program} {l : Launch} {e : Env} {R : Room} {s : State} {m : MethodId} {args : Array Value} {below : List Frame} {meth : Method} {c : Code} {T : State} {cells slots : Nat}
def xt_atoms (own : String) (ic : Nat) (cls nxt : String) (names : List String) (i0 : Nat) (by0 : ByteArray) : List Cond :=
  (Bundle.throwableAtoms ++ Bundle.throwableSAtoms) ++ (Bundle.passSAtoms cls nxt i0 by0 ++ Bundle.chainSAtoms nxt names) ++
  [.methodLink own ic (Bundle.initS cls), .instantiable cls 6, .selects cls Bundle.tFill0 Bundle.tFill0, .selects cls Bundle.tFill Bundle.tFill,
   .lays cls Bundle.tN "cause" "Ljava/lang/Throwable;", .lays cls Bundle.tN "stackTrace" Bundle.steD, .lays cls Bundle.tN "suppressedExceptions" Bundle.listD, .lays cls Bundle.tN "detailMessage" "Ljava/lang/String;",
   .isRef (.static Bundle.tN "UNASSIGNED_STACK" Bundle.steD), .isRef (.static Bundle.tN "SUPPRESSED_SENTINEL" Bundle.listD),
   .fieldLink Bundle.tN 198 Bundle.tN "backtrace" "Ljava/lang/Object;", .lays Bundle.tN Bundle.tN "backtrace" "Ljava/lang/Object;", .lays cls Bundle.tN "backtrace" "Ljava/lang/Object;"]
set_option maxHeartbeats 2000000 in
theorem xt_ctor (X : Stand p l e R s m args below meth c T [] cells slots) (hexec : p.tables.exec = Jvm.exec) (htr : e.platform.stackTraces = false) {own cls nxt : String} {names : List String} {ic i0 : Nat} {by0 : ByteArray}
    (hown : s.vm.findClass own = some m.cls) (hcls : Bundle.fit cls = true) (hnxt : Bundle.fit nxt = true) (hnames : ∀ n ∈ names, Bundle.fit n = true)
    (hd : decode by0 0 = .ok (.aload_n 0, 1) ∧ decode by0 1 = .ok (.aload_n 1, 1) ∧ decode by0 2 = .ok (.invokespecial i0, 3) ∧ decode by0 5 = .ok (.return_, 1))
    (h : ∀ w ∈ xt_atoms own ic cls nxt names i0 by0, w.before args s = true)
    {a : Addr} {cX : ClassId} {kX : Class} (hfX : s.vm.findClass cls = some cX) (hkX : s.vm.classes[cX]? = some kX) (hcell : T.heap[a]? = some (freshCell cX kX)) (hnew : s.heap.size ≤ a)
    {msg : Value} (hmsg : msg.isRef = true) {g : JFrame} (hg : g.method = m) (hsize : g.locals.size = c.maxLocals) (hlocked : g.locked = none) (hentered : g.entered = []) (hstack : g.stack = [msg, .ref a, .ref a])
    (hd6 : decode c.code g.pc = .ok (.invokespecial ic, 3)) (hd9 : decode c.code (g.pc + 3) = .ok (.athrow, 1)) (hout : ∀ x ∈ c.exceptionTable.toList, covers x (g.pc + 3) = false)
    (hRf : names.length + 4 < R.frames) (hRl : 2 * g.monitorRoom + 1 + (13 * (names.length + 2) + 42) ≤ R.locals) (hlk : meth.locks = false) :
    ∃ U : State, Steps p.tables e below (T.setTop g) U ∧ U.status = .running ∧ Ended U below (.threw a) ∧ s.WarmedH U.vm ∧ s.sameButNew ({ U with vm := s.vm } : State) [] cells slots ∧
      ∃ ce, U.heap[a]? = some ce ∧ ce.vm = .none ∧ s.vm.findClass cls = some ce.cls := by
  have hpl : e.platform.magicAccessors = ({} : Platform).magicAccessors := by rw [X.admits.platform]
  have A : ∀ w, w ∈ xt_atoms own ic cls nxt names i0 by0 → w.holds args s none s [] = true := fun w hw => h w hw
  have hTa : ∀ w ∈ Bundle.throwableAtoms, w.before args s = true := fun w hw => h w (by simp [xt_atoms, hw])
  have hTs : ∀ w ∈ Bundle.throwableSAtoms, w.before args s = true := fun w hw => h w (by simp [xt_atoms, hw])
  obtain ⟨K, Z0, L, -, Y⟩ := ThrowableC.of_atoms (args := args) (by rw [X.admits.platform]) (by rw [X.admits.platform]) hpl hTa
  obtain ⟨Z, M, LZ, LM, hnZ⟩ := Init0T.ofS_atoms (args := args) hpl L Y hTs
  -- the chain: the first link by itself, the others as the library has them
  obtain ⟨P1, L1, hP1, hsup⟩ := PassC.ofS_atoms (args := args) (s := s) hpl (X := cls) (Y := nxt) (index := i0) (bytes := by0) (Bundle.fit_spec hcls).1 (Bundle.fit_spec hnxt).2 hd.1 hd.2.1 hd.2.2.1 hd.2.2.2 (fun w hw => h w (by simp [xt_atoms, hw]))
  obtain ⟨P2, Ps, hlen, L2, hLs, hP2, hl2, hls⟩ := Bundle.chainS (args := args) hpl hnZ names nxt hnxt hnames (fun w hw => h w (by simp [xt_atoms, hw]))
  have hfP : s.vm.findClass cls = some P1.m.cls := findClass_of_methodNamed hP1
  cases Option.some.inj (hfX.symm.trans hfP)
  obtain ⟨c1, k1, hc1, hk1, hord, -, -, hn6⟩ := Cond.instantiable_spec (A (.instantiable cls 6) (by simp [xt_atoms]))
  cases Option.some.inj (hc1.symm.trans hfP)
  cases Option.some.inj (hkX.symm.trans hk1)
  have sel : ∀ (x : MethodName) (mx : MethodId), s.methodNamed? x = some mx → (x.cls ≠ "java/lang/invoke/MethodHandle" ∧ x.cls ≠ "java/lang/invoke/VarHandle") → (Cond.selects cls x x).holds args s none s [] = true → selectMethod e.platform s.vm P1.m.cls mx = .method mx := by
    intro x mx hn hx hs
    obtain ⟨c2, r2, m2, q1, q2, q3, q4, -⟩ := Cond.selects_spec hs
    cases Option.some.inj (q1.symm.trans hfP)
    cases Option.some.inj (q2.symm.trans (State.methodFound?_of_named hn hx))
    cases Option.some.inj (q3.symm.trans hn)
    rw [Launch.admits_selectMethod X.admits]
    exact q4
  have hs0 := sel _ _ Y.fill0 (by decide) (A (.selects cls Bundle.tFill0 Bundle.tFill0) (by simp [xt_atoms]))
  have hsF := sel _ _ Y.fill (by decide) (A (.selects cls Bundle.tFill Bundle.tFill) (by simp [xt_atoms]))
  obtain ⟨cS0, hcS0, hiss⟩ := Y.statics
  obtain ⟨u0, hu0⟩ := Cond.staticRefV Y.unassigned L.unassignedStatic L.statics hcS0 hiss (A (.isRef (.static Bundle.tN "UNASSIGNED_STACK" Bundle.steD)) (by simp [xt_atoms]))
  obtain ⟨sen, hsen⟩ := Cond.staticRefV Y.sentinel L.sentinelStatic L.statics hcS0 hiss (A (.isRef (.static Bundle.tN "SUPPRESSED_SENTINEL" Bundle.listD)) (by simp [xt_atoms]))
  have hcS : T.heap[K.aS]? = some cS0 := by
    rw [← hcS0]
    exact xt_old (s := s) (t := T.setVm s.vm) X.same (Array.getElem?_eq_some_iff.mp hcS0).1
  have hkn : cS0.vm ≠ .unknown := by
    intro hu
    rw [hu] at hiss
    cases hiss
  have hne : K.aS ≠ a := Nat.ne_of_lt (Nat.lt_of_lt_of_le (Array.getElem?_eq_some_iff.mp hcS0).1 hnew)
  obtain ⟨iM, hffM⟩ := Y.msg
  obtain ⟨ci, ii, fB, hk198, hg198, ha198, hsB, -, hnB, htB, hffB⟩ := Cond.ownField (t := .object "java/lang/Object") Y.found L.cls (by decide +kernel) (A (.fieldLink Bundle.tN 198 Bundle.tN "backtrace" "Ljava/lang/Object;") (by simp [xt_atoms])) (A (.lays Bundle.tN Bundle.tN "backtrace" "Ljava/lang/Object;") (by simp [xt_atoms])) e.platform hpl
  obtain ⟨tyC, dC, hdC, hdnC⟩ := Cond.laysAt hfP hk1 Y.cause (A (.lays cls Bundle.tN "cause" "Ljava/lang/Throwable;") (by simp [xt_atoms]))
  obtain ⟨tyS, dS, hdS, hdnS⟩ := Cond.laysAt hfP hk1 Y.stack (A (.lays cls Bundle.tN "stackTrace" Bundle.steD) (by simp [xt_atoms]))
  obtain ⟨tyP, dP, hdP, hdnP⟩ := Cond.laysAt hfP hk1 Y.supp (A (.lays cls Bundle.tN "suppressedExceptions" Bundle.listD) (by simp [xt_atoms]))
  obtain ⟨tyM, dM, hdM, hdnM⟩ := Cond.laysAt hfP hk1 hffM (A (.lays cls Bundle.tN "detailMessage" "Ljava/lang/String;") (by simp [xt_atoms]))
  obtain ⟨tyB, dB, hdB, hdnB⟩ := Cond.laysAt hfP hk1 hffB (A (.lays cls Bundle.tN "backtrace" "Ljava/lang/Object;") (by simp [xt_atoms]))
  have bC := Cond.laysApart hdB hdC hdnB hdnC (by rw [hnB, Y.causeName]; decide)
  have bS := Cond.laysApart hdB hdS hdnB hdnS (by rw [hnB, Y.stackName]; decide)
  have bP := Cond.laysApart hdB hdP hdnB hdnP (by rw [hnB, Y.suppName]; decide)
  have hskip : SkipFacts K e.platform s (fun u => u) u0 ((preparedCellV K.toThrowableT (freshCell P1.m.cls kX) a u0 sen).withEntry T.cur) :=
    ⟨{ ci198 := ci, i198 := ii, fBack := fB }, ⟨hk198, hg198, ha198, hsB⟩, by
      have h9 := fresh_default (c := P1.m.cls) tyB
      rw [htB] at h9
      simpa [preparedCellV, Cell.setSlot, Cell.withEntry, Array.getElem?_setIfInBounds, bC, bS, bP, bC.symm, bS.symm, bP.symm, defaultValue] using h9, fun _ _ => rfl⟩
  obtain ⟨tm, methC, cdC, kC, vm₁, hnC, -, -, -, -, -, -, -, hW₁, st1⟩ := Steps.initColdS (tb := p.tables) (e := e) (below := below) (s := s) (U := T) X.here hexec X.warmed hpl hown (t := Bundle.initS cls) rfl rfl (Bundle.fit_spec hcls).2
    (A (.methodLink own ic (Bundle.initS cls)) (by simp [xt_atoms])) (h (.instanceMethod (Bundle.initS cls)) (by simp [xt_atoms, Bundle.passSAtoms])) (bytes := by0) (maxL := 2) (h (.code (Bundle.initS cls) by0 2 none) (by simp [xt_atoms, Bundle.passSAtoms]))
    (f := g) hg (a := a) (msg := msg) (rest := [.ref a]) hstack hd6
  cases Option.some.inj (hnC.symm.trans hP1)
  have X₁ := X.noted hW₁
  have hsup2 : P1.sup = P2.m := Option.some.inj (hsup.symm.trans hP2)
  obtain ⟨vm₂, X₂, st2⟩ := X₁.ctorMessageOffV hexec (g := { g with stack := [.ref a] }) hg hsize K L Z LZ M LM (P1 :: P2 :: Ps)
    (fun P hP => by
      rcases List.mem_cons.mp hP with rfl | hP
      · exact L1
      · rcases List.mem_cons.mp hP with rfl | hP
        · exact L2
        · exact hLs P hP)
    ⟨hsup2, hl2, hls⟩ (u0 := u0) (sen := sen) (self := a) hmsg (cell := freshCell P1.m.cls kX) (cellS := cS0)
    hcell (fun _ => by simp) (by simp) rfl rfl hs0 hsF hcS hne hkn hu0 hsen
    (Takes.of_laid hk1 hord tyC (by rw [Y.causeType]; rfl)) (Takes.of_laid hk1 hord tyS (by rw [Y.stackType]; exact fits_refV_array _ u0)) (Takes.of_laid hk1 hord tyP (by rw [Y.suppType]; exact fits_refV_object _ sen))
    (Takes.of_laid hk1 hord tyM (by rw [Y.msgType]; exact fits_refV_object _ ⟨msg, hmsg⟩)) Y.objLocals hskip htr [] hd6
    (by simp only [List.length_cons, hlen]; omega) (by simp only [List.length_cons, hlen, List.map_cons, List.map_nil, List.sum_cons, List.sum_nil, Value.category]; have h8 : (({ g with stack := [.ref a] } : JFrame)).monitorRoom = g.monitorRoom := rfl; rw [h8]; omega)
  obtain ⟨hwalk, hrun, hended, hWU, hsame⟩ := X₂.athrowLeaves hexec (g := { g with stack := [.ref a], pc := g.pc + 3 }) hg hlocked hentered hout (a := a) (rest := []) rfl hd9 hlk
  have ha : a < T.heap.size := (Array.getElem?_eq_some_iff.mp hcell).1
  refine ⟨_, st1 _ (fun acts => ?_), hrun, hended, hWU, hsame.weaken (fun y hy hlt' => ?_) (Nat.le_refl _) (Nat.le_refl _), plainBareV K.toThrowableT (freshCell P1.m.cls kX) a u0 sen msg, ?_, rfl, hfP⟩
  · rw [doInvoke_state]
    exact st2 _ hwalk
  · exfalso
    have hb : y.base = a := by
      rw [List.nil_append] at hy
      simp only [List.mem_cons, List.not_mem_nil, or_false] at hy
      rcases hy with rfl | rfl | rfl | rfl | rfl <;> rfl
    rw [hb] at hlt'
    exact Nat.not_lt.mpr hnew hlt'
  · show (((T.setVm vm₁).setVm vm₂).setCell a _).heap[a]? = _
    simp [State.setCell, ha]
end Ctor
end
section
/-! Own rows: 'throw new X("text")' in a method without handlers, whatever the method wrote before. -/
section Throw2
variable {p : Program} {l : Launch} {e : Env} {R : Room} {s : State} {m : MethodId} {args : Array Value} {below : List Frame} {meth : Method} {c : Code} {H : Heap} {locs : List Loc}
/-- the words that 'throw new cls(text)' needs at a state -/
def xt_Ok (own cls tx : String) (names : List String) (ix is ic : Nat) (a : Array Value) (U : State) : Prop :=
  (Cond.classLink own ix cls).before a U = true ∧ (Cond.instantiable cls 6).before a U = true ∧ (Cond.initialized cls).before a U = true ∧ ((∀ w ∈ Bundle.ownAtoms own ic cls names, w.before a U = true) ∨ ∃ (nxt : String) (rest : List String) (i0 : Nat) (by0 : ByteArray), names = nxt :: rest ∧ (decode by0 0 = .ok (.aload_n 0, 1) ∧ decode by0 1 = .ok (.aload_n 1, 1) ∧ decode by0 2 = .ok (.invokespecial i0, 3) ∧ decode by0 5 = .ok (.return_, 1)) ∧ ∀ w ∈ xt_atoms own ic cls nxt rest i0 by0, w.before a U = true) ∧ ∃ q : Nat, vk_R own is tx q U
theorem xt_throw {cc : ByteArray} {own cls tx : String} {names : List String} {ix is ic pc n2 : Nat} {ls : Array Slot} {Qc : Array Value → State → Outcome → State → Prop} {free : Addr → Prop}
    (hx : p.tables.exec = Jvm.exec) (hb : c.code = cc) (hsz : ls.size = c.maxLocals) (hown : s.vm.findClass own = some m.cls) (htr : l.stackTraces = false) (hlk : meth.locks = false) (hexc : c.exceptionTable.isEmpty = true) (hcls : Bundle.fit cls = true) (hnames : ∀ n ∈ names, Bundle.fit n = true)
    (hw : ∀ U : State, U.heap = H → s.WarmedH U.vm → xt_Ok own cls tx names ix is ic args U)
    (hR : names.length + 3 < R.frames ∧ 1 + (13 * (names.length + 1) + 42) ≤ R.locals) (hC : 0 + 1 ≤ R.cells) (hS : 0 + 6 ≤ R.slots) (hfree : ∀ q ∈ locs, free q.base)
    (d0 : decode cc pc = .ok (.new ix, 3)) (d1 : decode cc (pc + 3) = .ok (.dup, 1)) (d2 : (decode cc (pc + 3 + 1) = .ok (.ldc is, 2) ∧ n2 = 2) ∨ (decode cc (pc + 3 + 1) = .ok (.ldc_w is, 3) ∧ n2 = 3)) (d3 : decode cc (pc + 3 + 1 + n2) = .ok (.invokespecial ic, 3)) (d4 : decode cc (pc + 3 + 1 + n2 + 3) = .ok (.athrow, 1))
    (hQ : ∀ (U : State) (ce : Cell), s.WarmedH U.vm → H.size ≤ U.heap.size → (∀ q : Nat, q < H.size → U.heap[q]? = H[q]?) → U.heap[H.size]? = some ce → ce.vm = .none → (∃ v : Vm, s.WarmedH v ∧ v.findClass cls = some ce.cls) → Qc args s (.threw H.size) U) :
    W p l e R s m args below meth c H locs 0 0 (MQX below Qc args s free) (F0 m pc ls []) := by
  intro T hT X
  subst hT
  have X' := st_re X 1 6 hC hS
  have hvm : s.WarmedH (T.setFrames (.invoking m args :: below)).vm := X.warmed
  obtain ⟨w1, w2, w3, w4, q, w5⟩ := hw (T.setFrames (.invoking m args :: below)) rfl hvm
  have hown' : (T.setFrames (.invoking m args :: below)).vm.findClass own = some m.cls := by
    show T.vm.findClass own = _
    rw [X.warmed.alike.findClass]; exact hown
  have key : W p l e { R with cells := 1, slots := 6 } (T.setFrames (.invoking m args :: below)) m args below meth c T.heap [] 0 0
      (fun U => ∃ (ce : Cell), U.status = .running ∧ Ended U below (.threw T.heap.size) ∧ (T.setFrames (.invoking m args :: below)).WarmedH U.vm ∧ (T.setFrames (.invoking m args :: below)).sameButNew ({ U with vm := (T.setFrames (.invoking m args :: below)).vm } : State) [] 1 6 ∧ U.heap[T.heap.size]? = some ce ∧ ce.vm = .none ∧ T.vm.findClass cls = some ce.cls) (F0 m pc ls []) := by
    refine W.newc hx hb hown' w1 w2 w3 rfl d0 (Nat.le_refl _) (Nat.le_refl _) (fun cC kC hf hk hord hsz6 => ?_)
    refine lv_dup (rest := []) hx hb d1 rfl ?_
    have key2 : W p l e { R with cells := 1, slots := 6 } (T.setFrames (.invoking m args :: below)) m args below meth c (T.heap.push { cls := cC, slots := kC.instanceTypes.map defaultValue, vm := .none }) [] (0 + 1) (0 + 6)
        (fun U => ∃ (ce : Cell), U.status = .running ∧ Ended U below (.threw T.heap.size) ∧ (T.setFrames (.invoking m args :: below)).WarmedH U.vm ∧ (T.setFrames (.invoking m args :: below)).sameButNew ({ U with vm := (T.setFrames (.invoking m args :: below)).vm } : State) [] 1 6 ∧ U.heap[T.heap.size]? = some ce ∧ ce.vm = .none ∧ T.vm.findClass cls = some ce.cls) (F0 m (pc + 3 + 1 + n2) ls [.ref q, .ref T.heap.size, .ref T.heap.size]) := by
      intro T2 hT2 X2
      subst hb
      have hce0 : T2.heap[T.heap.size]? = some (freshCell cC kC) := by rw [hT2]; simp
      have hout : ∀ x ∈ c.exceptionTable.toList, covers x (pc + 3 + 1 + n2 + 3) = false := fun x hx => by rw [Array.isEmpty_iff.mp hexc] at hx; cases hx
      rcases w4 with w4 | ⟨nxt, nrest, i0, by0, rfl, hdec, w4⟩
      · obtain ⟨U, st, hrun, hend, hW, hsame, ce, hce, hoc⟩ := X2.ctorThrowS hx (by rw [X.admits.platform]; exact htr) (own := own) (cls := cls) (names := names) (ic := ic) hown' hcls hnames w4 (fun x h => by cases h) (a := T.heap.size) hf hk
          hce0 (Nat.le_refl _) (msg := .ref q) rfl (g := F0 m (pc + 3 + 1 + n2) ls [.ref q, .ref T.heap.size, .ref T.heap.size]) rfl hsz rfl rfl (rest := []) rfl d3 d4 hout hR.1 (by simpa [JFrame.monitorRoom, Value.category] using hR.2) hlk
        exact ⟨U, st, ce, hrun, hend, hW, hsame, hce, hoc.vm, hoc.cls⟩
      · obtain ⟨U, st, hrun, hend, hW, hsame, ce, hce, hvm, hcl⟩ := xt_ctor X2 hx (by rw [X.admits.platform]; exact htr) (own := own) (cls := cls) (nxt := nxt) (names := nrest) (ic := ic) (i0 := i0) (by0 := by0) hown' hcls (hnames nxt List.mem_cons_self) (fun n hn => hnames n (List.mem_cons_of_mem _ hn)) hdec w4 (a := T.heap.size) hf hk
          hce0 (Nat.le_refl _) (msg := .ref q) rfl (g := F0 m (pc + 3 + 1 + n2) ls [.ref q, .ref T.heap.size, .ref T.heap.size]) rfl hsz rfl rfl rfl d3 d4 hout (by have h9 := hR.1; simp only [List.length_cons] at h9; omega) (by have h9 := hR.2; simp only [List.length_cons] at h9; show 2 * 0 + 1 + (13 * (nrest.length + 2) + 42) ≤ R.locals; omega) hlk
        exact ⟨U, st, ce, hrun, hend, hW, hsame, hce, hvm, hcl⟩
    rcases d2 with ⟨d2, rfl⟩ | ⟨d2, rfl⟩
    · exact va_ldcS hx hb hown' w5 d2 key2
    · exact xt_ldcw hx hb hown' w5 d2 key2
  obtain ⟨U, st, ce, hrun, hend, hW, hsame, hce, hnone, hcl⟩ := key T rfl X'
  have hW2 : s.WarmedH U.vm := State.WarmedH.trans X.warmed hW
  refine ⟨U, st, .threw T.heap.size, hrun, hend, ?_, locs, ⟨hW2, by have h9 := st_back X hsame; rw [Nat.zero_add, Nat.zero_add] at h9; exact h9⟩, hfree⟩
  exact hQ U ce hW2 hsame.2.1 (fun q hq => xt_old hsame hq) hce hnone ⟨T.vm, X.warmed, hcl⟩
end Throw2
end
section
/-! Own rows: an exception that is caught by a clause of the method's own table, the clauses' classes resolved or not; methods with such clauses. -/
section Catch
/-- one clause of the table: it covers the place, it links to a class; the exception's class can be assigned to it (then its handler takes it), or it can't (then the search goes on) -/
def xk_Hit (pl : Platform) (s : State) (d : ClassId) (pc : Nat) (thrown : ClassId) (h : Nat) : List ExceptionTableEntry → Prop
  | [] => False
  | x :: t => covers x pc = true ∧ x.catchType ≠ 0 ∧ ∃ c, s.vm.ClassLinks pl d x.catchType c ∧ ((s.vm.assignable thrown c = true ∧ x.handlerPc = h) ∨ (s.vm.assignable thrown c = false ∧ xk_Hit pl s d pc thrown h t))
theorem xk_one {e : Env} {f : JFrame} {a : Addr} {cell : Cell} {S : State} {x : ExceptionTableEntry} {t : List ExceptionTableEntry} {c : ClassId} (hobj : ∀ k, cell.vm ≠ .statics k) (hcell : S.heap[a]? = some cell) (hx : covers x f.pc = true) (h0 : x.catchType ≠ 0) (hl : S.vm.ClassLinks e.platform f.method.cls x.catchType c)
    (h1 : ∃ k, S.vm.classes[cell.cls]? = some k) (h2 : ∃ k, S.vm.classes[c]? = some k) (Q : Handler → Pre) (E : CtlPost) (d : Bool) (acts : List Action) :
    wp (findHandler.go f a (x :: t)) Q E e d acts S ↔ if S.vm.assignable cell.cls c = true then Q (.found x.handlerPc) d acts (S.setVm (S.vm.noted f.method.cls x.catchType (.cls c))) else wp (findHandler.go f a t) Q E e d acts (S.setVm (S.vm.noted f.method.cls x.catchType (.cls c))) := by
  have hal : S.vm.Alike (S.vm.noted f.method.cls x.catchType (.cls c)) := (Vm.Alike.refl S.vm).noted _ _ _
  obtain ⟨g1, g2⟩ := (resolveClass_links e.toSetting hl).op (op := VmOp.resolveClass f.method.cls x.catchType) rfl
  obtain ⟨k1, q1⟩ := h1
  obtain ⟨k2, q2⟩ := h2
  obtain ⟨k1', q1', -⟩ := hal.2.2 _ _ q1
  obtain ⟨k2', q2', -⟩ := hal.2.2 _ _ q2
  have hasg := hal.assignable cell.cls c
  simp only [covers] at hx
  cases hfit : S.vm.assignable cell.cls c
  · have hf' : (S.vm.noted f.method.cls x.catchType (.cls c)).assignable cell.cls c = false := by rw [hasg]; exact hfit
    simp [findHandler.go, hx, h0, g1, g2, hcell, hobj, q1', q2', hf', VmOp.dirties, VmOp.acts]
  · have hf' : (S.vm.noted f.method.cls x.catchType (.cls c)).assignable cell.cls c = true := by rw [hasg]; exact hfit
    simp [findHandler.go, hx, h0, g1, g2, hcell, hobj, q1', q2', hf', VmOp.dirties, VmOp.acts]
theorem xk_search {e : Env} {s : State} {f : JFrame} {a : Addr} {cell : Cell} {h : Nat} (hobj : ∀ k, cell.vm ≠ .statics k) (hk : ∃ k, s.vm.classes[cell.cls]? = some k) :
    ∀ (es : List ExceptionTableEntry) (S : State), s.WarmedH S.vm → S.heap[a]? = some cell → xk_Hit e.platform s f.method.cls f.pc cell.cls h es →
      ∃ vm', s.WarmedH vm' ∧ ∀ (Q : Handler → Pre) (E : CtlPost) (d : Bool) (acts : List Action), wp (findHandler.go f a es) Q E e d acts S ↔ Q (.found h) d acts (S.setVm vm') := by
  intro es
  induction es with
  | nil => intro S _ _ hh; exact hh.elim
  | cons x t ih =>
    intro S hW hcell hh
    obtain ⟨hx, h0, c, hl, hor⟩ := hh
    obtain ⟨dk, _, _, kt, hd, _, _, _, _, hkt, _, hop⟩ := hl.here
    obtain ⟨k0, hk0⟩ := hk
    obtain ⟨k0', hk0', -⟩ := hW.alike.2.2 _ _ hk0
    obtain ⟨kt', hkt', -⟩ := hW.alike.2.2 _ _ hkt
    have hW2 : s.WarmedH (S.vm.noted f.method.cls x.catchType (.cls c)) := hW.noted hd hop (State.rightAt_cls hl)
    have one := fun Q E d acts => xk_one (e := e) (f := f) (t := t) hobj hcell hx h0 (hW.classLinks hl) ⟨k0', hk0'⟩ ⟨kt', hkt'⟩ Q E d acts
    have hasg := hW.alike.assignable cell.cls c
    rcases hor with ⟨hfit, rfl⟩ | ⟨hno, hrest⟩
    · exact ⟨_, hW2, fun Q E d acts => by rw [one Q E d acts, if_pos (by rw [hasg]; exact hfit)]⟩
    · obtain ⟨vm', hW', hq⟩ := ih (S.setVm (S.vm.noted f.method.cls x.catchType (.cls c))) hW2 hcell hrest
      exact ⟨vm', hW', fun Q E d acts => by rw [one Q E d acts, if_neg (by rw [hasg, hno]; decide)]; exact hq Q E d acts⟩
theorem xk_caught {p : Program} {l : Launch} {e : Env} {R : Room} {s : State} {m : MethodId} {args : Array Value} {below : List Frame} {meth : Method} {c : Code} {T : State} {locs : List Loc} {cells slots : Nat} (X : Stand p l e R s m args below meth c T locs cells slots)
    (a : Addr) {g : JFrame} (hg : g.method = m) {cell : Cell} (hcell : T.heap[a]? = some cell) (hvm : cell.vm = .none) (hk : ∃ k, s.vm.classes[cell.cls]? = some k) {h : Nat} (hh : xk_Hit e.platform s m.cls g.pc cell.cls h c.exceptionTable.toList) :
    ∃ vm', Stand p l e R s m args below meth c (T.setVm vm') locs cells slots ∧ ∀ tg, Steps p.tables e below ((T.setVm vm').setTop { g with pc := h, stack := [.ref a] }) tg → Steps p.tables e below ((T.setTop g).pushFrame (.throwing a)) tg := by
  subst hg
  obtain ⟨vm', hW', hq⟩ := xk_search (e := e) (s := s) (f := g) (a := a) (cell := cell) (h := h) (fun k hk => by rw [hvm] at hk; cases hk) hk c.exceptionTable.toList ((T.setTop g).pushFrame (.throwing a)) X.warmed hcell hh
  refine ⟨vm', X.noted hW', fun tg hrest => ?_⟩
  have hAt := X.here
  obtain ⟨hgo, hw⟩ := hAt.throwing a
  refine Steps.head hgo hw ?_
  have hstep : (stepThrowing e ((T.setTop g).pushFrame (.throwing a)) a (.java g :: T.frames.tail)).Is ((((T.setTop g).pushFrame (.throwing a)).setVm vm').setFrames (.java { g with pc := h, stack := [.ref a] } :: T.frames.tail)) [] := by
    simp only [stepThrowing, searchFrame, vmDo]
    generalize hr : Sem.go _ e false [] ((T.setTop g).pushFrame (.throwing a)) = res
    have hm : ((T.setTop g).pushFrame (.throwing a)).vm.method? g.method = some meth := X.method'
    obtain ⟨as, rfl, ha⟩ := Sem.eq_ok_of hr (a := Handler.found h) (s' := ((T.setTop g).pushFrame (.throwing a)).setVm vm') (acts' := []) (by simp [W.findHandler_eq hm X.code, hq _ _ _ _])
    exact ⟨rfl, ha⟩
  rw [stepThread_throwing (frames_entered hAt.top _), hstep.1]
  obtain ⟨g₀, hfr⟩ := X.frames_eq
  have hr' : (T.setVm vm').frames = .java g₀ :: below := hfr
  rw [State.setTop_of_frames _ hr'] at hrest
  have e1 : (((T.setTop g).pushFrame (.throwing a)).setVm vm').setFrames (.java { g with pc := h, stack := [.ref a] } :: T.frames.tail) = (T.setVm vm').setFrames (.java { g with pc := h, stack := [.ref a] } :: below) := by
    rw [State.pushFrame, State.setTop_of_frames _ hfr, hfr]
    show (((T.setVm vm').setFrames _).setFrames _).setFrames _ = _
    rw [State.setFrames_setFrames, State.setFrames_setFrames]
    rfl
  rw [e1]
  exact hrest
end Catch
end
section
/-! Names: classes, fields in their order, types, methods, codes. Printed by wip/whole/emit.py. -/
def R_O : String := "PanelOffice"
def R_P : String := "PanelOffice$Pool"
def R_Q : String := "PanelOffice$Quotas"
def R_T : String := "PanelOffice$Tally"
def R_R : String := "PanelOffice$Ranking"
def R_C : String := "PanelOffice$Clash"
def R_D : String := "PanelOffice$Dice"
def R_S : String := "PanelOffice$Seats"
def R_M : String := "PanelOfficeModel"
def R_A : String := "java/util/Arrays"
def R_L : String := "PanelOfficeLaw"
def F_O : u_T := fun k => match k with
  | 0 => ("PanelOffice", "pool", "LPanelOffice$Pool;", true)
  | 1 => ("PanelOffice", "quotas", "LPanelOffice$Quotas;", true)
  | 2 => ("PanelOffice", "tally", "LPanelOffice$Tally;", true)
  | 3 => ("PanelOffice", "ranking", "LPanelOffice$Ranking;", true)
  | 4 => ("PanelOffice", "clash", "LPanelOffice$Clash;", true)
  | 5 => ("PanelOffice", "dice", "LPanelOffice$Dice;", true)
  | 6 => ("PanelOffice", "seats", "LPanelOffice$Seats;", true)
  | 7 => ("PanelOffice", "told", "[I", true)
  | 8 => ("PanelOffice", "size", "I", false)
  | 9 => ("PanelOffice", "marks", "J", false)
  | 10 => ("PanelOffice", "tallyIsFresh", "Z", false)
  | _ => ("PanelOffice", "clashIsFresh", "Z", false)
def ft_O : Nat → FieldType := fun k => match k with
  | 0 => .object "PanelOffice$Pool"
  | 1 => .object "PanelOffice$Quotas"
  | 2 => .object "PanelOffice$Tally"
  | 3 => .object "PanelOffice$Ranking"
  | 4 => .object "PanelOffice$Clash"
  | 5 => .object "PanelOffice$Dice"
  | 6 => .object "PanelOffice$Seats"
  | 7 => .array .int
  | 8 => .int
  | 9 => .long
  | 10 => .boolean
  | _ => .boolean
theorem n_O : ∀ a, a < 12 → ∀ b, b < 12 → a ≠ b → (F_O a).2.1 ≠ (F_O b).2.1 := by decide +kernel
theorem ft_O_ok : ∀ k, k < 12 → parseFieldDescriptor (F_O k).2.2.1 = some (ft_O k) := by decide +kernel
theorem in_O : ∀ w ∈ u_ws R_O F_O 12, w ∈ lw_tbl := by decide +kernel
def F_P : u_T := fun k => match k with
  | 0 => ("PanelOffice$Pool", "values", "[I", true)
  | 1 => ("PanelOffice$Pool", "codes", "[I", true)
  | 2 => ("PanelOffice$Pool", "kindCodes", "[I", true)
  | 3 => ("PanelOffice$Pool", "kindSizes", "[I", true)
  | 4 => ("PanelOffice$Pool", "persons", "I", false)
  | _ => ("PanelOffice$Pool", "kinds", "I", false)
def ft_P : Nat → FieldType := fun k => match k with
  | 0 => .array .int
  | 1 => .array .int
  | 2 => .array .int
  | 3 => .array .int
  | 4 => .int
  | _ => .int
theorem n_P : ∀ a, a < 6 → ∀ b, b < 6 → a ≠ b → (F_P a).2.1 ≠ (F_P b).2.1 := by decide +kernel
theorem ft_P_ok : ∀ k, k < 6 → parseFieldDescriptor (F_P k).2.2.1 = some (ft_P k) := by decide +kernel
theorem in_P : ∀ w ∈ u_ws R_P F_P 6, w ∈ lw_tbl := by decide +kernel
def F_Q : u_T := fun k => match k with
  | 0 => ("PanelOffice$Quotas", "least", "[I", true)
  | _ => ("PanelOffice$Quotas", "most", "[I", true)
def ft_Q : Nat → FieldType := fun k => match k with
  | 0 => .array .int
  | _ => .array .int
theorem n_Q : ∀ a, a < 2 → ∀ b, b < 2 → a ≠ b → (F_Q a).2.1 ≠ (F_Q b).2.1 := by decide +kernel
theorem ft_Q_ok : ∀ k, k < 2 → parseFieldDescriptor (F_Q k).2.2.1 = some (ft_Q k) := by decide +kernel
theorem in_Q : ∀ w ∈ u_ws R_Q F_Q 2, w ∈ lw_tbl := by decide +kernel
def F_T : u_T := fun k => match k with
  | 0 => ("PanelOffice$Tally", "pool", "LPanelOffice$Pool;", true)
  | 1 => ("PanelOffice$Tally", "rows", "[J", true)
  | 2 => ("PanelOffice$Tally", "takes", "[I", true)
  | 3 => ("PanelOffice$Tally", "stay", "[I", true)
  | 4 => ("PanelOffice$Tally", "more", "[I", true)
  | 5 => ("PanelOffice$Tally", "ahead", "[J", true)
  | 6 => ("PanelOffice$Tally", "behind", "[J", true)
  | 7 => ("PanelOffice$Tally", "slots", "[I", true)
  | 8 => ("PanelOffice$Tally", "layers", "[I", true)
  | 9 => ("PanelOffice$Tally", "chooses", "[I", true)
  | 10 => ("PanelOffice$Tally", "found", "I", false)
  | 11 => ("PanelOffice$Tally", "refused", "Z", false)
  | _ => ("PanelOffice$Tally", "behindIsFresh", "Z", false)
def ft_T : Nat → FieldType := fun k => match k with
  | 0 => .object "PanelOffice$Pool"
  | 1 => .array .long
  | 2 => .array .int
  | 3 => .array .int
  | 4 => .array .int
  | 5 => .array .long
  | 6 => .array .long
  | 7 => .array .int
  | 8 => .array .int
  | 9 => .array .int
  | 10 => .int
  | 11 => .boolean
  | _ => .boolean
theorem n_T : ∀ a, a < 13 → ∀ b, b < 13 → a ≠ b → (F_T a).2.1 ≠ (F_T b).2.1 := by decide +kernel
theorem ft_T_ok : ∀ k, k < 13 → parseFieldDescriptor (F_T k).2.2.1 = some (ft_T k) := by decide +kernel
theorem in_T : ∀ w ∈ u_ws R_T F_T 13, w ∈ lw_tbl := by decide +kernel
def F_R : u_T := fun k => match k with
  | 0 => ("PanelOffice$Ranking", "pool", "LPanelOffice$Pool;", true)
  | _ => ("PanelOffice$Ranking", "tally", "LPanelOffice$Tally;", true)
def ft_R : Nat → FieldType := fun k => match k with
  | 0 => .object "PanelOffice$Pool"
  | _ => .object "PanelOffice$Tally"
theorem n_R : ∀ a, a < 2 → ∀ b, b < 2 → a ≠ b → (F_R a).2.1 ≠ (F_R b).2.1 := by decide +kernel
theorem ft_R_ok : ∀ k, k < 2 → parseFieldDescriptor (F_R k).2.2.1 = some (ft_R k) := by decide +kernel
theorem in_R : ∀ w ∈ u_ws R_R F_R 2, w ∈ lw_tbl := by decide +kernel
def F_C : u_T := fun k => match k with
  | 0 => ("PanelOffice$Clash", "pool", "LPanelOffice$Pool;", true)
  | 1 => ("PanelOffice$Clash", "tally", "LPanelOffice$Tally;", true)
  | 2 => ("PanelOffice$Clash", "trial", "LPanelOffice$Quotas;", true)
  | 3 => ("PanelOffice$Clash", "names", "[I", true)
  | 4 => ("PanelOffice$Clash", "found", "I", false)
  | _ => ("PanelOffice$Clash", "refused", "Z", false)
def ft_C : Nat → FieldType := fun k => match k with
  | 0 => .object "PanelOffice$Pool"
  | 1 => .object "PanelOffice$Tally"
  | 2 => .object "PanelOffice$Quotas"
  | 3 => .array .int
  | 4 => .int
  | _ => .boolean
theorem n_C : ∀ a, a < 6 → ∀ b, b < 6 → a ≠ b → (F_C a).2.1 ≠ (F_C b).2.1 := by decide +kernel
theorem ft_C_ok : ∀ k, k < 6 → parseFieldDescriptor (F_C k).2.2.1 = some (ft_C k) := by decide +kernel
theorem in_C : ∀ w ∈ u_ws R_C F_C 6, w ∈ lw_tbl := by decide +kernel
def F_D : u_T := fun k => match k with
  | 0 => ("PanelOffice$Dice", "begun", "Z", false)
  | 1 => ("PanelOffice$Dice", "done", "Z", false)
  | 2 => ("PanelOffice$Dice", "sides", "I", false)
  | 3 => ("PanelOffice$Dice", "goal", "J", false)
  | 4 => ("PanelOffice$Dice", "outcomes", "J", false)
  | 5 => ("PanelOffice$Dice", "needed", "I", false)
  | 6 => ("PanelOffice$Dice", "thrown", "I", false)
  | _ => ("PanelOffice$Dice", "value", "J", false)
def ft_D : Nat → FieldType := fun k => match k with
  | 0 => .boolean
  | 1 => .boolean
  | 2 => .int
  | 3 => .long
  | 4 => .long
  | 5 => .int
  | 6 => .int
  | _ => .long
theorem n_D : ∀ a, a < 8 → ∀ b, b < 8 → a ≠ b → (F_D a).2.1 ≠ (F_D b).2.1 := by decide +kernel
theorem ft_D_ok : ∀ k, k < 8 → parseFieldDescriptor (F_D k).2.2.1 = some (ft_D k) := by decide +kernel
theorem in_D : ∀ w ∈ u_ws R_D F_D 8, w ∈ lw_tbl := by decide +kernel
def F_S : u_T := fun k => match k with
  | 0 => ("PanelOffice$Seats", "pool", "LPanelOffice$Pool;", true)
  | 1 => ("PanelOffice$Seats", "quotas", "LPanelOffice$Quotas;", true)
  | 2 => ("PanelOffice$Seats", "members", "[I", true)
  | 3 => ("PanelOffice$Seats", "numbers", "[I", true)
  | 4 => ("PanelOffice$Seats", "candidates", "[I", true)
  | 5 => ("PanelOffice$Seats", "places", "I", false)
  | 6 => ("PanelOffice$Seats", "seated", "J", false)
  | 7 => ("PanelOffice$Seats", "gone", "J", false)
  | _ => ("PanelOffice$Seats", "emptyPlace", "I", false)
def ft_S : Nat → FieldType := fun k => match k with
  | 0 => .object "PanelOffice$Pool"
  | 1 => .object "PanelOffice$Quotas"
  | 2 => .array .int
  | 3 => .array .int
  | 4 => .array .int
  | 5 => .int
  | 6 => .long
  | 7 => .long
  | _ => .int
theorem n_S : ∀ a, a < 9 → ∀ b, b < 9 → a ≠ b → (F_S a).2.1 ≠ (F_S b).2.1 := by decide +kernel
theorem ft_S_ok : ∀ k, k < 9 → parseFieldDescriptor (F_S k).2.2.1 = some (ft_S k) := by decide +kernel
theorem in_S : ∀ w ∈ u_ws R_S F_S 9, w ∈ lw_tbl := by decide +kernel
def F_M : u_T := fun k => match k with
  | 0 => ("PanelOfficeModel", "code", "I", false)
  | 1 => ("PanelOfficeModel", "persons", "I", false)
  | 2 => ("PanelOfficeModel", "value", "[I", true)
  | 3 => ("PanelOfficeModel", "marked", "[Z", true)
  | 4 => ("PanelOfficeModel", "values", "[I", true)
  | 5 => ("PanelOfficeModel", "least", "[I", true)
  | 6 => ("PanelOfficeModel", "most", "[I", true)
  | 7 => ("PanelOfficeModel", "size", "I", false)
  | 8 => ("PanelOfficeModel", "kinds", "I", false)
  | 9 => ("PanelOfficeModel", "kindIs", "[I", true)
  | 10 => ("PanelOfficeModel", "kindHas", "[I", true)
  | 11 => ("PanelOfficeModel", "known", "Z", false)
  | 12 => ("PanelOfficeModel", "tooMany", "Z", false)
  | 13 => ("PanelOfficeModel", "states", "I", false)
  | 14 => ("PanelOfficeModel", "begins", "[I", true)
  | 15 => ("PanelOfficeModel", "counts", "[J", true)
  | 16 => ("PanelOfficeModel", "ways", "[J", true)
  | 17 => ("PanelOfficeModel", "chain", "[I", true)
  | 18 => ("PanelOfficeModel", "heads", "[I", true)
  | 19 => ("PanelOfficeModel", "drawn", "Z", false)
  | 20 => ("PanelOfficeModel", "member", "[I", true)
  | 21 => ("PanelOfficeModel", "emptyPlace", "I", false)
  | 22 => ("PanelOfficeModel", "dropped", "[Z", true)
  | 23 => ("PanelOfficeModel", "sides", "I", false)
  | 24 => ("PanelOfficeModel", "thrownSoFar", "I", false)
  | 25 => ("PanelOfficeModel", "needed", "I", false)
  | 26 => ("PanelOfficeModel", "goal", "J", false)
  | 27 => ("PanelOfficeModel", "digits", "J", false)
  | 28 => ("PanelOfficeModel", "outcomes", "J", false)
  | 29 => ("PanelOfficeModel", "there", "Z", false)
  | 30 => ("PanelOfficeModel", "number", "J", false)
  | 31 => ("PanelOfficeModel", "lowWas", "[I", true)
  | 32 => ("PanelOfficeModel", "highWas", "[I", true)
  | 33 => ("PanelOfficeModel", "taken", "[I", true)
  | _ => ("PanelOfficeModel", "takenCount", "I", false)
def ft_M : Nat → FieldType := fun k => match k with
  | 0 => .int
  | 1 => .int
  | 2 => .array .int
  | 3 => .array .boolean
  | 4 => .array .int
  | 5 => .array .int
  | 6 => .array .int
  | 7 => .int
  | 8 => .int
  | 9 => .array .int
  | 10 => .array .int
  | 11 => .boolean
  | 12 => .boolean
  | 13 => .int
  | 14 => .array .int
  | 15 => .array .long
  | 16 => .array .long
  | 17 => .array .int
  | 18 => .array .int
  | 19 => .boolean
  | 20 => .array .int
  | 21 => .int
  | 22 => .array .boolean
  | 23 => .int
  | 24 => .int
  | 25 => .int
  | 26 => .long
  | 27 => .long
  | 28 => .long
  | 29 => .boolean
  | 30 => .long
  | 31 => .array .int
  | 32 => .array .int
  | 33 => .array .int
  | _ => .int
theorem n_M : ∀ a, a < 35 → ∀ b, b < 35 → a ≠ b → (F_M a).2.1 ≠ (F_M b).2.1 := by decide +kernel
theorem ft_M_ok : ∀ k, k < 35 → parseFieldDescriptor (F_M k).2.2.1 = some (ft_M k) := by decide +kernel
theorem in_M : ∀ w ∈ u_ws R_M F_M 35, w ∈ lw_tbl := by decide +kernel
abbrev cc_P_valueIn : ByteArray := prog_4_method_3_code
def y_P_valueIn : MethodName := ⟨"PanelOffice$Pool", "valueIn", "(II)I"⟩
abbrev cc_P_highestValue : ByteArray := prog_4_method_6_code
def y_P_highestValue : MethodName := ⟨"PanelOffice$Pool", "highestValue", "(I)I"⟩
abbrev cc_S_areDrawn : ByteArray := prog_7_method_4_code
def y_S_areDrawn : MethodName := ⟨"PanelOffice$Seats", "areDrawn", "()Z"⟩
abbrev cc_O_requireOpen : ByteArray := prog_1_method_27_code
def y_O_requireOpen : MethodName := ⟨"PanelOffice", "requireOpen", "()V"⟩
abbrev cc_D_end : ByteArray := prog_3_method_3_code
def y_D_end : MethodName := ⟨"PanelOffice$Dice", "end", "()V"⟩
abbrev cc_O_changed : ByteArray := prog_1_method_24_code
def y_O_changed : MethodName := ⟨"PanelOffice", "changed", "()V"⟩
abbrev cc_O_trait : ByteArray := prog_1_method_2_code
def y_O_trait : MethodName := ⟨"PanelOffice", "trait", "(II)V"⟩
abbrev cc_P_hasValue : ByteArray := prog_4_method_5_code
def y_P_hasValue : MethodName := ⟨"PanelOffice$Pool", "hasValue", "(II)Z"⟩
abbrev cc_P_codeOf : ByteArray := prog_4_method_2_code
def y_P_codeOf : MethodName := ⟨"PanelOffice$Pool", "codeOf", "(III)I"⟩
abbrev cc_P_kindsBelow : ByteArray := prog_4_method_10_code
def y_P_kindsBelow : MethodName := ⟨"PanelOffice$Pool", "kindsBelow", "(I)I"⟩
abbrev cc_P_isKind : ByteArray := prog_4_method_11_code
def y_P_isKind : MethodName := ⟨"PanelOffice$Pool", "isKind", "(I)Z"⟩
abbrev cc_P_hasRoomFor : ByteArray := prog_4_method_8_code
def y_P_hasRoomFor : MethodName := ⟨"PanelOffice$Pool", "hasRoomFor", "(I)Z"⟩
abbrev cc_P_insertKind : ByteArray := prog_4_method_12_code
def y_P_insertKind : MethodName := ⟨"PanelOffice$Pool", "insertKind", "(II)V"⟩
abbrev cc_P_add : ByteArray := prog_4_method_9_code
def y_P_add : MethodName := ⟨"PanelOffice$Pool", "add", "(I)I"⟩
abbrev cc_O_person : ByteArray := prog_1_method_3_code
def y_O_person : MethodName := ⟨"PanelOffice", "person", "(III)I"⟩
abbrev cc_O_quotaOf : ByteArray := prog_1_method_34_code
def y_O_quotaOf : MethodName := ⟨"PanelOffice", "quotaOf", "(II)I"⟩
abbrev cc_Q_set : ByteArray := prog_5_method_3_code
def y_Q_set : MethodName := ⟨"PanelOffice$Quotas", "set", "(III)V"⟩
abbrev cc_O_quota : ByteArray := prog_1_method_4_code
def y_O_quota : MethodName := ⟨"PanelOffice", "quota", "(IIII)V"⟩
abbrev cc_O_size : ByteArray := prog_1_method_5_code
def y_O_size : MethodName := ⟨"PanelOffice", "size", "(I)V"⟩
abbrev cc_A_fill2 : ByteArray := prog_19_method_103_code
def y_A_fill2 : MethodName := ⟨"java/util/Arrays", "fill", "([II)V"⟩
abbrev cc_T_enter : ByteArray := prog_8_method_13_code
def y_T_enter : MethodName := ⟨"PanelOffice$Tally", "enter", "(JI)I"⟩
abbrev cc_T_stateOf : ByteArray := prog_8_method_12_code
def y_T_stateOf : MethodName := ⟨"PanelOffice$Tally", "stateOf", "(J)I"⟩
abbrev cc_T_oneMoreOf : ByteArray := prog_8_method_10_code
def y_T_oneMoreOf : MethodName := ⟨"PanelOffice$Tally", "oneMoreOf", "(I)J"⟩
abbrev cc_T_field : ByteArray := prog_8_method_11_code
def y_T_field : MethodName := ⟨"PanelOffice$Tally", "field", "(JI)I"⟩
abbrev cc_T_takesFrom : ByteArray := prog_8_method_9_code
def y_T_takesFrom : MethodName := ⟨"PanelOffice$Tally", "takesFrom", "(JILPanelOffice$Quotas;I)I"⟩
abbrev cc_T_addLayer : ByteArray := prog_8_method_8_code
def y_T_addLayer : MethodName := ⟨"PanelOffice$Tally", "addLayer", "(ILPanelOffice$Quotas;I)V"⟩
abbrev cc_T_isPanel : ByteArray := prog_8_method_15_code
def y_T_isPanel : MethodName := ⟨"PanelOffice$Tally", "isPanel", "(JLPanelOffice$Quotas;I)Z"⟩
abbrev cc_T_choose : ByteArray := prog_8_method_5_code
def y_T_choose : MethodName := ⟨"PanelOffice$Tally", "choose", "(II)J"⟩
abbrev cc_T_aheadWithAny : ByteArray := prog_8_method_16_code
def y_T_aheadWithAny : MethodName := ⟨"PanelOffice$Tally", "aheadWithAny", "(II)J"⟩
abbrev cc_T_countAhead : ByteArray := prog_8_method_14_code
def y_T_countAhead : MethodName := ⟨"PanelOffice$Tally", "countAhead", "(LPanelOffice$Quotas;I)V"⟩
abbrev cc_T_build : ByteArray := prog_8_method_6_code
def y_T_build : MethodName := ⟨"PanelOffice$Tally", "build", "(LPanelOffice$Quotas;I)V"⟩
abbrev cc_O_refreshTally : ByteArray := prog_1_method_25_code
def y_O_refreshTally : MethodName := ⟨"PanelOffice", "refreshTally", "()V"⟩
abbrev cc_T_isRefused : ByteArray := prog_8_method_2_code
def y_T_isRefused : MethodName := ⟨"PanelOffice$Tally", "isRefused", "()Z"⟩
abbrev cc_O_requireCountable : ByteArray := prog_1_method_30_code
def y_O_requireCountable : MethodName := ⟨"PanelOffice", "requireCountable", "()V"⟩
abbrev cc_T_panels : ByteArray := prog_8_method_4_code
def y_T_panels : MethodName := ⟨"PanelOffice$Tally", "panels", "()J"⟩
abbrev cc_O_count : ByteArray := prog_1_method_6_code
def y_O_count : MethodName := ⟨"PanelOffice", "count", "()J"⟩
abbrev cc_T_statesFound : ByteArray := prog_8_method_3_code
def y_T_statesFound : MethodName := ⟨"PanelOffice$Tally", "statesFound", "()I"⟩
abbrev cc_O_states : ByteArray := prog_1_method_7_code
def y_O_states : MethodName := ⟨"PanelOffice", "states", "()I"⟩
abbrev cc_O_requirePerson : ByteArray := prog_1_method_31_code
def y_O_requirePerson : MethodName := ⟨"PanelOffice", "requirePerson", "(I)V"⟩
abbrev cc_P_kindOf : ByteArray := prog_4_method_7_code
def y_P_kindOf : MethodName := ⟨"PanelOffice$Pool", "kindOf", "(I)I"⟩
abbrev cc_T_aheadWithOneOf : ByteArray := prog_8_method_17_code
def y_T_aheadWithOneOf : MethodName := ⟨"PanelOffice$Tally", "aheadWithOneOf", "(II)J"⟩
abbrev cc_A_fill0 : ByteArray := prog_19_method_101_code
def y_A_fill0 : MethodName := ⟨"java/util/Arrays", "fill", "([JJ)V"⟩
abbrev cc_T_passOn : ByteArray := prog_8_method_19_code
def y_T_passOn : MethodName := ⟨"PanelOffice$Tally", "passOn", "(II)V"⟩
abbrev cc_T_countBehind : ByteArray := prog_8_method_18_code
def y_T_countBehind : MethodName := ⟨"PanelOffice$Tally", "countBehind", "()V"⟩
abbrev cc_T_panelsWithOneOf : ByteArray := prog_8_method_7_code
def y_T_panelsWithOneOf : MethodName := ⟨"PanelOffice$Tally", "panelsWithOneOf", "(I)J"⟩
abbrev cc_O_chance : ByteArray := prog_1_method_8_code
def y_O_chance : MethodName := ⟨"PanelOffice", "chance", "(I)J"⟩
abbrev cc_O_kind : ByteArray := prog_1_method_9_code
def y_O_kind : MethodName := ⟨"PanelOffice", "kind", "(I)I"⟩
abbrev cc_O_requireIndex : ByteArray := prog_1_method_33_code
def y_O_requireIndex : MethodName := ⟨"PanelOffice", "requireIndex", "(I)V"⟩
abbrev cc_C_isRefused : ByteArray := prog_2_method_2_code
def y_C_isRefused : MethodName := ⟨"PanelOffice$Clash", "isRefused", "()Z"⟩
abbrev cc_C_nameOf : ByteArray := prog_2_method_3_code
def y_C_nameOf : MethodName := ⟨"PanelOffice$Clash", "nameOf", "(I)I"⟩
abbrev cc_Q_copyOneFrom : ByteArray := prog_5_method_6_code
def y_Q_copyOneFrom : MethodName := ⟨"PanelOffice$Quotas", "copyOneFrom", "(LPanelOffice$Quotas;I)V"⟩
abbrev cc_Q_isLeftOut : ByteArray := prog_5_method_5_code
def y_Q_isLeftOut : MethodName := ⟨"PanelOffice$Quotas", "isLeftOut", "(I)Z"⟩
abbrev cc_Q_leaveOut : ByteArray := prog_5_method_4_code
def y_Q_leaveOut : MethodName := ⟨"PanelOffice$Quotas", "leaveOut", "(I)V"⟩
abbrev cc_C_tryWithout : ByteArray := prog_2_method_5_code
def y_C_tryWithout : MethodName := ⟨"PanelOffice$Clash", "tryWithout", "(IILPanelOffice$Quotas;I)V"⟩
abbrev cc_C_find : ByteArray := prog_2_method_4_code
def y_C_find : MethodName := ⟨"PanelOffice$Clash", "find", "(LPanelOffice$Quotas;I)V"⟩
abbrev cc_O_blocked : ByteArray := prog_1_method_10_code
def y_O_blocked : MethodName := ⟨"PanelOffice", "blocked", "(I)I"⟩
abbrev cc_O_requirePlace : ByteArray := prog_1_method_32_code
def y_O_requirePlace : MethodName := ⟨"PanelOffice", "requirePlace", "(I)V"⟩
abbrev cc_R_tellKind : ByteArray := prog_6_method_3_code
def y_R_tellKind : MethodName := ⟨"PanelOffice$Ranking", "tellKind", "(IIJ[II)V"⟩
abbrev cc_R_tell : ByteArray := prog_6_method_2_code
def y_R_tell : MethodName := ⟨"PanelOffice$Ranking", "tell", "(J[I)V"⟩
abbrev cc_O_panel : ByteArray := prog_1_method_11_code
def y_O_panel : MethodName := ⟨"PanelOffice", "panel", "(JI)I"⟩
abbrev cc_O_isIn : ByteArray := prog_1_method_35_code
def y_O_isIn : MethodName := ⟨"PanelOffice", "isIn", "(JI)Z"⟩
abbrev cc_O_mark : ByteArray := prog_1_method_12_code
def y_O_mark : MethodName := ⟨"PanelOffice", "mark", "(I)Z"⟩
abbrev cc_R_membersOf : ByteArray := prog_6_method_5_code
def y_R_membersOf : MethodName := ⟨"PanelOffice$Ranking", "membersOf", "(IJ)I"⟩
abbrev cc_R_indexIn : ByteArray := prog_6_method_6_code
def y_R_indexIn : MethodName := ⟨"PanelOffice$Ranking", "indexIn", "(IIJ)J"⟩
abbrev cc_R_rankOf : ByteArray := prog_6_method_4_code
def y_R_rankOf : MethodName := ⟨"PanelOffice$Ranking", "rankOf", "(J)J"⟩
abbrev cc_O_rank : ByteArray := prog_1_method_13_code
def y_O_rank : MethodName := ⟨"PanelOffice", "rank", "()J"⟩
abbrev cc_S_hasEmptyPlace : ByteArray := prog_7_method_5_code
def y_S_hasEmptyPlace : MethodName := ⟨"PanelOffice$Seats", "hasEmptyPlace", "()Z"⟩
abbrev cc_S_addValuesOf : ByteArray := prog_7_method_13_code
def y_S_addValuesOf : MethodName := ⟨"PanelOffice$Seats", "addValuesOf", "(I)V"⟩
abbrev cc_Q_breachBy : ByteArray := prog_5_method_7_code
def y_Q_breachBy : MethodName := ⟨"PanelOffice$Quotas", "breachBy", "(II)I"⟩
abbrev cc_S_breachWith : ByteArray := prog_7_method_12_code
def y_S_breachWith : MethodName := ⟨"PanelOffice$Seats", "breachWith", "(I)I"⟩
abbrev cc_S_listCandidates : ByteArray := prog_7_method_11_code
def y_S_listCandidates : MethodName := ⟨"PanelOffice$Seats", "listCandidates", "()I"⟩
abbrev cc_O_goalNow : ByteArray := prog_1_method_26_code
def y_O_goalNow : MethodName := ⟨"PanelOffice", "goalNow", "()J"⟩
abbrev cc_D_begin : ByteArray := prog_3_method_2_code
def y_D_begin : MethodName := ⟨"PanelOffice$Dice", "begin", "(IJ)I"⟩
abbrev cc_O_dice : ByteArray := prog_1_method_14_code
def y_O_dice : MethodName := ⟨"PanelOffice", "dice", "(I)I"⟩
abbrev cc_D_awaitThrow : ByteArray := prog_3_method_4_code
def y_D_awaitThrow : MethodName := ⟨"PanelOffice$Dice", "awaitThrow", "()Z"⟩
abbrev cc_D_haveSide : ByteArray := prog_3_method_5_code
def y_D_haveSide : MethodName := ⟨"PanelOffice$Dice", "haveSide", "(I)Z"⟩
abbrev cc_D_take : ByteArray := prog_3_method_8_code
def y_D_take : MethodName := ⟨"PanelOffice$Dice", "take", "(I)I"⟩
abbrev cc_O_roll : ByteArray := prog_1_method_15_code
def y_O_roll : MethodName := ⟨"PanelOffice", "roll", "(I)I"⟩
abbrev cc_D_haveNumber : ByteArray := prog_3_method_6_code
def y_D_haveNumber : MethodName := ⟨"PanelOffice$Dice", "haveNumber", "()Z"⟩
abbrev cc_D_made : ByteArray := prog_3_method_7_code
def y_D_made : MethodName := ⟨"PanelOffice$Dice", "made", "()J"⟩
abbrev cc_O_number : ByteArray := prog_1_method_16_code
def y_O_number : MethodName := ⟨"PanelOffice", "number", "()J"⟩
abbrev cc_O_requireNumber : ByteArray := prog_1_method_29_code
def y_O_requireNumber : MethodName := ⟨"PanelOffice", "requireNumber", "()V"⟩
abbrev cc_S_fill : ByteArray := prog_7_method_3_code
def y_S_fill : MethodName := ⟨"PanelOffice$Seats", "fill", "([II)V"⟩
abbrev cc_O_draw : ByteArray := prog_1_method_17_code
def y_O_draw : MethodName := ⟨"PanelOffice", "draw", "()V"⟩
abbrev cc_O_requireDrawn : ByteArray := prog_1_method_28_code
def y_O_requireDrawn : MethodName := ⟨"PanelOffice", "requireDrawn", "()V"⟩
abbrev cc_S_at : ByteArray := prog_7_method_6_code
def y_S_at : MethodName := ⟨"PanelOffice$Seats", "at", "(I)I"⟩
abbrev cc_O_member : ByteArray := prog_1_method_18_code
def y_O_member : MethodName := ⟨"PanelOffice", "member", "(I)I"⟩
abbrev cc_S_isMember : ByteArray := prog_7_method_7_code
def y_S_isMember : MethodName := ⟨"PanelOffice$Seats", "isMember", "(I)Z"⟩
abbrev cc_S_vacate : ByteArray := prog_7_method_8_code
def y_S_vacate : MethodName := ⟨"PanelOffice$Seats", "vacate", "(I)V"⟩
abbrev cc_O_dropOut : ByteArray := prog_1_method_19_code
def y_O_dropOut : MethodName := ⟨"PanelOffice", "dropOut", "(I)V"⟩
abbrev cc_S_candidateAt : ByteArray := prog_7_method_10_code
def y_S_candidateAt : MethodName := ⟨"PanelOffice$Seats", "candidateAt", "(I)I"⟩
abbrev cc_O_candidate : ByteArray := prog_1_method_20_code
def y_O_candidate : MethodName := ⟨"PanelOffice", "candidate", "(I)I"⟩
abbrev cc_S_admitCandidate : ByteArray := prog_7_method_9_code
def y_S_admitCandidate : MethodName := ⟨"PanelOffice$Seats", "admitCandidate", "(J)I"⟩
abbrev cc_O_replace : ByteArray := prog_1_method_21_code
def y_O_replace : MethodName := ⟨"PanelOffice", "replace", "()I"⟩
abbrev cc_O_breach : ByteArray := prog_1_method_22_code
def y_O_breach : MethodName := ⟨"PanelOffice", "breach", "()I"⟩
abbrev cc_P_clear : ByteArray := prog_4_method_4_code
def y_P_clear : MethodName := ⟨"PanelOffice$Pool", "clear", "()V"⟩
abbrev cc_Q_clear : ByteArray := prog_5_method_2_code
def y_Q_clear : MethodName := ⟨"PanelOffice$Quotas", "clear", "()V"⟩
abbrev cc_S_clear : ByteArray := prog_7_method_2_code
def y_S_clear : MethodName := ⟨"PanelOffice$Seats", "clear", "()V"⟩
abbrev cc_O_reset : ByteArray := prog_1_method_23_code
def y_O_reset : MethodName := ⟨"PanelOffice", "reset", "()V"⟩
abbrev cc_M_thrown : ByteArray := prog_10_method_2_code
def y_M_thrown : MethodName := ⟨"PanelOfficeModel", "thrown", "()I"⟩
abbrev cc_M_isTrait : ByteArray := prog_10_method_6_code
def y_M_isTrait : MethodName := ⟨"PanelOfficeModel", "isTrait", "(I)Z"⟩
abbrev cc_M_is : ByteArray := prog_10_method_3_code
def y_M_is : MethodName := ⟨"PanelOfficeModel", "is", "(I)I"⟩
abbrev cc_M_gather : ByteArray := prog_10_method_4_code
def y_M_gather : MethodName := ⟨"PanelOfficeModel", "gather", "()V"⟩
abbrev cc_M_changed : ByteArray := prog_10_method_5_code
def y_M_changed : MethodName := ⟨"PanelOfficeModel", "changed", "()V"⟩
abbrev cc_M_trait : ByteArray := prog_10_method_7_code
def y_M_trait : MethodName := ⟨"PanelOfficeModel", "trait", "(II)V"⟩
abbrev cc_M_person : ByteArray := prog_10_method_8_code
def y_M_person : MethodName := ⟨"PanelOfficeModel", "person", "(III)I"⟩
abbrev cc_M_quota : ByteArray := prog_10_method_9_code
def y_M_quota : MethodName := ⟨"PanelOfficeModel", "quota", "(IIII)V"⟩
abbrev cc_M_size : ByteArray := prog_10_method_10_code
def y_M_size : MethodName := ⟨"PanelOfficeModel", "size", "(I)V"⟩
abbrev cc_M_adds : ByteArray := prog_10_method_14_code
def y_M_adds : MethodName := ⟨"PanelOfficeModel", "adds", "(I)J"⟩
abbrev cc_M_had : ByteArray := prog_10_method_13_code
def y_M_had : MethodName := ⟨"PanelOfficeModel", "had", "(JII)I"⟩
abbrev cc_M_all : ByteArray := prog_10_method_15_code
def y_M_all : MethodName := ⟨"PanelOfficeModel", "all", "(J)I"⟩
abbrev cc_M_isAllowed : ByteArray := prog_10_method_16_code
def y_M_isAllowed : MethodName := ⟨"PanelOfficeModel", "isAllowed", "(J)Z"⟩
abbrev cc_M_place : ByteArray := prog_10_method_11_code
def y_M_place : MethodName := ⟨"PanelOfficeModel", "place", "(J)I"⟩
abbrev cc_M_find : ByteArray := prog_10_method_12_code
def y_M_find : MethodName := ⟨"PanelOfficeModel", "find", "(IJ)I"⟩
abbrev cc_M_spread : ByteArray := prog_10_method_19_code
def y_M_spread : MethodName := ⟨"PanelOfficeModel", "spread", "(II)V"⟩
abbrev cc_M_list : ByteArray := prog_10_method_18_code
def y_M_list : MethodName := ⟨"PanelOfficeModel", "list", "()V"⟩
abbrev cc_M_choose : ByteArray := prog_10_method_20_code
def y_M_choose : MethodName := ⟨"PanelOfficeModel", "choose", "(II)J"⟩
abbrev cc_M_isPanel : ByteArray := prog_10_method_17_code
def y_M_isPanel : MethodName := ⟨"PanelOfficeModel", "isPanel", "(J)Z"⟩
abbrev cc_M_work : ByteArray := prog_10_method_21_code
def y_M_work : MethodName := ⟨"PanelOfficeModel", "work", "(I)V"⟩
abbrev cc_M_counts : ByteArray := prog_10_method_22_code
def y_M_counts : MethodName := ⟨"PanelOfficeModel", "counts", "()Z"⟩
abbrev cc_M_count : ByteArray := prog_10_method_23_code
def y_M_count : MethodName := ⟨"PanelOfficeModel", "count", "()J"⟩
abbrev cc_M_states : ByteArray := prog_10_method_24_code
def y_M_states : MethodName := ⟨"PanelOfficeModel", "states", "()I"⟩
abbrev cc_M_isPerson : ByteArray := prog_10_method_26_code
def y_M_isPerson : MethodName := ⟨"PanelOfficeModel", "isPerson", "(I)Z"⟩
abbrev cc_M_kindOf : ByteArray := prog_10_method_25_code
def y_M_kindOf : MethodName := ⟨"PanelOfficeModel", "kindOf", "(I)I"⟩
abbrev cc_M_chance : ByteArray := prog_10_method_27_code
def y_M_chance : MethodName := ⟨"PanelOfficeModel", "chance", "(I)J"⟩
abbrev cc_M_kind : ByteArray := prog_10_method_28_code
def y_M_kind : MethodName := ⟨"PanelOfficeModel", "kind", "(I)I"⟩
abbrev cc_M_left : ByteArray := prog_10_method_29_code
def y_M_left : MethodName := ⟨"PanelOfficeModel", "left", "(I)I"⟩
abbrev cc_M_blocked : ByteArray := prog_10_method_30_code
def y_M_blocked : MethodName := ⟨"PanelOfficeModel", "blocked", "(I)I"⟩
abbrev cc_M_personOf : ByteArray := prog_10_method_31_code
def y_M_personOf : MethodName := ⟨"PanelOfficeModel", "personOf", "(II)I"⟩
abbrev cc_M_rows : ByteArray := prog_10_method_33_code
def y_M_rows : MethodName := ⟨"PanelOfficeModel", "rows", "(IIJ)V"⟩
abbrev cc_M_take : ByteArray := prog_10_method_32_code
def y_M_take : MethodName := ⟨"PanelOfficeModel", "take", "(J)V"⟩
abbrev cc_M_panel : ByteArray := prog_10_method_34_code
def y_M_panel : MethodName := ⟨"PanelOfficeModel", "panel", "(JI)I"⟩
abbrev cc_M_mark : ByteArray := prog_10_method_35_code
def y_M_mark : MethodName := ⟨"PanelOfficeModel", "mark", "(I)Z"⟩
abbrev cc_M_index : ByteArray := prog_10_method_37_code
def y_M_index : MethodName := ⟨"PanelOfficeModel", "index", "(II)J"⟩
abbrev cc_M_rank : ByteArray := prog_10_method_36_code
def y_M_rank : MethodName := ⟨"PanelOfficeModel", "rank", "()J"⟩
abbrev cc_M_placeOf : ByteArray := prog_10_method_45_code
def y_M_placeOf : MethodName := ⟨"PanelOfficeModel", "placeOf", "(I)I"⟩
abbrev cc_M_breachWith : ByteArray := prog_10_method_47_code
def y_M_breachWith : MethodName := ⟨"PanelOfficeModel", "breachWith", "(I)I"⟩
abbrev cc_M_leastBreach : ByteArray := prog_10_method_48_code
def y_M_leastBreach : MethodName := ⟨"PanelOfficeModel", "leastBreach", "()I"⟩
abbrev cc_M_isCandidate : ByteArray := prog_10_method_49_code
def y_M_isCandidate : MethodName := ⟨"PanelOfficeModel", "isCandidate", "(II)Z"⟩
abbrev cc_M_candidates : ByteArray := prog_10_method_50_code
def y_M_candidates : MethodName := ⟨"PanelOfficeModel", "candidates", "()I"⟩
abbrev cc_M_goalNow : ByteArray := prog_10_method_38_code
def y_M_goalNow : MethodName := ⟨"PanelOfficeModel", "goalNow", "()J"⟩
abbrev cc_M_dice : ByteArray := prog_10_method_39_code
def y_M_dice : MethodName := ⟨"PanelOfficeModel", "dice", "(I)I"⟩
abbrev cc_M_roll : ByteArray := prog_10_method_40_code
def y_M_roll : MethodName := ⟨"PanelOfficeModel", "roll", "(I)I"⟩
abbrev cc_M_number : ByteArray := prog_10_method_41_code
def y_M_number : MethodName := ⟨"PanelOfficeModel", "number", "()J"⟩
abbrev cc_M_used : ByteArray := prog_10_method_42_code
def y_M_used : MethodName := ⟨"PanelOfficeModel", "used", "()V"⟩
abbrev cc_M_draw : ByteArray := prog_10_method_43_code
def y_M_draw : MethodName := ⟨"PanelOfficeModel", "draw", "()V"⟩
abbrev cc_M_member : ByteArray := prog_10_method_44_code
def y_M_member : MethodName := ⟨"PanelOfficeModel", "member", "(I)I"⟩
abbrev cc_M_dropOut : ByteArray := prog_10_method_46_code
def y_M_dropOut : MethodName := ⟨"PanelOfficeModel", "dropOut", "(I)V"⟩
abbrev cc_M_candidateAt : ByteArray := prog_10_method_51_code
def y_M_candidateAt : MethodName := ⟨"PanelOfficeModel", "candidateAt", "(J)I"⟩
abbrev cc_M_candidate : ByteArray := prog_10_method_52_code
def y_M_candidate : MethodName := ⟨"PanelOfficeModel", "candidate", "(I)I"⟩
abbrev cc_M_replace : ByteArray := prog_10_method_53_code
def y_M_replace : MethodName := ⟨"PanelOfficeModel", "replace", "()I"⟩
abbrev cc_M_breach : ByteArray := prog_10_method_54_code
def y_M_breach : MethodName := ⟨"PanelOfficeModel", "breach", "()I"⟩
abbrev cc_M_reset : ByteArray := prog_10_method_55_code
def y_M_reset : MethodName := ⟨"PanelOfficeModel", "reset", "()V"⟩
abbrev cc_L_trait : ByteArray := method_3_code
def y_L_trait : MethodName := ⟨"PanelOfficeLaw", "trait", "(LPanelOffice;II)I"⟩
abbrev cc_L_person : ByteArray := method_4_code
def y_L_person : MethodName := ⟨"PanelOfficeLaw", "person", "(LPanelOffice;III[J)I"⟩
abbrev cc_L_quota : ByteArray := method_5_code
def y_L_quota : MethodName := ⟨"PanelOfficeLaw", "quota", "(LPanelOffice;IIII)I"⟩
abbrev cc_L_size : ByteArray := method_6_code
def y_L_size : MethodName := ⟨"PanelOfficeLaw", "size", "(LPanelOffice;I)I"⟩
abbrev cc_L_count : ByteArray := method_7_code
def y_L_count : MethodName := ⟨"PanelOfficeLaw", "count", "(LPanelOffice;[J)I"⟩
abbrev cc_L_chance : ByteArray := method_8_code
def y_L_chance : MethodName := ⟨"PanelOfficeLaw", "chance", "(LPanelOffice;I[J)I"⟩
abbrev cc_L_kind : ByteArray := method_9_code
def y_L_kind : MethodName := ⟨"PanelOfficeLaw", "kind", "(LPanelOffice;I[J)I"⟩
abbrev cc_L_blocked : ByteArray := method_10_code
def y_L_blocked : MethodName := ⟨"PanelOfficeLaw", "blocked", "(LPanelOffice;I[J)I"⟩
abbrev cc_L_panel : ByteArray := method_11_code
def y_L_panel : MethodName := ⟨"PanelOfficeLaw", "panel", "(LPanelOffice;JI[J)I"⟩
abbrev cc_L_mark : ByteArray := method_12_code
def y_L_mark : MethodName := ⟨"PanelOfficeLaw", "mark", "(LPanelOffice;I[J)I"⟩
abbrev cc_L_rank : ByteArray := method_13_code
def y_L_rank : MethodName := ⟨"PanelOfficeLaw", "rank", "(LPanelOffice;[J)I"⟩
abbrev cc_L_dice : ByteArray := method_14_code
def y_L_dice : MethodName := ⟨"PanelOfficeLaw", "dice", "(LPanelOffice;I[J)I"⟩
abbrev cc_L_roll : ByteArray := method_15_code
def y_L_roll : MethodName := ⟨"PanelOfficeLaw", "roll", "(LPanelOffice;I[J)I"⟩
abbrev cc_L_number : ByteArray := method_16_code
def y_L_number : MethodName := ⟨"PanelOfficeLaw", "number", "(LPanelOffice;[J)I"⟩
abbrev cc_L_draw : ByteArray := method_17_code
def y_L_draw : MethodName := ⟨"PanelOfficeLaw", "draw", "(LPanelOffice;)I"⟩
abbrev cc_L_member : ByteArray := method_18_code
def y_L_member : MethodName := ⟨"PanelOfficeLaw", "member", "(LPanelOffice;I[J)I"⟩
abbrev cc_L_dropOut : ByteArray := method_19_code
def y_L_dropOut : MethodName := ⟨"PanelOfficeLaw", "dropOut", "(LPanelOffice;I)I"⟩
abbrev cc_L_candidate : ByteArray := method_20_code
def y_L_candidate : MethodName := ⟨"PanelOfficeLaw", "candidate", "(LPanelOffice;I[J)I"⟩
abbrev cc_L_replace : ByteArray := method_21_code
def y_L_replace : MethodName := ⟨"PanelOfficeLaw", "replace", "(LPanelOffice;[J)I"⟩
abbrev cc_L_breach : ByteArray := method_22_code
def y_L_breach : MethodName := ⟨"PanelOfficeLaw", "breach", "(LPanelOffice;[J)I"⟩
abbrev vcl : List vw_C := [(R_O, F_O, 12), (R_P, F_P, 6), (R_Q, F_Q, 2), (R_T, F_T, 13), (R_R, F_R, 2), (R_C, F_C, 6), (R_D, F_D, 8), (R_S, F_S, 9), (R_M, F_M, 35)]
abbrev rm_P_valueIn : Room := { frames := 0, cells := 0, slots := 0, locals := 0 }
abbrev rm_P_highestValue : Room := { frames := 1, cells := 0, slots := 0, locals := 23 }
abbrev rm_S_areDrawn : Room := { frames := 0, cells := 0, slots := 0, locals := 0 }
abbrev rm_O_requireOpen : Room := { frames := 6, cells := 1, slots := 6, locals := 82 }
abbrev rm_D_end : Room := { frames := 0, cells := 0, slots := 0, locals := 0 }
abbrev rm_O_changed : Room := { frames := 1, cells := 0, slots := 0, locals := 20 }
abbrev rm_O_trait : Room := { frames := 7, cells := 1, slots := 6, locals := 102 }
abbrev rm_P_hasValue : Room := { frames := 0, cells := 0, slots := 0, locals := 0 }
abbrev rm_P_codeOf : Room := { frames := 0, cells := 0, slots := 0, locals := 0 }
abbrev rm_P_kindsBelow : Room := { frames := 0, cells := 0, slots := 0, locals := 0 }
abbrev rm_P_isKind : Room := { frames := 1, cells := 0, slots := 0, locals := 22 }
abbrev rm_P_hasRoomFor : Room := { frames := 2, cells := 0, slots := 0, locals := 44 }
abbrev rm_P_insertKind : Room := { frames := 0, cells := 0, slots := 0, locals := 0 }
abbrev rm_P_add : Room := { frames := 2, cells := 0, slots := 0, locals := 44 }
abbrev rm_O_person : Room := { frames := 7, cells := 1, slots := 6, locals := 102 }
abbrev rm_O_quotaOf : Room := { frames := 0, cells := 0, slots := 0, locals := 0 }
abbrev rm_Q_set : Room := { frames := 0, cells := 0, slots := 0, locals := 0 }
abbrev rm_O_quota : Room := { frames := 7, cells := 1, slots := 6, locals := 102 }
abbrev rm_O_size : Room := { frames := 7, cells := 1, slots := 6, locals := 102 }
abbrev rm_A_fill : Room := { frames := 0, cells := 0, slots := 0, locals := 0 }
abbrev rm_T_enter : Room := { frames := 0, cells := 0, slots := 0, locals := 0 }
abbrev rm_T_stateOf : Room := { frames := 1, cells := 0, slots := 0, locals := 23 }
abbrev rm_T_oneMoreOf : Room := { frames := 1, cells := 0, slots := 0, locals := 21 }
abbrev rm_T_field : Room := { frames := 0, cells := 0, slots := 0, locals := 0 }
abbrev rm_T_takesFrom : Room := { frames := 1, cells := 0, slots := 0, locals := 23 }
abbrev rm_T_addLayer : Room := { frames := 2, cells := 0, slots := 0, locals := 51 }
abbrev rm_T_isPanel : Room := { frames := 1, cells := 0, slots := 0, locals := 22 }
abbrev rm_T_choose : Room := { frames := 0, cells := 0, slots := 0, locals := 0 }
abbrev rm_T_aheadWithAny : Room := { frames := 1, cells := 0, slots := 0, locals := 22 }
abbrev rm_T_countAhead : Room := { frames := 2, cells := 0, slots := 0, locals := 50 }
abbrev rm_T_build : Room := { frames := 3, cells := 0, slots := 0, locals := 80 }
abbrev rm_O_refreshTally : Room := { frames := 4, cells := 0, slots := 0, locals := 103 }
abbrev rm_T_isRefused : Room := { frames := 0, cells := 0, slots := 0, locals := 0 }
abbrev rm_O_requireCountable : Room := { frames := 6, cells := 1, slots := 6, locals := 123 }
abbrev rm_T_panels : Room := { frames := 0, cells := 0, slots := 0, locals := 0 }
abbrev rm_O_count : Room := { frames := 7, cells := 1, slots := 6, locals := 143 }
abbrev rm_T_statesFound : Room := { frames := 0, cells := 0, slots := 0, locals := 0 }
abbrev rm_O_states : Room := { frames := 5, cells := 0, slots := 0, locals := 123 }
abbrev rm_O_requirePerson : Room := { frames := 6, cells := 1, slots := 6, locals := 82 }
abbrev rm_P_kindOf : Room := { frames := 1, cells := 0, slots := 0, locals := 22 }
abbrev rm_T_aheadWithOneOf : Room := { frames := 1, cells := 0, slots := 0, locals := 22 }
abbrev rm_A_fill2 : Room := { frames := 0, cells := 0, slots := 0, locals := 0 }
abbrev rm_T_passOn : Room := { frames := 1, cells := 0, slots := 0, locals := 22 }
abbrev rm_T_countBehind : Room := { frames := 2, cells := 0, slots := 0, locals := 46 }
abbrev rm_T_panelsWithOneOf : Room := { frames := 3, cells := 0, slots := 0, locals := 68 }
abbrev rm_O_chance : Room := { frames := 7, cells := 1, slots := 6, locals := 143 }
abbrev rm_O_kind : Room := { frames := 7, cells := 1, slots := 6, locals := 103 }
abbrev rm_O_requireIndex : Room := { frames := 6, cells := 1, slots := 6, locals := 82 }
abbrev rm_C_isRefused : Room := { frames := 0, cells := 0, slots := 0, locals := 0 }
abbrev rm_C_nameOf : Room := { frames := 0, cells := 0, slots := 0, locals := 0 }
abbrev rm_Q_set2 : Room := { frames := 0, cells := 0, slots := 0, locals := 0 }
abbrev rm_Q_copyOneFrom : Room := { frames := 1, cells := 0, slots := 0, locals := 23 }
abbrev rm_Q_isLeftOut : Room := { frames := 0, cells := 0, slots := 0, locals := 0 }
abbrev rm_Q_leaveOut : Room := { frames := 1, cells := 0, slots := 0, locals := 23 }
abbrev rm_T_takesFrom2 : Room := { frames := 1, cells := 0, slots := 0, locals := 23 }
abbrev rm_T_addLayer2 : Room := { frames := 2, cells := 0, slots := 0, locals := 51 }
abbrev rm_T_isPanel2 : Room := { frames := 1, cells := 0, slots := 0, locals := 22 }
abbrev rm_T_countAhead2 : Room := { frames := 2, cells := 0, slots := 0, locals := 50 }
abbrev rm_T_build2 : Room := { frames := 3, cells := 0, slots := 0, locals := 80 }
abbrev rm_C_tryWithout : Room := { frames := 4, cells := 0, slots := 0, locals := 103 }
abbrev rm_C_find : Room := { frames := 5, cells := 0, slots := 0, locals := 128 }
abbrev rm_O_blocked : Room := { frames := 7, cells := 1, slots := 6, locals := 152 }
abbrev rm_O_requirePlace : Room := { frames := 6, cells := 1, slots := 6, locals := 82 }
abbrev rm_R_tellKind : Room := { frames := 1, cells := 0, slots := 0, locals := 22 }
abbrev rm_R_tell : Room := { frames := 2, cells := 0, slots := 0, locals := 55 }
abbrev rm_O_panel : Room := { frames := 7, cells := 1, slots := 6, locals := 143 }
abbrev rm_O_isIn : Room := { frames := 0, cells := 0, slots := 0, locals := 0 }
abbrev rm_O_mark : Room := { frames := 7, cells := 1, slots := 6, locals := 103 }
abbrev rm_R_membersOf : Room := { frames := 1, cells := 0, slots := 0, locals := 22 }
abbrev rm_R_indexIn : Room := { frames := 1, cells := 0, slots := 0, locals := 22 }
abbrev rm_R_rankOf : Room := { frames := 2, cells := 0, slots := 0, locals := 51 }
abbrev rm_O_rank : Room := { frames := 7, cells := 1, slots := 6, locals := 143 }
abbrev rm_S_hasEmptyPlace : Room := { frames := 0, cells := 0, slots := 0, locals := 0 }
abbrev rm_A_fill3 : Room := { frames := 0, cells := 0, slots := 0, locals := 0 }
abbrev rm_S_addValuesOf : Room := { frames := 1, cells := 0, slots := 0, locals := 21 }
abbrev rm_Q_breachBy : Room := { frames := 1, cells := 0, slots := 0, locals := 23 }
abbrev rm_S_breachWith : Room := { frames := 2, cells := 0, slots := 0, locals := 45 }
abbrev rm_S_listCandidates : Room := { frames := 3, cells := 0, slots := 0, locals := 70 }
abbrev rm_O_goalNow : Room := { frames := 4, cells := 0, slots := 0, locals := 94 }
abbrev rm_D_begin : Room := { frames := 1, cells := 0, slots := 0, locals := 23 }
abbrev rm_O_dice : Room := { frames := 7, cells := 1, slots := 6, locals := 143 }
abbrev rm_D_awaitThrow : Room := { frames := 0, cells := 0, slots := 0, locals := 0 }
abbrev rm_D_haveSide : Room := { frames := 0, cells := 0, slots := 0, locals := 0 }
abbrev rm_D_take : Room := { frames := 0, cells := 0, slots := 0, locals := 0 }
abbrev rm_O_roll : Room := { frames := 6, cells := 1, slots := 6, locals := 82 }
abbrev rm_D_haveNumber : Room := { frames := 0, cells := 0, slots := 0, locals := 0 }
abbrev rm_D_made : Room := { frames := 0, cells := 0, slots := 0, locals := 0 }
abbrev rm_O_number : Room := { frames := 6, cells := 1, slots := 6, locals := 82 }
abbrev rm_O_requireNumber : Room := { frames := 6, cells := 1, slots := 6, locals := 82 }
abbrev rm_S_fill : Room := { frames := 1, cells := 0, slots := 0, locals := 23 }
abbrev rm_O_draw : Room := { frames := 7, cells := 1, slots := 6, locals := 102 }
abbrev rm_O_requireDrawn : Room := { frames := 6, cells := 1, slots := 6, locals := 82 }
abbrev rm_S_at : Room := { frames := 0, cells := 0, slots := 0, locals := 0 }
abbrev rm_O_member : Room := { frames := 7, cells := 1, slots := 6, locals := 103 }
abbrev rm_S_isMember : Room := { frames := 1, cells := 0, slots := 0, locals := 22 }
abbrev rm_S_vacate : Room := { frames := 0, cells := 0, slots := 0, locals := 0 }
abbrev rm_O_dropOut : Room := { frames := 7, cells := 1, slots := 6, locals := 102 }
abbrev rm_S_candidateAt : Room := { frames := 0, cells := 0, slots := 0, locals := 0 }
abbrev rm_O_candidate : Room := { frames := 7, cells := 1, slots := 6, locals := 102 }
abbrev rm_S_admitCandidate : Room := { frames := 4, cells := 0, slots := 0, locals := 94 }
abbrev rm_O_replace : Room := { frames := 7, cells := 1, slots := 6, locals := 119 }
abbrev rm_O_breach : Room := { frames := 7, cells := 1, slots := 6, locals := 102 }
abbrev rm_A_fill4 : Room := { frames := 0, cells := 0, slots := 0, locals := 0 }
abbrev rm_P_clear : Room := { frames := 1, cells := 0, slots := 0, locals := 23 }
abbrev rm_A_fill5 : Room := { frames := 0, cells := 0, slots := 0, locals := 0 }
abbrev rm_A_fill6 : Room := { frames := 0, cells := 0, slots := 0, locals := 0 }
abbrev rm_Q_clear : Room := { frames := 1, cells := 0, slots := 0, locals := 23 }
abbrev rm_S_clear : Room := { frames := 0, cells := 0, slots := 0, locals := 0 }
abbrev rm_O_reset : Room := { frames := 2, cells := 0, slots := 0, locals := 43 }
abbrev rm_M_thrown : Room := { frames := 0, cells := 0, slots := 0, locals := 0 }
abbrev rm_M_isTrait : Room := { frames := 0, cells := 0, slots := 0, locals := 0 }
abbrev rm_M_is : Room := { frames := 0, cells := 0, slots := 0, locals := 0 }
abbrev rm_M_gather : Room := { frames := 1, cells := 0, slots := 0, locals := 21 }
abbrev rm_M_changed : Room := { frames := 2, cells := 0, slots := 0, locals := 44 }
abbrev rm_M_trait : Room := { frames := 3, cells := 0, slots := 0, locals := 64 }
abbrev rm_M_person : Room := { frames := 3, cells := 0, slots := 0, locals := 64 }
abbrev rm_M_quota : Room := { frames := 3, cells := 0, slots := 0, locals := 64 }
abbrev rm_M_size : Room := { frames := 3, cells := 0, slots := 0, locals := 64 }
abbrev rm_M_adds : Room := { frames := 0, cells := 0, slots := 0, locals := 0 }
abbrev rm_M_had : Room := { frames := 0, cells := 0, slots := 0, locals := 0 }
abbrev rm_M_all : Room := { frames := 1, cells := 0, slots := 0, locals := 23 }
abbrev rm_M_isAllowed : Room := { frames := 2, cells := 0, slots := 0, locals := 44 }
abbrev rm_M_place : Room := { frames := 0, cells := 0, slots := 0, locals := 0 }
abbrev rm_M_find : Room := { frames := 1, cells := 0, slots := 0, locals := 21 }
abbrev rm_M_spread : Room := { frames := 3, cells := 0, slots := 0, locals := 69 }
abbrev rm_M_list : Room := { frames := 4, cells := 0, slots := 0, locals := 97 }
abbrev rm_M_choose : Room := { frames := 0, cells := 0, slots := 0, locals := 0 }
abbrev rm_M_isPanel : Room := { frames := 3, cells := 0, slots := 0, locals := 69 }
abbrev rm_M_work : Room := { frames := 5, cells := 0, slots := 0, locals := 119 }
abbrev rm_M_counts : Room := { frames := 6, cells := 0, slots := 0, locals := 146 }
abbrev rm_M_count : Room := { frames := 7, cells := 0, slots := 0, locals := 166 }
abbrev rm_M_states : Room := { frames := 7, cells := 0, slots := 0, locals := 166 }
abbrev rm_M_isPerson : Room := { frames := 0, cells := 0, slots := 0, locals := 0 }
abbrev rm_M_kindOf : Room := { frames := 1, cells := 0, slots := 0, locals := 21 }
abbrev rm_M_chance : Room := { frames := 7, cells := 0, slots := 0, locals := 166 }
abbrev rm_M_kind : Room := { frames := 2, cells := 0, slots := 0, locals := 43 }
abbrev rm_M_left : Room := { frames := 6, cells := 0, slots := 0, locals := 146 }
abbrev rm_M_blocked : Room := { frames := 7, cells := 0, slots := 0, locals := 172 }
abbrev rm_M_personOf : Room := { frames := 1, cells := 0, slots := 0, locals := 21 }
abbrev rm_M_rows : Room := { frames := 2, cells := 0, slots := 0, locals := 45 }
abbrev rm_M_take : Room := { frames := 3, cells := 0, slots := 0, locals := 73 }
abbrev rm_M_panel : Room := { frames := 7, cells := 0, slots := 0, locals := 166 }
abbrev rm_M_mark : Room := { frames := 1, cells := 0, slots := 0, locals := 21 }
abbrev rm_M_index : Room := { frames := 1, cells := 0, slots := 0, locals := 24 }
abbrev rm_M_rank : Room := { frames := 7, cells := 0, slots := 0, locals := 166 }
abbrev rm_M_placeOf : Room := { frames := 0, cells := 0, slots := 0, locals := 0 }
abbrev rm_M_breachWith : Room := { frames := 0, cells := 0, slots := 0, locals := 0 }
abbrev rm_M_leastBreach : Room := { frames := 1, cells := 0, slots := 0, locals := 26 }
abbrev rm_M_isCandidate : Room := { frames := 1, cells := 0, slots := 0, locals := 26 }
abbrev rm_M_candidates : Room := { frames := 2, cells := 0, slots := 0, locals := 49 }
abbrev rm_M_goalNow : Room := { frames := 3, cells := 0, slots := 0, locals := 72 }
abbrev rm_M_dice : Room := { frames := 7, cells := 0, slots := 0, locals := 166 }
abbrev rm_M_roll : Room := { frames := 0, cells := 0, slots := 0, locals := 0 }
abbrev rm_M_number : Room := { frames := 0, cells := 0, slots := 0, locals := 0 }
abbrev rm_M_used : Room := { frames := 0, cells := 0, slots := 0, locals := 0 }
abbrev rm_M_draw : Room := { frames := 7, cells := 0, slots := 0, locals := 166 }
abbrev rm_M_member : Room := { frames := 0, cells := 0, slots := 0, locals := 0 }
abbrev rm_M_dropOut : Room := { frames := 1, cells := 0, slots := 0, locals := 23 }
abbrev rm_M_candidateAt : Room := { frames := 2, cells := 0, slots := 0, locals := 49 }
abbrev rm_M_candidate : Room := { frames := 3, cells := 0, slots := 0, locals := 75 }
abbrev rm_M_replace : Room := { frames := 3, cells := 0, slots := 0, locals := 75 }
abbrev rm_M_breach : Room := { frames := 1, cells := 0, slots := 0, locals := 26 }
abbrev rm_M_reset : Room := { frames := 3, cells := 0, slots := 0, locals := 64 }
abbrev rm_L_trait : Room := { frames := 8, cells := 1, slots := 6, locals := 124 }
abbrev rm_L_person : Room := { frames := 8, cells := 1, slots := 6, locals := 126 }
abbrev rm_L_quota : Room := { frames := 8, cells := 1, slots := 6, locals := 126 }
abbrev rm_L_size : Room := { frames := 8, cells := 1, slots := 6, locals := 123 }
abbrev rm_L_count : Room := { frames := 8, cells := 1, slots := 6, locals := 163 }
abbrev rm_L_chance : Room := { frames := 8, cells := 1, slots := 6, locals := 164 }
abbrev rm_L_kind : Room := { frames := 8, cells := 1, slots := 6, locals := 124 }
abbrev rm_L_blocked : Room := { frames := 8, cells := 1, slots := 6, locals := 173 }
abbrev rm_L_panel : Room := { frames := 8, cells := 1, slots := 6, locals := 166 }
abbrev rm_L_mark : Room := { frames := 8, cells := 1, slots := 6, locals := 124 }
abbrev rm_L_rank : Room := { frames := 8, cells := 1, slots := 6, locals := 165 }
abbrev rm_L_dice : Room := { frames := 8, cells := 1, slots := 6, locals := 166 }
abbrev rm_L_roll : Room := { frames := 7, cells := 1, slots := 6, locals := 103 }
abbrev rm_L_number : Room := { frames := 7, cells := 1, slots := 6, locals := 102 }
abbrev rm_L_draw : Room := { frames := 8, cells := 1, slots := 6, locals := 122 }
abbrev rm_L_member : Room := { frames := 8, cells := 1, slots := 6, locals := 124 }
abbrev rm_L_dropOut : Room := { frames := 8, cells := 1, slots := 6, locals := 123 }
abbrev rm_L_candidate : Room := { frames := 8, cells := 1, slots := 6, locals := 123 }
abbrev rm_L_replace : Room := { frames := 8, cells := 1, slots := 6, locals := 140 }
abbrev rm_L_breach : Room := { frames := 8, cells := 1, slots := 6, locals := 122 }
end
section
/-! The world of the law: the office, the reference and the answer's row, fifty cells at addresses that are variables; what they hold is a pair of functions (cell, place) ↦ number; which cell a field names never changes once the objects are made. -/
abbrev St : Type := (Nat → Nat → Int32) × (Nat → Nat → Int64)
def wI (z : St) (c k : Nat) (v : Int32) : St := (fun a b => if a = c then (if b = k then v else z.1 a b) else z.1 a b, z.2)
def wL (z : St) (c k : Nat) (v : Int64) : St := (z.1, fun a b => if a = c then (if b = k then v else z.2 a b) else z.2 a b)
def zb (x : Int32) : Prop := x = 0 ∨ x = 1
def mmaxI (x y : Int32) : Int32 := if x < y then y else x
def mminI (x y : Int32) : Int32 := if y < x then y else x
def mmaxL (x y : Int64) : Int64 := if y < x then x else y
def mminL (x y : Int64) : Int64 := if y < x then y else x
abbrev GG : Type := va_G × (Nat → ClassId) × (Nat → Nat) × Nat
def ha (G : GG) (c : Nat) : Nat := G.2.2.1 c
def ba (G : GG) : Nat := G.2.2.2
def fr (G : GG) : Nat → Prop := fun q => ba G ≤ q
abbrev vty (G : GG) : List (ClassId × FieldType) := [(G.2.1 0, .int), (G.2.1 1, .long), (G.2.1 2, .boolean)]
def ce (G : GG) (c : Nat) (f : Nat → Int32) (g : Nat → Int64) : va_E := match c with
  | 0 => .inr (0, [.ref (ha G 1), .ref (ha G 6), .ref (ha G 9), .ref (ha G 19), .ref (ha G 20), .ref (ha G 25), .ref (ha G 26), .ref (ha G 30), .int (f 8), .long (g 9), .int (f 10), .int (f 11)])
  | 1 => .inr (1, [.ref (ha G 2), .ref (ha G 3), .ref (ha G 4), .ref (ha G 5), .int (f 4), .int (f 5)])
  | 2 => .inl (G.2.1 0, 3, .inl f)
  | 3 => .inl (G.2.1 0, 40, .inl f)
  | 4 => .inl (G.2.1 0, 16, .inl f)
  | 5 => .inl (G.2.1 0, 16, .inl f)
  | 6 => .inr (2, [.ref (ha G 7), .ref (ha G 8)])
  | 7 => .inl (G.2.1 0, 12, .inl f)
  | 8 => .inl (G.2.1 0, 12, .inl f)
  | 9 => .inr (3, [.ref (ha G 1), .ref (ha G 10), .ref (ha G 11), .ref (ha G 12), .ref (ha G 13), .ref (ha G 14), .ref (ha G 15), .ref (ha G 16), .ref (ha G 17), .ref (ha G 18), .int (f 10), .int (f 11), .int (f 12)])
  | 10 => .inl (G.2.1 1, 1001, .inr (.inl g))
  | 11 => .inl (G.2.1 0, 1001, .inl f)
  | 12 => .inl (G.2.1 0, 1001, .inl f)
  | 13 => .inl (G.2.1 0, 1001, .inl f)
  | 14 => .inl (G.2.1 1, 1001, .inr (.inl g))
  | 15 => .inl (G.2.1 1, 1001, .inr (.inl g))
  | 16 => .inl (G.2.1 0, 2048, .inl f)
  | 17 => .inl (G.2.1 0, 17, .inl f)
  | 18 => .inl (G.2.1 0, 369, .inl f)
  | 19 => .inr (4, [.ref (ha G 1), .ref (ha G 9)])
  | 20 => .inr (5, [.ref (ha G 1), .ref (ha G 9), .ref (ha G 21), .ref (ha G 24), .int (f 4), .int (f 5)])
  | 21 => .inr (2, [.ref (ha G 22), .ref (ha G 23)])
  | 22 => .inl (G.2.1 0, 12, .inl f)
  | 23 => .inl (G.2.1 0, 12, .inl f)
  | 24 => .inl (G.2.1 0, 12, .inl f)
  | 25 => .inr (6, [.int (f 0), .int (f 1), .int (f 2), .long (g 3), .long (g 4), .int (f 5), .int (f 6), .long (g 7)])
  | 26 => .inr (7, [.ref (ha G 1), .ref (ha G 6), .ref (ha G 27), .ref (ha G 28), .ref (ha G 29), .int (f 5), .long (g 6), .long (g 7), .int (f 8)])
  | 27 => .inl (G.2.1 0, 8, .inl f)
  | 28 => .inl (G.2.1 0, 12, .inl f)
  | 29 => .inl (G.2.1 0, 40, .inl f)
  | 30 => .inl (G.2.1 0, 8, .inl f)
  | 31 => .inr (8, [.int (f 0), .int (f 1), .ref (ha G 32), .ref (ha G 33), .ref (ha G 34), .ref (ha G 35), .ref (ha G 36), .int (f 7), .int (f 8), .ref (ha G 37), .ref (ha G 38), .int (f 11), .int (f 12), .int (f 13), .ref (ha G 39), .ref (ha G 40), .ref (ha G 41), .ref (ha G 42), .ref (ha G 43), .int (f 19), .ref (ha G 44), .int (f 21), .ref (ha G 45), .int (f 23), .int (f 24), .int (f 25), .long (g 26), .long (g 27), .long (g 28), .int (f 29), .long (g 30), .ref (ha G 46), .ref (ha G 47), .ref (ha G 48), .int (f 34)])
  | 32 => .inl (G.2.1 0, 120, .inl f)
  | 33 => .inl (G.2.1 2, 40, .inl f)
  | 34 => .inl (G.2.1 0, 3, .inl f)
  | 35 => .inl (G.2.1 0, 12, .inl f)
  | 36 => .inl (G.2.1 0, 12, .inl f)
  | 37 => .inl (G.2.1 0, 17, .inl f)
  | 38 => .inl (G.2.1 0, 17, .inl f)
  | 39 => .inl (G.2.1 0, 18, .inl f)
  | 40 => .inl (G.2.1 1, 1010, .inr (.inl g))
  | 41 => .inl (G.2.1 1, 1010, .inr (.inl g))
  | 42 => .inl (G.2.1 0, 1010, .inl f)
  | 43 => .inl (G.2.1 0, 4096, .inl f)
  | 44 => .inl (G.2.1 0, 8, .inl f)
  | 45 => .inl (G.2.1 2, 40, .inl f)
  | 46 => .inl (G.2.1 0, 12, .inl f)
  | 47 => .inl (G.2.1 0, 12, .inl f)
  | 48 => .inl (G.2.1 0, 8, .inl f)
  | _ => .inl (G.2.1 1, 1, .inr (.inl g))
def wcs (G : GG) (z : St) : va_W := (List.range 50).map (fun c => (ha G c, ce G c (z.1 c) (z.2 c)))
theorem wcs_at (G : GG) (z : St) {c : Nat} (h : c < 50) : (wcs G z)[c]? = some (ha G c, ce G c (z.1 c) (z.2 c)) := by
  simp [wcs, h]
theorem wcs_set (G : GG) (z z' : St) {c : Nat} (h : c < 50) (ho : ∀ a, a ≠ c → z'.1 a = z.1 a ∧ z'.2 a = z.2 a) : (wcs G z).set c (ha G c, ce G c (z'.1 c) (z'.2 c)) = wcs G z' := by
  apply List.ext_getElem?
  intro i
  rw [List.getElem?_set]
  by_cases hi : c = i
  · subst hi
    have h2 : c < (wcs G z).length := by simp [wcs, h]
    simp only [if_true, h2, wcs_at G z' h]
  · rw [if_neg hi]
    by_cases h5 : i < 50
    · rw [wcs_at G z h5, wcs_at G z' h5, (ho i (Ne.symm hi)).1, (ho i (Ne.symm hi)).2]
    · have h6 : (wcs G z).length ≤ i := by simp [wcs]; omega
      have h7 : (wcs G z').length ≤ i := by simp [wcs]; omega
      rw [List.getElem?_eq_none h6, List.getElem?_eq_none h7]
theorem wI_off (z : St) (c k : Nat) (v : Int32) : ∀ a, a ≠ c → (wI z c k v).1 a = z.1 a ∧ (wI z c k v).2 a = z.2 a := fun a h => ⟨by funext b; simp [wI, h], rfl⟩
theorem wL_off (z : St) (c k : Nat) (v : Int64) : ∀ a, a ≠ c → (wL z c k v).1 a = z.1 a ∧ (wL z c k v).2 a = z.2 a := fun a h => ⟨rfl, by funext b; simp [wL, h]⟩
theorem wI_at (z : St) (c k : Nat) (v : Int32) : (wI z c k v).1 c = upd (z.1 c) k v := by funext b; simp [wI, upd]
theorem wL_at (z : St) (c k : Nat) (v : Int64) : (wL z c k v).2 c = vp_updL (z.2 c) k v := by funext b; simp [wL, vp_updL]
def OW (G : GG) (z : St) (t : State) : Prop := va_P G.1 vcl (wcs G z) t.heap ∧ va_D (fr G) (wcs G z)
def Wd (G : GG) (z : St) (H0 H : Heap) (locs : List Loc) : Prop := va_P G.1 vcl (wcs G z) H ∧ va_D (fr G) (wcs G z) ∧ va_S (fr G) H0 H locs ∧ ba G ≤ H0.size
theorem Wd.ow {G : GG} {z : St} {H0 H : Heap} {locs : List Loc} (h : Wd G z H0 H locs) {t : State} (ht : t.heap = H) : OW G z t := ⟨by rw [ht]; exact h.1, h.2.1⟩
abbrev QvR (Q : St → Prop) (G : GG) := va_Qv Q (OW G) (fr G)
abbrev QiR (Q : Int32 → St → Prop) (G : GG) := va_Qi Q (OW G) (fr G)
abbrev QlR (Q : Int64 → St → Prop) (G : GG) := va_Ql Q (OW G) (fr G)
-- what the tables and the statics say, at every state of the run
/-- the words that stay true under warmer tables, whatever the heap -/
def wk : Cond → Bool
  | .fieldLinkNest .. => true
  | .methodLinkNest .. => true
  | .declares _ => true
  | .castable .. => true
  | .arrayClass _ => true
  | w => w.onTables && w.keeps
theorem wk_at {a a' : Array Value} {s U : State} (hW : s.WarmedH U.vm) {w : Cond} (hw : wk w = true) (h : w.before a s = true) : w.before a' U = true := by
  cases w with
  | fieldLinkNest x1 x2 x3 x4 x5 x6 => exact va_Nw.use rfl (va_Nw.warmF hW (va_Nw.of rfl h))
  | methodLinkNest x1 x2 x3 x4 => exact va_Nw.use rfl (va_Nw.warmM hW (va_Nw.of rfl h))
  | declares x => exact va_Nw.use rfl (va_Nw.warmD hW (va_Nw.of rfl h))
  | castable x y => exact va_Nw.use rfl (va_Nw.warmC hW (va_Nw.of rfl h))
  | arrayClass ty => exact word_at hW (Or.inr ⟨_, rfl⟩) h
  | _ => exact word_at hW (Or.inl hw) h
/-- a static of Throwable that holds a reference or null, in a cell that no row of ours writes -/
def xs_St (G : GG) (n d : String) (U : State) : Prop := va_Zq Bundle.tN n d (fr G) U U.heap ∧ (Cond.laysStatic Bundle.tN n d).before #[] U = true
theorem xs_keep {G : GG} {n d : String} {s U : State} (hal : s.vm.Alike U.vm) (hH : ∀ q : Nat, q < s.heap.size → ¬ fr G q → U.heap[q]? = s.heap[q]?) (h : xs_St G n d s) : xs_St G n d U := by
  obtain ⟨h1, h2⟩ := h
  refine ⟨va_Zq.moved hal (h1.kept hH), ?_⟩
  obtain ⟨c, k, i, f, a, cell, hc, hi, hst, ha, hcell, hs, hcls, hlt, hty⟩ := Cond.laysStatic_spec h2
  have hA : ¬ fr G a := by
    rcases h1 with ⟨cf, kf, fi, f', a', cell', q1, q2, q3, q4, q5, q6, q7, q8⟩ | ⟨t, cf, kf, fi, f', a', cell', q1, q2, q3, q4, q5, q6, q7, q8⟩
    all_goals
      have e := Option.some.inj (hi.symm.trans q1)
      simp only [Prod.mk.injEq] at e
      rw [← e.2.1, ha] at q4
      cases q4
      exact q8
  obtain ⟨k', hi', hek⟩ := State.fieldFound?_setVm hal hi
  exact Cond.laysStatic_of (s := U) (by rw [hal.findClass]; exact hc) hi' hst (by rw [hek]; exact ha) (by rw [hH a (Array.getElem?_eq_some_iff.mp hcell).1 hA]; exact hcell) hs hcls hlt (by rw [hek]; exact hty)
theorem xs_ref {G : GG} {n d : String} {U : State} {a : Array Value} (h : xs_St G n d U) : (Cond.isRef (.static Bundle.tN n d)).before a U = true := by
  rcases h.1 with ⟨cf, kf, fi, f, q, cell, q1, q2, q3, q4, q5, q6, q7, q8⟩ | ⟨t, cf, kf, fi, f, q, cell, q1, q2, q3, q4, q5, q6, q7, q8⟩
  all_goals simp [Cond.before, Cond.holds, Cond.value, Term.eval, State.fieldNamed?, q1, q2, q4, q5, q6, q7]
def strs : List (String × Nat × String) := [("PanelOffice", 89, "no such trait or number, or a person has a value beyond it"), ("PanelOffice", 107, "no such value"), ("PanelOffice", 119, "too many persons or kinds"), ("PanelOffice", 125, "no such trait or value, or no such quota"), ("PanelOffice", 135, "no such size"), ("PanelOffice", 179, "too many states without a quota"), ("PanelOffice", 188, "no panel has this rank"), ("PanelOffice", 204, "those marked are no panel"), ("PanelOffice", 207, "no such dice"), ("PanelOffice", 212, "there is nothing to draw from"), ("PanelOffice", 221, "no throw is due"), ("PanelOffice", 226, "the dice have no such side"), ("PanelOffice", 234, "there is no number"), ("PanelOffice", 258, "a place is empty already"), ("PanelOffice", 263, "that is no member"), ("PanelOffice", 274, "no place is empty"), ("PanelOffice", 294, "the panel is drawn"), ("PanelOffice", 296, "no panel is drawn"), ("PanelOffice", 298, "too many states"), ("PanelOffice", 303, "no such person"), ("PanelOffice", 305, "a panel has no such place"), ("PanelOffice", 307, "below 0")]
/-- one class can't be assigned to another -/
def xn_No (A B : String) (U : State) : Prop := ∃ a b : ClassId, U.vm.findClass A = some a ∧ U.vm.findClass B = some b ∧ U.vm.assignable a b = false
theorem xn_No.moved {A B : String} {s U : State} (hal : s.vm.Alike U.vm) (h : xn_No A B s) : xn_No A B U := by
  obtain ⟨a, b, h1, h2, h3⟩ := h
  exact ⟨a, b, by rw [hal.findClass]; exact h1, by rw [hal.findClass]; exact h2, by rw [hal.assignable]; exact h3⟩
/-- the classes of exceptions, by number -/
def xcn (k : Nat) : String := match k with
  | 0 => "java/lang/IllegalArgumentException"
  | 1 => "java/lang/IllegalStateException"
  | 2 => "java/util/NoSuchElementException"
  | _ => "java/lang/UnsupportedOperationException"
def KK (l : Launch) (G : GG) (U : State) : Prop :=
  va_K G.1 vcl (vty G) U ∧ (∀ w ∈ lw_tbl, wk w = true → w.before #[] U = true) ∧ (xs_St G "UNASSIGNED_STACK" Bundle.steD U ∧ xs_St G "SUPPRESSED_SENTINEL" Bundle.listD U) ∧ (∀ x ∈ strs, ∃ q : Nat, vk_R x.1 x.2.1 x.2.2 q U) ∧ l.stackTraces = false ∧ ∀ i j : Nat, i < 4 → j < 4 → i ≠ j → xn_No (xcn i) (xcn j) U
theorem KK.warm {l : Launch} {G : GG} {s U : State} (h : KK l G s) (hW : s.WarmedH U.vm) (hH : ∀ q : Nat, q < s.heap.size → ¬ fr G q → U.heap[q]? = s.heap[q]?) : KK l G U :=
  ⟨va_K.moved hW.alike h.1, fun w hw hk => wk_at hW hk (h.2.1 w hw hk), ⟨xs_keep hW.alike hH h.2.2.1.1, xs_keep hW.alike hH h.2.2.1.2⟩, fun x hx => by obtain ⟨q, hq⟩ := h.2.2.2.1 x hx; exact ⟨q, vk_R.warm hW hq⟩, h.2.2.2.2.1, fun i j hi hj hn => (h.2.2.2.2.2 i j hi hj hn).moved hW.alike⟩
theorem KK.same {l : Launch} {G : GG} {s U : State} (h : KK l G s) (hv : U.vm = s.vm) (hh : U.heap = s.heap) : KK l G U :=
  h.warm (by rw [hv]; exact State.WarmedH.refl s) (fun q _ _ => by rw [hh])
/-- a word of the tables, for any arguments -/
theorem KK.w {l : Launch} {G : GG} {s : State} {a : Array Value} (h : KK l G s) {w : Cond} (hw : w ∈ lw_tbl) (hk : wk w = true) : w.before a s = true := wk_at (State.WarmedH.refl s) hk (h.2.1 w hw hk)
/-- the class's layout words among the tables -/
def lyt : List Cond := u_ws R_O F_O 12 ++ u_ws R_P F_P 6 ++ u_ws R_Q F_Q 2 ++ u_ws R_T F_T 13 ++ u_ws R_R F_R 2 ++ u_ws R_C F_C 6 ++ u_ws R_D F_D 8 ++ u_ws R_S F_S 9 ++ u_ws R_M F_M 35
theorem lyt_in : ∀ w ∈ lyt, w ∈ lw_tbl := by
  intro w hw
  unfold lyt at hw
  simp only [List.mem_append] at hw
  rcases hw with (((((((h | h) | h) | h) | h) | h) | h) | h) | h
  · exact in_O w h
  · exact in_P w h
  · exact in_Q w h
  · exact in_T w h
  · exact in_R w h
  · exact in_C w h
  · exact in_D w h
  · exact in_S w h
  · exact in_M w h
theorem lyt_wk : ∀ w ∈ lyt, wk w = true := by decide +kernel
theorem KK.l {l : Launch} {G : GG} {s : State} {a : Array Value} (h : KK l G s) : ∀ w ∈ lyt, w.before a s = true := fun w hw => h.w (lyt_in w hw) (lyt_wk w hw)
end
section
/-! Rows over the world: a method's surroundings, contracts and their beginning, reads, writes, returns, calls, throws. -/
abbrev En (p : Program) (l : Launch) (s : State) (m : MethodId) (meth : Method) (c : Code) (args : Array Value) (cc : ByteArray) (nL : Nat) (own : String) (ret : Option FieldType) (G : GG) : Prop :=
  p.tables.exec = Jvm.exec ∧ c.code = cc ∧ c.maxLocals = nL ∧ s.vm.findClass own = some m.cls ∧ meth.sig.returnType = ret ∧ meth.locks = false ∧ c.exceptionTable.isEmpty = true ∧ KK l G s
/-- what a contract asks of the state -/
def IW (l : Launch) (G : GG) (z : St) (U : State) : Prop := OW G z U ∧ ba G ≤ U.heap.size ∧ KK l G U
def Ctv (l : Launch) (y : MethodName) (cc : ByteArray) (nL : Nat) (ret : Option FieldType) (rm : Room) (G : GG) (As : List Value) (z : St) (Q : St → Prop) : Prop := Met l y [Cond.code y cc nL ret] rm (va_Pc As (IW l G z)) (QvR Q G) 0 0 (fr G)
def Cti (l : Launch) (y : MethodName) (cc : ByteArray) (nL : Nat) (ret : Option FieldType) (rm : Room) (G : GG) (As : List Value) (z : St) (Q : Int32 → St → Prop) : Prop := Met l y [Cond.code y cc nL ret] rm (va_Pc As (IW l G z)) (QiR Q G) 0 0 (fr G)
def Ctl (l : Launch) (y : MethodName) (cc : ByteArray) (nL : Nat) (ret : Option FieldType) (rm : Room) (G : GG) (As : List Value) (z : St) (Q : Int64 → St → Prop) : Prop := Met l y [Cond.code y cc nL ret] rm (va_Pc As (IW l G z)) (QlR Q G) 0 0 (fr G)
/-- the end by a throw: an exception of the k-th class, the world as z says -/
def QT (X : Nat → St → Prop) (G : GG) (st : State) (o : Outcome) (t : State) : Prop := ∃ (a k : Nat) (z : St) (ce : Cell), o = .threw a ∧ X k z ∧ OW G z t ∧ t.heap[a]? = some ce ∧ ce.vm = .none ∧ (∃ v : Vm, st.WarmedH v ∧ v.findClass (xcn k) = some ce.cls)
def QvX (Q : St → Prop) (X : Nat → St → Prop) (G : GG) : Array Value → State → Outcome → State → Prop := fun a st o t => QvR Q G a st o t ∨ (QT X G st o t ∧ va_F (fr G) st t)
def QiX (Q : Int32 → St → Prop) (X : Nat → St → Prop) (G : GG) : Array Value → State → Outcome → State → Prop := fun a st o t => QiR Q G a st o t ∨ (QT X G st o t ∧ va_F (fr G) st t)
def QlX (Q : Int64 → St → Prop) (X : Nat → St → Prop) (G : GG) : Array Value → State → Outcome → State → Prop := fun a st o t => QlR Q G a st o t ∨ (QT X G st o t ∧ va_F (fr G) st t)
def CtvX (l : Launch) (y : MethodName) (cc : ByteArray) (nL : Nat) (ret : Option FieldType) (rm : Room) (G : GG) (As : List Value) (z : St) (Q : St → Prop) (X : Nat → St → Prop) : Prop := MetX l y [Cond.code y cc nL ret] rm (va_Pc As (IW l G z)) (QvX Q X G) (fr G)
def CtiX (l : Launch) (y : MethodName) (cc : ByteArray) (nL : Nat) (ret : Option FieldType) (rm : Room) (G : GG) (As : List Value) (z : St) (Q : Int32 → St → Prop) (X : Nat → St → Prop) : Prop := MetX l y [Cond.code y cc nL ret] rm (va_Pc As (IW l G z)) (QiX Q X G) (fr G)
def CtlX (l : Launch) (y : MethodName) (cc : ByteArray) (nL : Nat) (ret : Option FieldType) (rm : Room) (G : GG) (As : List Value) (z : St) (Q : Int64 → St → Prop) (X : Nat → St → Prop) : Prop := MetX l y [Cond.code y cc nL ret] rm (va_Pc As (IW l G z)) (QlX Q X G) (fr G)
section Opn
variable {l : Launch} {y : MethodName} {cc : ByteArray} {nL : Nat} {ret : Option FieldType} {rm : Room} {G : GG} {As : List Value} {z : St} {own : String}
theorem op_E {p : Program} {e : Env} {s : State} {m : MethodId} {args : Array Value} {below : List Frame} {meth : Method} {c : Code} {s₁ : State} (B : BodyLoose p l y (headSpec [Cond.code y cc nL ret] rm) cc nL ret e s m args below meth c s₁) (hml : c.maxLocals = nL) (hown : y.cls = own) (hE : KK l G s) : En p l s m meth c args cc nL own ret G := by
  have hts := atoms_spec (ws := [Cond.code y cc nL ret]) B.pre
  obtain ⟨meth', c', q1, q2, q3, q4, q5, q6, q7, q8⟩ := Cond.code_spec B.named (hts _ List.mem_cons_self)
  cases Option.some.inj (q1.symm.trans B.method)
  cases Option.some.inj (q2.symm.trans (Stand.of_body B).code)
  exact ⟨B.exec, B.bytes, hml, by rw [← hown]; exact findClass_of_methodNamed B.named, B.returns, B.notSynchronized, q7, hE⟩
theorem Ctv.op {Q : St → Prop} (hy : plainName y.cls = true) (hown : y.cls = own) (hlen : (lg_sl As).length ≤ nL)
    (body : ∀ (p : Program) (e : Env) (s : State) (m : MethodId) (args : Array Value) (below : List Frame) (meth : Method) (c : Code) (ls : Array Slot), En p l s m meth c args cc nL own ret G → lv_has ls nL (lv_args 0 As) → Wd G z s.heap s.heap [] → W p l e rm s m args below meth c s.heap [] 0 0 (MQ below (QvR Q G) args s 0 0 (fr G)) (F0 m 0 ls [])) : Ctv l y cc nL ret rm G As z Q := by
  refine Met.ofW (cc := cc) (maxL := nL) (ret := ret) hy rfl ?_
  intro p e s m args below meth c s₁ B hml hv
  obtain ⟨rfl, hO, hba, hE⟩ := hv
  rw [lg_entry_eq]
  exact body p e s m _ below meth c _ (op_E B hml hown hE) (lv_entry As hlen) ⟨hO.1, hO.2, va_S.rf, hba⟩
theorem Cti.op {Q : Int32 → St → Prop} (hy : plainName y.cls = true) (hown : y.cls = own) (hlen : (lg_sl As).length ≤ nL)
    (body : ∀ (p : Program) (e : Env) (s : State) (m : MethodId) (args : Array Value) (below : List Frame) (meth : Method) (c : Code) (ls : Array Slot), En p l s m meth c args cc nL own ret G → lv_has ls nL (lv_args 0 As) → Wd G z s.heap s.heap [] → W p l e rm s m args below meth c s.heap [] 0 0 (MQ below (QiR Q G) args s 0 0 (fr G)) (F0 m 0 ls [])) : Cti l y cc nL ret rm G As z Q := by
  refine Met.ofW (cc := cc) (maxL := nL) (ret := ret) hy rfl ?_
  intro p e s m args below meth c s₁ B hml hv
  obtain ⟨rfl, hO, hba, hE⟩ := hv
  rw [lg_entry_eq]
  exact body p e s m _ below meth c _ (op_E B hml hown hE) (lv_entry As hlen) ⟨hO.1, hO.2, va_S.rf, hba⟩
theorem Ctl.op {Q : Int64 → St → Prop} (hy : plainName y.cls = true) (hown : y.cls = own) (hlen : (lg_sl As).length ≤ nL)
    (body : ∀ (p : Program) (e : Env) (s : State) (m : MethodId) (args : Array Value) (below : List Frame) (meth : Method) (c : Code) (ls : Array Slot), En p l s m meth c args cc nL own ret G → lv_has ls nL (lv_args 0 As) → Wd G z s.heap s.heap [] → W p l e rm s m args below meth c s.heap [] 0 0 (MQ below (QlR Q G) args s 0 0 (fr G)) (F0 m 0 ls [])) : Ctl l y cc nL ret rm G As z Q := by
  refine Met.ofW (cc := cc) (maxL := nL) (ret := ret) hy rfl ?_
  intro p e s m args below meth c s₁ B hml hv
  obtain ⟨rfl, hO, hba, hE⟩ := hv
  rw [lg_entry_eq]
  exact body p e s m _ below meth c _ (op_E B hml hown hE) (lv_entry As hlen) ⟨hO.1, hO.2, va_S.rf, hba⟩
theorem op_X {Qc : Array Value → State → Outcome → State → Prop} (hy : plainName y.cls = true) (hown : y.cls = own) (hlen : (lg_sl As).length ≤ nL)
    (body : ∀ (p : Program) (e : Env) (s : State) (m : MethodId) (args : Array Value) (below : List Frame) (meth : Method) (c : Code) (ls : Array Slot), En p l s m meth c args cc nL own ret G → lv_has ls nL (lv_args 0 As) → Wd G z s.heap s.heap [] → W p l e rm s m args below meth c s.heap [] 0 0 (MQX below Qc args s (fr G)) (F0 m 0 ls [])) : MetX l y [Cond.code y cc nL ret] rm (va_Pc As (IW l G z)) Qc (fr G) := by
  refine MetX.ofW (cc := cc) (maxL := nL) (ret := ret) hy ?_ ?_
  · intro args s m h hn
    obtain ⟨meth, c, h1, h2, h3, h4, h5, h6, -, -⟩ := Cond.code_spec hn (atoms_spec (ws := [Cond.code y cc nL ret]) h _ List.mem_cons_self)
    exact ⟨meth, c, h1, h2, h3, h4, h5, h6⟩
  · intro p e s m args below meth c s₁ B hml hv
    obtain ⟨rfl, hO, hba, hE⟩ := hv
    rw [lg_entry_eq]
    exact body p e s m _ below meth c _ (op_E B hml hown hE) (lv_entry As hlen) ⟨hO.1, hO.2, va_S.rf, hba⟩
theorem CtvX.op {Q : St → Prop} {X : Nat → St → Prop} (hy : plainName y.cls = true) (hown : y.cls = own) (hlen : (lg_sl As).length ≤ nL)
    (body : ∀ (p : Program) (e : Env) (s : State) (m : MethodId) (args : Array Value) (below : List Frame) (meth : Method) (c : Code) (ls : Array Slot), En p l s m meth c args cc nL own ret G → lv_has ls nL (lv_args 0 As) → Wd G z s.heap s.heap [] → W p l e rm s m args below meth c s.heap [] 0 0 (MQX below (QvX Q X G) args s (fr G)) (F0 m 0 ls [])) : CtvX l y cc nL ret rm G As z Q X := op_X hy hown hlen body
theorem CtiX.op {Q : Int32 → St → Prop} {X : Nat → St → Prop} (hy : plainName y.cls = true) (hown : y.cls = own) (hlen : (lg_sl As).length ≤ nL)
    (body : ∀ (p : Program) (e : Env) (s : State) (m : MethodId) (args : Array Value) (below : List Frame) (meth : Method) (c : Code) (ls : Array Slot), En p l s m meth c args cc nL own ret G → lv_has ls nL (lv_args 0 As) → Wd G z s.heap s.heap [] → W p l e rm s m args below meth c s.heap [] 0 0 (MQX below (QiX Q X G) args s (fr G)) (F0 m 0 ls [])) : CtiX l y cc nL ret rm G As z Q X := op_X hy hown hlen body
theorem CtlX.op {Q : Int64 → St → Prop} {X : Nat → St → Prop} (hy : plainName y.cls = true) (hown : y.cls = own) (hlen : (lg_sl As).length ≤ nL)
    (body : ∀ (p : Program) (e : Env) (s : State) (m : MethodId) (args : Array Value) (below : List Frame) (meth : Method) (c : Code) (ls : Array Slot), En p l s m meth c args cc nL own ret G → lv_has ls nL (lv_args 0 As) → Wd G z s.heap s.heap [] → W p l e rm s m args below meth c s.heap [] 0 0 (MQX below (QlX Q X G) args s (fr G)) (F0 m 0 ls [])) : CtlX l y cc nL ret rm G As z Q X := op_X hy hown hlen body
end Opn
section Rows
variable {p : Program} {l : Launch} {e : Env} {R : Room} {s : State} {m : MethodId} {args : Array Value} {below : List Frame} {meth : Method} {c : Code} {H : Heap} {locs : List Loc} {cells slots : Nat} {Qg : State → Prop} {G : GG} {z : St} {cc : ByteArray} {pc : Nat} {ls : Array Slot} {rest : List Value}
-- the sign of a comparison of longs
theorem lgc_eqt {x y : Int64} (h : lg_cmp x y = 0) : x = y := (lg_cmp_eq x y).mp h
theorem lgc_eqf {x y : Int64} (h : ¬ lg_cmp x y = 0) : ¬ x = y := fun g => h ((lg_cmp_eq x y).mpr g)
theorem lgc_net {x y : Int64} (h : ¬ lg_cmp x y = 0) : ¬ x = y := fun g => h ((lg_cmp_eq x y).mpr g)
theorem lgc_nef {x y : Int64} (h : lg_cmp x y = 0) : x = y := (lg_cmp_eq x y).mp h
theorem lgc_ltt {x y : Int64} (h : lg_cmp x y < 0) : x < y := (lg_cmp_lt x y).mp h
theorem lgc_ltf {x y : Int64} (h : ¬ lg_cmp x y < 0) : ¬ x < y := fun g => h ((lg_cmp_lt x y).mpr g)
theorem lgc_gtt {x y : Int64} (h : 0 < lg_cmp x y) : y < x := (lg_cmp_gt x y).mp h
theorem lgc_gtf {x y : Int64} (h : ¬ 0 < lg_cmp x y) : ¬ y < x := fun g => h ((lg_cmp_gt x y).mpr g)
theorem lgc_get {x y : Int64} (h : 0 ≤ lg_cmp x y) : y ≤ x := (lg_cmp_ge x y).mp h
theorem lgc_gef {x y : Int64} (h : ¬ 0 ≤ lg_cmp x y) : ¬ y ≤ x := fun g => h ((lg_cmp_ge x y).mpr g)
theorem lgc_let {x y : Int64} (h : lg_cmp x y ≤ 0) : x ≤ y := (lg_cmp_le x y).mp h
theorem lgc_lef {x y : Int64} (h : ¬ lg_cmp x y ≤ 0) : ¬ x ≤ y := fun g => h ((lg_cmp_le x y).mpr g)
theorem ii_p1 {x v : Int32} (h : v = x + 1) : x + Int32.ofInt 1 = v := h.symm
theorem ii_m1 {x v : Int32} (h : v = x - 1) : x + Int32.ofInt (-1) = v := by
  rw [h, Int32.sub_eq_add_neg]; rfl
theorem ii_p5 {x v : Int32} (h : v = x + 5) : x + Int32.ofInt 5 = v := h.symm
theorem zb_nar {x : Int32} (h : zb x) : narrow .boolean (.int x) = .int x := by rcases h with rfl | rfl <;> decide
theorem zb_fit {x : Int32} (h : zb x) : fits .boolean (.int x) = true := by rcases h with rfl | rfl <;> decide
theorem zb_vp {x : Int32} (h : zb x) : vp_nar .boolean x = x := by rcases h with rfl | rfl <;> decide
theorem zb_0 : zb 0 := Or.inl rfl
theorem zb_1 : zb 1 := Or.inr rfl
-- reads and writes, by cell and place
theorem yget (hx : p.tables.exec = Jvm.exec) (hb : c.code = cc) {own C : String} (hown : s.vm.findClass own = some m.cls) (hE : KK l G s) (hW : Wd G z s.heap H locs) {cN k ci index n : Nat} {T : u_T} {fs : List Value} {v : Value} (hc : cN < 50) (he : ce G cN (z.1 cN) (z.2 cN) = .inr (ci, fs)) (hcl : vcl[ci]? = some (C, T, n)) (hin : ∀ w ∈ u_ws C T n, w ∈ lyt) (hk : k < n)
    (hlink : (Cond.fieldLink own index (T k).1 (T k).2.1 (T k).2.2.1).before args s = true) (hv : fs[k]? = some v) (hdg : decode cc pc = .ok (.getfield index, 3)) (kk : W p l e R s m args below meth c H locs cells slots Qg (F0 m (pc + 3) ls (v :: rest))) : W p l e R s m args below meth c H locs cells slots Qg (F0 m pc ls (.ref (ha G cN) :: rest)) :=
  va_get hx hb hE.l hin hown hE.1 hW.1 cN (by rw [wcs_at G z hc, he]) hcl k hk hlink (fun _ h => h) hv hdg kk
theorem ygetN (hx : p.tables.exec = Jvm.exec) (hb : c.code = cc) {own C host : String} (hown : s.vm.findClass own = some m.cls) (hE : KK l G s) (hW : Wd G z s.heap H locs) {cN k ci index n : Nat} {T : u_T} {fs : List Value} {v : Value} (hc : cN < 50) (he : ce G cN (z.1 cN) (z.2 cN) = .inr (ci, fs)) (hcl : vcl[ci]? = some (C, T, n)) (hin : ∀ w ∈ u_ws C T n, w ∈ lyt) (hk : k < n)
    (hlink : (Cond.fieldLinkNest own index (T k).1 (T k).2.1 (T k).2.2.1 host).before args s = true) (hv : fs[k]? = some v) (hdg : decode cc pc = .ok (.getfield index, 3)) (kk : W p l e R s m args below meth c H locs cells slots Qg (F0 m (pc + 3) ls (v :: rest))) : W p l e R s m args below meth c H locs cells slots Qg (F0 m pc ls (.ref (ha G cN) :: rest)) :=
  va_getN hx hb hE.l hin hown hE.1 hW.1 cN (by rw [wcs_at G z hc, he]) hcl k hk hlink (fun _ h => h) hv hdg kk
/-- the world behind a write -/
theorem wd_set {z' : St} {H1 : Heap} {locs1 : List Loc} {cN : Nat} {e0 : va_E} (hc : cN < 50) (hW : Wd G z s.heap H locs) (ho : ∀ a, a ≠ cN → z'.1 a = z.1 a ∧ z'.2 a = z.2 a) (he : ce G cN (z'.1 cN) (z'.2 cN) = e0) (hP : va_P G.1 vcl ((wcs G z).set cN (ha G cN, e0)) H1) (hD : va_D (fr G) ((wcs G z).set cN (ha G cN, e0))) (hS : va_S (fr G) s.heap H1 locs1) : Wd G z' s.heap H1 locs1 := by
  have h := wcs_set G z z' hc ho
  rw [he] at h
  rw [h] at hP hD
  exact ⟨hP, hD, hS, hW.2.2.2⟩
theorem yput (hx : p.tables.exec = Jvm.exec) (hb : c.code = cc) {own C : String} (hown : s.vm.findClass own = some m.cls) (hE : KK l G s) (hW : Wd G z s.heap H locs) {cN k ci index n : Nat} {T : u_T} {fs : List Value} {v : Value} {ty : FieldType} (ty0 : Nat → FieldType) (hty : ∀ k, k < n → parseFieldDescriptor (T k).2.2.1 = some (ty0 k)) (hnm : ∀ a, a < n → ∀ b, b < n → a ≠ b → (T a).2.1 ≠ (T b).2.1) (hc : cN < 50) (he : ce G cN (z.1 cN) (z.2 cN) = .inr (ci, fs)) (hcl : vcl[ci]? = some (C, T, n)) (hin : ∀ w ∈ u_ws C T n, w ∈ lyt) (hk : k < n)
    (hfin : (T k).2.2.2 = false) (hd : parseFieldDescriptor (T k).2.2.1 = some ty) (hn : narrow ty v = v) (hfit : fits ty v = true) (hl : k < fs.length) (z' : St) (ho : ∀ a, a ≠ cN → z'.1 a = z.1 a ∧ z'.2 a = z.2 a) (he' : ce G cN (z'.1 cN) (z'.2 cN) = .inr (ci, fs.set k v))
    (hlink : (Cond.fieldLink own index (T k).1 (T k).2.1 (T k).2.2.1).before args s = true) (hdg : decode cc pc = .ok (.putfield index, 3)) (kk : ∀ (H : Heap) (locs : List Loc), Wd G z' s.heap H locs → W p l e R s m args below meth c H locs cells slots Qg (F0 m (pc + 3) ls rest)) : W p l e R s m args below meth c H locs cells slots Qg (F0 m pc ls (v :: .ref (ha G cN) :: rest)) :=
  va_put hx hb hE.l hin ty0 hty hnm hown hE.1 hW.1 hW.2.1 hW.2.2.1 cN (by rw [wcs_at G z hc, he]) hcl k hk hlink (fun _ h => h) hfin hd hn hfit hl hdg (fun H1 locs1 hP hD hS => kk H1 locs1 (wd_set hc hW ho he' hP hD hS))
theorem yputN (hx : p.tables.exec = Jvm.exec) (hb : c.code = cc) {own C host : String} (hown : s.vm.findClass own = some m.cls) (hE : KK l G s) (hW : Wd G z s.heap H locs) {cN k ci index n : Nat} {T : u_T} {fs : List Value} {v : Value} {ty : FieldType} (ty0 : Nat → FieldType) (hty : ∀ k, k < n → parseFieldDescriptor (T k).2.2.1 = some (ty0 k)) (hnm : ∀ a, a < n → ∀ b, b < n → a ≠ b → (T a).2.1 ≠ (T b).2.1) (hc : cN < 50) (he : ce G cN (z.1 cN) (z.2 cN) = .inr (ci, fs)) (hcl : vcl[ci]? = some (C, T, n)) (hin : ∀ w ∈ u_ws C T n, w ∈ lyt) (hk : k < n)
    (hfin : (T k).2.2.2 = false) (hd : parseFieldDescriptor (T k).2.2.1 = some ty) (hn : narrow ty v = v) (hfit : fits ty v = true) (hl : k < fs.length) (z' : St) (ho : ∀ a, a ≠ cN → z'.1 a = z.1 a ∧ z'.2 a = z.2 a) (he' : ce G cN (z'.1 cN) (z'.2 cN) = .inr (ci, fs.set k v))
    (hlink : (Cond.fieldLinkNest own index (T k).1 (T k).2.1 (T k).2.2.1 host).before args s = true) (hdg : decode cc pc = .ok (.putfield index, 3)) (kk : ∀ (H : Heap) (locs : List Loc), Wd G z' s.heap H locs → W p l e R s m args below meth c H locs cells slots Qg (F0 m (pc + 3) ls rest)) : W p l e R s m args below meth c H locs cells slots Qg (F0 m pc ls (v :: .ref (ha G cN) :: rest)) :=
  va_putN hx hb hE.l hin ty0 hty hnm hown hE.1 hW.1 hW.2.1 hW.2.2.1 cN (by rw [wcs_at G z hc, he]) hcl k hk hlink (fun _ h => h) hfin hd hn hfit hl hdg (fun H1 locs1 hP hD hS => kk H1 locs1 (wd_set hc hW ho he' hP hD hS))
theorem yaI (hx : p.tables.exec = Jvm.exec) (hb : c.code = cc) (hE : KK l G s) (hW : Wd G z s.heap H locs) {cN n : Nat} {i : Int32} (hc : cN < 50) (he : ce G cN (z.1 cN) (z.2 cN) = .inl (G.2.1 0, n, .inl (z.1 cN))) (hi : vp_in i n) (hdg : decode cc pc = .ok (.iaload, 1)) (kk : W p l e R s m args below meth c H locs cells slots Qg (F0 m (pc + 1) ls (.int (z.1 cN i.toNatClampNeg) :: rest))) : W p l e R s m args below meth c H locs cells slots Qg (F0 m pc ls (.int i :: .ref (ha G cN) :: rest)) :=
  va_iald hx hb hE.1 hW.1 cN 0 (by rw [wcs_at G z hc, he]) rfl hi hdg kk
theorem yaZ (hx : p.tables.exec = Jvm.exec) (hb : c.code = cc) (hE : KK l G s) (hW : Wd G z s.heap H locs) {cN n : Nat} {i : Int32} (hc : cN < 50) (he : ce G cN (z.1 cN) (z.2 cN) = .inl (G.2.1 2, n, .inl (z.1 cN))) (hi : vp_in i n) (hdg : decode cc pc = .ok (.baload, 1)) (kk : W p l e R s m args below meth c H locs cells slots Qg (F0 m (pc + 1) ls (.int (z.1 cN i.toNatClampNeg) :: rest))) : W p l e R s m args below meth c H locs cells slots Qg (F0 m pc ls (.int i :: .ref (ha G cN) :: rest)) :=
  va_zald hx hb hE.1 hW.1 cN 2 (by rw [wcs_at G z hc, he]) rfl hi hdg kk
theorem yaJ (hx : p.tables.exec = Jvm.exec) (hb : c.code = cc) (hE : KK l G s) (hW : Wd G z s.heap H locs) {cN n : Nat} {i : Int32} (hc : cN < 50) (he : ce G cN (z.1 cN) (z.2 cN) = .inl (G.2.1 1, n, .inr (.inl (z.2 cN)))) (hi : vp_in i n) (hdg : decode cc pc = .ok (.laload, 1)) (kk : W p l e R s m args below meth c H locs cells slots Qg (F0 m (pc + 1) ls (.long (z.2 cN i.toNatClampNeg) :: rest))) : W p l e R s m args below meth c H locs cells slots Qg (F0 m pc ls (.int i :: .ref (ha G cN) :: rest)) :=
  va_lald hx hb hE.1 hW.1 cN 1 (by rw [wcs_at G z hc, he]) rfl hi hdg kk
theorem ysI (hx : p.tables.exec = Jvm.exec) (hb : c.code = cc) (hE : KK l G s) (hW : Wd G z s.heap H locs) {cN n : Nat} {i v : Int32} (hc : cN < 50) (he : ∀ f g, ce G cN f g = .inl (G.2.1 0, n, .inl f)) (hi : vp_in i n) (hdg : decode cc pc = .ok (.iastore, 1)) (kk : ∀ (z' : St) (H : Heap) (locs : List Loc), z' = wI z cN i.toNatClampNeg v → Wd G z' s.heap H locs → W p l e R s m args below meth c H locs cells slots Qg (F0 m (pc + 1) ls rest)) : W p l e R s m args below meth c H locs cells slots Qg (F0 m pc ls (.int v :: .int i :: .ref (ha G cN) :: rest)) :=
  va_iast hx hb hE.1 hW.1 hW.2.1 hW.2.2.1 cN 0 (by rw [wcs_at G z hc, he]) rfl hi hdg (fun H1 locs1 hP hD hS => kk _ H1 locs1 rfl (wd_set hc hW (wI_off z cN _ v) (by rw [he, wI_at]) hP hD hS))
theorem ysZ (hx : p.tables.exec = Jvm.exec) (hb : c.code = cc) (hE : KK l G s) (hW : Wd G z s.heap H locs) {cN n : Nat} {i v : Int32} (hz : zb v) (hc : cN < 50) (he : ∀ f g, ce G cN f g = .inl (G.2.1 2, n, .inl f)) (hi : vp_in i n) (hdg : decode cc pc = .ok (.bastore, 1)) (kk : ∀ (z' : St) (H : Heap) (locs : List Loc), z' = wI z cN i.toNatClampNeg v → Wd G z' s.heap H locs → W p l e R s m args below meth c H locs cells slots Qg (F0 m (pc + 1) ls rest)) : W p l e R s m args below meth c H locs cells slots Qg (F0 m pc ls (.int v :: .int i :: .ref (ha G cN) :: rest)) :=
  va_zast hx hb hE.1 hW.1 hW.2.1 hW.2.2.1 cN 2 (by rw [wcs_at G z hc, he]) rfl hi hdg (fun H1 locs1 hP hD hS => kk _ H1 locs1 rfl (wd_set hc hW (wI_off z cN _ v) (by rw [he, wI_at, zb_vp hz]) hP hD hS))
theorem ysJ (hx : p.tables.exec = Jvm.exec) (hb : c.code = cc) (hE : KK l G s) (hW : Wd G z s.heap H locs) {cN n : Nat} {i : Int32} {v : Int64} (hc : cN < 50) (he : ∀ f g, ce G cN f g = .inl (G.2.1 1, n, .inr (.inl g))) (hi : vp_in i n) (hdg : decode cc pc = .ok (.lastore, 1)) (kk : ∀ (z' : St) (H : Heap) (locs : List Loc), z' = wL z cN i.toNatClampNeg v → Wd G z' s.heap H locs → W p l e R s m args below meth c H locs cells slots Qg (F0 m (pc + 1) ls rest)) : W p l e R s m args below meth c H locs cells slots Qg (F0 m pc ls (.long v :: .int i :: .ref (ha G cN) :: rest)) :=
  va_last hx hb hE.1 hW.1 hW.2.1 hW.2.2.1 cN 1 (by rw [wcs_at G z hc, he]) rfl hi hdg (fun H1 locs1 hP hD hS => kk _ H1 locs1 rfl (wd_set hc hW (wL_off z cN _ v) (by rw [he, wL_at]) hP hD hS))
theorem ylen (hx : p.tables.exec = Jvm.exec) (hb : c.code = cc) (hE : KK l G s) (hW : Wd G z s.heap H locs) {cN t0 : Nat} {cA : ClassId} {ty : FieldType} {x : vp_A} {v : Int32} (hc : cN < 50) (he : ce G cN (z.1 cN) (z.2 cN) = .inl (cA, x)) (ht : (vty G)[t0]? = some (cA, ty)) (hv : Int32.ofNat x.1 = v) (hdg : decode cc pc = .ok (.arraylength, 1)) (kk : W p l e R s m args below meth c H locs cells slots Qg (F0 m (pc + 1) ls (.int v :: rest))) : W p l e R s m args below meth c H locs cells slots Qg (F0 m pc ls (.ref (ha G cN) :: rest)) :=
  va_alen hx hb hE.1 hW.1 cN t0 (by rw [wcs_at G z hc, he]) ht hv hdg kk
-- returns
theorem yr_v {Q : St → Prop} (hx : p.tables.exec = Jvm.exec) (hb : c.code = cc) (hr : meth.sig.returnType = none) (hlk : meth.locks = false) (hW : Wd G z s.heap H locs) (hq : Q z) (hdg : decode cc pc = .ok (.return_, 1)) : W p l e R s m args below meth c H locs 0 0 (MQ below (QvR Q G) args s 0 0 (fr G)) (F0 m pc ls []) :=
  W.vret hx hb hr (fun t ht _ => ⟨⟨z, rfl, hq, hW.ow ht⟩, hW.2.2.1.F ht⟩) hW.2.2.1.2.2 hdg hlk
theorem yr_i {Q : Int32 → St → Prop} {v : Int32} (hx : p.tables.exec = Jvm.exec) (hb : c.code = cc) (hr : meth.sig.returnType = some .int) (hlk : meth.locks = false) (hW : Wd G z s.heap H locs) (hq : Q v z) (hdg : decode cc pc = .ok (.ireturn, 1)) : W p l e R s m args below meth c H locs 0 0 (MQ below (QiR Q G) args s 0 0 (fr G)) (F0 m pc ls [.int v]) :=
  W.iret hx hb hr (fun t ht _ => ⟨⟨v, z, rfl, hq, hW.ow ht⟩, hW.2.2.1.F ht⟩) hW.2.2.1.2.2 hdg hlk
theorem yr_z {Q : Int32 → St → Prop} {v : Int32} (hx : p.tables.exec = Jvm.exec) (hb : c.code = cc) (hr : meth.sig.returnType = some .boolean) (hlk : meth.locks = false) (hW : Wd G z s.heap H locs) (hz : zb v) (hq : Q v z) (hdg : decode cc pc = .ok (.ireturn, 1)) : W p l e R s m args below meth c H locs 0 0 (MQ below (QiR Q G) args s 0 0 (fr G)) (F0 m pc ls [.int v]) :=
  W.zret hx hb hr (zb_nar hz) (fun t ht _ => ⟨⟨v, z, rfl, hq, hW.ow ht⟩, hW.2.2.1.F ht⟩) hW.2.2.1.2.2 hdg hlk
theorem yr_l {Q : Int64 → St → Prop} {v : Int64} (hx : p.tables.exec = Jvm.exec) (hb : c.code = cc) (hr : meth.sig.returnType = some .long) (hlk : meth.locks = false) (hW : Wd G z s.heap H locs) (hq : Q v z) (hdg : decode cc pc = .ok (.lreturn, 1)) : W p l e R s m args below meth c H locs 0 0 (MQ below (QlR Q G) args s 0 0 (fr G)) (F0 m pc ls [.long v]) :=
  W.lret hx hb hr (fun t ht _ => ⟨⟨v, z, rfl, hq, hW.ow ht⟩, hW.2.2.1.F ht⟩) hW.2.2.1.2.2 hdg hlk
end Rows
end
section
/-! Rows over the world: calls of contracts with one end or two, Math, throws. -/
section Calls9
variable {p : Program} {l : Launch} {e : Env} {R : Room} {s : State} {m : MethodId} {args : Array Value} {below : List Frame} {meth : Method} {c : Code} {H : Heap} {locs : List Loc} {Qg : State → Prop} {G : GG} {z : St} {cc cc' : ByteArray} {pc nL nL' n index : Nat} {ls : Array Slot} {rest As st0 : List Value} {own C host : String} {ret ret' : Option FieldType} {y : MethodName} {rm : Room} {b : Nat}
theorem iw_of (hE : KK l G s) (hW : Wd G z s.heap H locs) : ∀ U : State, U.heap = H → s.WarmedH U.vm → IW l G z U := fun U hU hw =>
  ⟨hW.ow hU, by rw [hU]; exact Nat.le_trans hW.2.2.2 hW.2.2.1.1, hE.warm hw (fun q h1 h2 => by rw [hU]; exact hW.2.2.1.2.1 q h1 h2)⟩
theorem iw_blind {As : List Value} : FrameBlind (va_Pc As (IW l G z)) := fun _ _ _ _ h => ⟨h.1, h.2.1, h.2.2.1, h.2.2.2.same rfl rfl⟩
/-- the words of a call by invokevirtual, whatever the room -/
def LkV (s : State) (args : Array Value) (own C : String) (index : Nat) (y : MethodName) (cc : ByteArray) (nL : Nat) (ret : Option FieldType) (n : Nat) : Prop :=
  (y.cls ≠ "java/lang/invoke/MethodHandle" ∧ y.cls ≠ "java/lang/invoke/VarHandle" ∧ (parseMethodDescriptor y.desc).map (fun d => d.parameters.length) = some n) ∧ (Cond.methodLink own index y).before args s = true ∧ (Cond.instanceMethod y).before args s = true ∧ (Cond.selects C y y).before args s = true ∧ (Cond.initialized y.cls).before args s = true ∧ ∀ (a' : Array Value) (U : State), s.WarmedH U.vm → (Cond.code y cc nL ret).before a' U = true
def LkS (s : State) (args : Array Value) (own : String) (index : Nat) (y : MethodName) (cc : ByteArray) (nL : Nat) (ret : Option FieldType) (n : Nat) : Prop :=
  (y.cls ≠ "java/lang/invoke/MethodHandle" ∧ y.cls ≠ "java/lang/invoke/VarHandle" ∧ (parseMethodDescriptor y.desc).map (fun d => d.parameters.length) = some n) ∧ (Cond.methodLink own index y).before args s = true ∧ (Cond.static y).before args s = true ∧ (Cond.initialized y.cls).before args s = true ∧ ∀ (a' : Array Value) (U : State), s.WarmedH U.vm → (Cond.code y cc nL ret).before a' U = true
def LkSN (s : State) (args : Array Value) (own host : String) (index : Nat) (y : MethodName) (cc : ByteArray) (nL : Nat) (ret : Option FieldType) (n : Nat) : Prop :=
  (y.cls ≠ "java/lang/invoke/MethodHandle" ∧ y.cls ≠ "java/lang/invoke/VarHandle" ∧ (parseMethodDescriptor y.desc).map (fun d => d.parameters.length) = some n) ∧ (Cond.methodLinkNest own index y host).before args s = true ∧ (Cond.static y).before args s = true ∧ (Cond.initialized y.cls).before args s = true ∧ ∀ (a' : Array Value) (U : State), s.WarmedH U.vm → (Cond.code y cc nL ret).before a' U = true
theorem lk_len {y : MethodName} (h : (parseMethodDescriptor y.desc).map (fun d => d.parameters.length) = some n) : ∀ sig, parseMethodDescriptor y.desc = some sig → n = sig.parameters.length := by
  intro sig h2
  rw [h2] at h
  exact (Option.some.inj h).symm
theorem yV {Qc : Array Value → State → Outcome → State → Prop} (E : En p l s m meth c args cc nL own ret G) (hM : Met l y [Cond.code y cc' nL' ret'] rm (va_Pc (.ref b :: As) (IW l G z)) Qc 0 0 (fr G)) (cw : LkV s args own C index y cc' nL' ret' n)
    (hrv : ∃ cellB : Cell, H[b]? = some cellB ∧ cellB.vm.isStatics = false ∧ s.vm.findClass C = some cellB.cls) (hR : rm.cells = 0 ∧ rm.slots = 0 ∧ rm.frames + 1 ≤ R.frames ∧ 8 + (nL' + 11) + rm.locals ≤ R.locals) (hW : Wd G z s.heap H locs) (hsz : ls.size = nL) (hn : As.length = n) (hst : st0 = As.reverse ++ .ref b :: rest) (hw8 : Nat.ble ((rest.map fun v => v.category).sum) 8 = true) (hdg : decode cc pc = .ok (.invokevirtual index, 3)) :
    va_Run p l e R s m args below meth c H locs 0 0 0 0 (F0 m pc ls st0) rest (Qc (Value.ref b :: As).toArray) (fr G) := by
  obtain ⟨hx, hb, hml, hown, -, -, -, hE⟩ := E
  obtain ⟨⟨c1, c2, c3⟩, c4, c5, c6, c7, c8⟩ := cw
  refine va_runV (Ts := []) (own := own) (n := n) ⟨hx, hb, hml, hown, fun _ h => nomatch h⟩ hM ⟨⟨hR.1, hR.2.1, hR.2.2.1, hR.2.2.2, ?_, List.mem_cons_self, c8 _ _ (State.WarmedH.refl s), c7, ⟨c1, c2⟩, lk_len c3, c4⟩, c5, c6⟩ ⟨iw_blind, hrv, fun U hU hw => ⟨rfl, iw_of hE hW U hU hw⟩⟩ rfl hn hsz hst (lv_room (Nat.le_of_ble_eq_true hw8)) hdg ⟨Nat.zero_le _, Nat.zero_le _⟩
  intro w hw a' U hU
  rw [List.mem_singleton.mp hw]
  exact c8 a' U hU
theorem yS {Qc : Array Value → State → Outcome → State → Prop} (E : En p l s m meth c args cc nL own ret G) (hM : Met l y [Cond.code y cc' nL' ret'] rm (va_Pc As (IW l G z)) Qc 0 0 (fr G)) (cw : LkS s args own index y cc' nL' ret' n)
    (hR : rm.cells = 0 ∧ rm.slots = 0 ∧ rm.frames + 1 ≤ R.frames ∧ 8 + (nL' + 11) + rm.locals ≤ R.locals) (hW : Wd G z s.heap H locs) (hsz : ls.size = nL) (hn : As.length = n) (hst : st0 = As.reverse ++ rest) (hw8 : Nat.ble ((rest.map fun v => v.category).sum) 8 = true) (hdg : decode cc pc = .ok (.invokestatic index, 3)) :
    va_Run p l e R s m args below meth c H locs 0 0 0 0 (F0 m pc ls st0) rest (Qc As.toArray) (fr G) := by
  obtain ⟨hx, hb, hml, hown, -, -, -, hE⟩ := E
  obtain ⟨⟨c1, c2, c3⟩, c4, c5, c7, c8⟩ := cw
  refine va_runS (Ts := []) (own := own) (n := n) ⟨hx, hb, hml, hown, fun _ h => nomatch h⟩ hM ⟨⟨hR.1, hR.2.1, hR.2.2.1, hR.2.2.2, ?_, List.mem_cons_self, c8 _ _ (State.WarmedH.refl s), c7, ⟨c1, c2⟩, lk_len c3, c4⟩, c5⟩ ⟨iw_blind, fun U hU hw => ⟨rfl, iw_of hE hW U hU hw⟩⟩ rfl hn hsz hst (lv_room (Nat.le_of_ble_eq_true hw8)) hdg ⟨Nat.zero_le _, Nat.zero_le _⟩
  intro w hw a' U hU
  rw [List.mem_singleton.mp hw]
  exact c8 a' U hU
theorem ySN {Qc : Array Value → State → Outcome → State → Prop} (E : En p l s m meth c args cc nL own ret G) (hM : Met l y [Cond.code y cc' nL' ret'] rm (va_Pc As (IW l G z)) Qc 0 0 (fr G)) (cw : LkSN s args own host index y cc' nL' ret' n)
    (hR : rm.cells = 0 ∧ rm.slots = 0 ∧ rm.frames + 1 ≤ R.frames ∧ 8 + (nL' + 11) + rm.locals ≤ R.locals) (hW : Wd G z s.heap H locs) (hsz : ls.size = nL) (hn : As.length = n) (hst : st0 = As.reverse ++ rest) (hw8 : Nat.ble ((rest.map fun v => v.category).sum) 8 = true) (hdg : decode cc pc = .ok (.invokestatic index, 3)) :
    va_Run p l e R s m args below meth c H locs 0 0 0 0 (F0 m pc ls st0) rest (Qc As.toArray) (fr G) := by
  obtain ⟨hx, hb, hml, hown, -, -, -, hE⟩ := E
  obtain ⟨⟨c1, c2, c3⟩, c4, c5, c7, c8⟩ := cw
  refine va_runSN (Ts := []) (own := own) (host := host) (n := n) ⟨hx, hb, hml, hown, fun _ h => nomatch h⟩ hM ⟨⟨⟨hR.1, hR.2.1, hR.2.2.1, hR.2.2.2, ?_, List.mem_cons_self⟩, c8 _ _ (State.WarmedH.refl s), c7, ⟨c1, c2⟩, lk_len c3, c4⟩, c5, trivial⟩ ⟨iw_blind, fun U hU hw => ⟨rfl, iw_of hE hW U hU hw⟩⟩ rfl hn hsz hst (lv_room (Nat.le_of_ble_eq_true hw8)) hdg ⟨Nat.zero_le _, Nat.zero_le _⟩
  intro w hw a' U hU
  rw [List.mem_singleton.mp hw]
  exact c8 a' U hU
theorem yc_v {Q1 : St → Prop} {a : Array Value} (hr : va_Run p l e R s m args below meth c H locs 0 0 0 0 (F0 m pc ls st0) rest (QvR Q1 G a) (fr G)) (hW : Wd G z s.heap H locs) (kk : ∀ (z' : St) (H : Heap) (locs : List Loc), Q1 z' → Wd G z' s.heap H locs → W p l e R s m args below meth c H locs 0 0 Qg (F0 m (pc + 3) ls rest)) : W p l e R s m args below meth c H locs 0 0 Qg (F0 m pc ls st0) :=
  va_callv hr hW.2.2.1 (fun _ _ h => h) (fun _ h => h) (fun u t H1 locs1 ht _ hq hB _ _ hS => kk u H1 locs1 hq ⟨by rw [← ht]; exact hB.1, hB.2, hS, hW.2.2.2⟩)
theorem yc_i {Q1 : Int32 → St → Prop} {a : Array Value} (hr : va_Run p l e R s m args below meth c H locs 0 0 0 0 (F0 m pc ls st0) rest (QiR Q1 G a) (fr G)) (hW : Wd G z s.heap H locs) (kk : ∀ (r : Int32) (z' : St) (H : Heap) (locs : List Loc), Q1 r z' → Wd G z' s.heap H locs → W p l e R s m args below meth c H locs 0 0 Qg (F0 m (pc + 3) ls (.int r :: rest))) : W p l e R s m args below meth c H locs 0 0 Qg (F0 m pc ls st0) :=
  va_calli hr hW.2.2.1 (fun _ _ h => h) (fun _ h => h) (fun r u t H1 locs1 ht _ hq hB _ _ hS => kk r u H1 locs1 hq ⟨by rw [← ht]; exact hB.1, hB.2, hS, hW.2.2.2⟩)
theorem yc_l {Q1 : Int64 → St → Prop} {a : Array Value} (hr : va_Run p l e R s m args below meth c H locs 0 0 0 0 (F0 m pc ls st0) rest (QlR Q1 G a) (fr G)) (hW : Wd G z s.heap H locs) (kk : ∀ (r : Int64) (z' : St) (H : Heap) (locs : List Loc), Q1 r z' → Wd G z' s.heap H locs → W p l e R s m args below meth c H locs 0 0 Qg (F0 m (pc + 3) ls (.long r :: rest))) : W p l e R s m args below meth c H locs 0 0 Qg (F0 m pc ls st0) :=
  va_calll hr hW.2.2.1 (fun _ _ h => h) (fun _ h => h) (fun r u t H1 locs1 ht _ hq hB _ _ hS => kk r u H1 locs1 hq ⟨by rw [← ht]; exact hB.1, hB.2, hS, hW.2.2.2⟩)
/-- a cell of the world is an object of its class -/
theorem yrecv (hE : KK l G s) (hW : Wd G z s.heap H locs) {cN ci n : Nat} {T : u_T} {fs : List Value} (hc : cN < 50) (he : ce G cN (z.1 cN) (z.2 cN) = .inr (ci, fs)) (hcl : vcl[ci]? = some (C, T, n)) : ∃ cellB : Cell, H[ha G cN]? = some cellB ∧ cellB.vm.isStatics = false ∧ s.vm.findClass C = some cellB.cls := by
  obtain ⟨r, h1, cell, q1, q2, q3, q4⟩ := hW.1 cN (ha G cN, .inr (ci, fs)) (by rw [wcs_at G z hc, he])
  cases Option.some.inj (h1.symm.trans hcl)
  obtain ⟨hS, hfc, -⟩ := hE.1.1 ci _ hcl
  exact ⟨cell, q1, by rw [q3]; rfl, by rw [q2]; exact hfc⟩
end Calls9
end
section
/-! Reads and writes of every field and array of the world. Printed by wip/whole/emit.py. -/
section Fields
variable {p : Program} {l : Launch} {e : Env} {R : Room} {s : State} {m : MethodId} {args : Array Value} {below : List Frame} {meth : Method} {c : Code} {H : Heap} {locs : List Loc} {cells slots : Nat} {Qg : State → Prop} {G : GG} {z : St} {cc : ByteArray} {pc index : Nat} {ls : Array Slot} {rest : List Value} {own host : String}
theorem ly_O : ∀ w ∈ u_ws R_O F_O 12, w ∈ lyt := by intro w h; unfold lyt; simp only [List.mem_append]; simp only [h, true_or, or_true]
theorem ly_P : ∀ w ∈ u_ws R_P F_P 6, w ∈ lyt := by intro w h; unfold lyt; simp only [List.mem_append]; simp only [h, true_or, or_true]
theorem ly_Q : ∀ w ∈ u_ws R_Q F_Q 2, w ∈ lyt := by intro w h; unfold lyt; simp only [List.mem_append]; simp only [h, true_or, or_true]
theorem ly_T : ∀ w ∈ u_ws R_T F_T 13, w ∈ lyt := by intro w h; unfold lyt; simp only [List.mem_append]; simp only [h, true_or, or_true]
theorem ly_R : ∀ w ∈ u_ws R_R F_R 2, w ∈ lyt := by intro w h; unfold lyt; simp only [List.mem_append]; simp only [h, true_or, or_true]
theorem ly_C : ∀ w ∈ u_ws R_C F_C 6, w ∈ lyt := by intro w h; unfold lyt; simp only [List.mem_append]; simp only [h, true_or, or_true]
theorem ly_D : ∀ w ∈ u_ws R_D F_D 8, w ∈ lyt := by intro w h; unfold lyt; simp only [List.mem_append]; simp only [h, true_or, or_true]
theorem ly_S : ∀ w ∈ u_ws R_S F_S 9, w ∈ lyt := by intro w h; unfold lyt; simp only [List.mem_append]; simp only [h, true_or, or_true]
theorem ly_M : ∀ w ∈ u_ws R_M F_M 35, w ∈ lyt := by intro w h; unfold lyt; simp only [List.mem_append]; simp only [h, true_or, or_true]
theorem ygf_0_0 (hx : p.tables.exec = Jvm.exec) (hb : c.code = cc) (hown : s.vm.findClass own = some m.cls) (hE : KK l G s) (hW : Wd G z s.heap H locs) (hlink : (Cond.fieldLink own index "PanelOffice" "pool" "LPanelOffice$Pool;").before args s = true) (hdg : decode cc pc = .ok (.getfield index, 3)) (kk : W p l e R s m args below meth c H locs cells slots Qg (F0 m (pc + 3) ls (.ref (ha G 1) :: rest))) : W p l e R s m args below meth c H locs cells slots Qg (F0 m pc ls (.ref (ha G 0) :: rest)) :=
  yget hx hb hown hE hW (T := F_O) (k := 0) (by decide) rfl rfl ly_O (by decide) hlink rfl hdg kk
theorem ygf_0_1 (hx : p.tables.exec = Jvm.exec) (hb : c.code = cc) (hown : s.vm.findClass own = some m.cls) (hE : KK l G s) (hW : Wd G z s.heap H locs) (hlink : (Cond.fieldLink own index "PanelOffice" "quotas" "LPanelOffice$Quotas;").before args s = true) (hdg : decode cc pc = .ok (.getfield index, 3)) (kk : W p l e R s m args below meth c H locs cells slots Qg (F0 m (pc + 3) ls (.ref (ha G 6) :: rest))) : W p l e R s m args below meth c H locs cells slots Qg (F0 m pc ls (.ref (ha G 0) :: rest)) :=
  yget hx hb hown hE hW (T := F_O) (k := 1) (by decide) rfl rfl ly_O (by decide) hlink rfl hdg kk
theorem ygf_0_2 (hx : p.tables.exec = Jvm.exec) (hb : c.code = cc) (hown : s.vm.findClass own = some m.cls) (hE : KK l G s) (hW : Wd G z s.heap H locs) (hlink : (Cond.fieldLink own index "PanelOffice" "tally" "LPanelOffice$Tally;").before args s = true) (hdg : decode cc pc = .ok (.getfield index, 3)) (kk : W p l e R s m args below meth c H locs cells slots Qg (F0 m (pc + 3) ls (.ref (ha G 9) :: rest))) : W p l e R s m args below meth c H locs cells slots Qg (F0 m pc ls (.ref (ha G 0) :: rest)) :=
  yget hx hb hown hE hW (T := F_O) (k := 2) (by decide) rfl rfl ly_O (by decide) hlink rfl hdg kk
theorem ygf_0_3 (hx : p.tables.exec = Jvm.exec) (hb : c.code = cc) (hown : s.vm.findClass own = some m.cls) (hE : KK l G s) (hW : Wd G z s.heap H locs) (hlink : (Cond.fieldLink own index "PanelOffice" "ranking" "LPanelOffice$Ranking;").before args s = true) (hdg : decode cc pc = .ok (.getfield index, 3)) (kk : W p l e R s m args below meth c H locs cells slots Qg (F0 m (pc + 3) ls (.ref (ha G 19) :: rest))) : W p l e R s m args below meth c H locs cells slots Qg (F0 m pc ls (.ref (ha G 0) :: rest)) :=
  yget hx hb hown hE hW (T := F_O) (k := 3) (by decide) rfl rfl ly_O (by decide) hlink rfl hdg kk
theorem ygf_0_4 (hx : p.tables.exec = Jvm.exec) (hb : c.code = cc) (hown : s.vm.findClass own = some m.cls) (hE : KK l G s) (hW : Wd G z s.heap H locs) (hlink : (Cond.fieldLink own index "PanelOffice" "clash" "LPanelOffice$Clash;").before args s = true) (hdg : decode cc pc = .ok (.getfield index, 3)) (kk : W p l e R s m args below meth c H locs cells slots Qg (F0 m (pc + 3) ls (.ref (ha G 20) :: rest))) : W p l e R s m args below meth c H locs cells slots Qg (F0 m pc ls (.ref (ha G 0) :: rest)) :=
  yget hx hb hown hE hW (T := F_O) (k := 4) (by decide) rfl rfl ly_O (by decide) hlink rfl hdg kk
theorem ygf_0_5 (hx : p.tables.exec = Jvm.exec) (hb : c.code = cc) (hown : s.vm.findClass own = some m.cls) (hE : KK l G s) (hW : Wd G z s.heap H locs) (hlink : (Cond.fieldLink own index "PanelOffice" "dice" "LPanelOffice$Dice;").before args s = true) (hdg : decode cc pc = .ok (.getfield index, 3)) (kk : W p l e R s m args below meth c H locs cells slots Qg (F0 m (pc + 3) ls (.ref (ha G 25) :: rest))) : W p l e R s m args below meth c H locs cells slots Qg (F0 m pc ls (.ref (ha G 0) :: rest)) :=
  yget hx hb hown hE hW (T := F_O) (k := 5) (by decide) rfl rfl ly_O (by decide) hlink rfl hdg kk
theorem ygf_0_6 (hx : p.tables.exec = Jvm.exec) (hb : c.code = cc) (hown : s.vm.findClass own = some m.cls) (hE : KK l G s) (hW : Wd G z s.heap H locs) (hlink : (Cond.fieldLink own index "PanelOffice" "seats" "LPanelOffice$Seats;").before args s = true) (hdg : decode cc pc = .ok (.getfield index, 3)) (kk : W p l e R s m args below meth c H locs cells slots Qg (F0 m (pc + 3) ls (.ref (ha G 26) :: rest))) : W p l e R s m args below meth c H locs cells slots Qg (F0 m pc ls (.ref (ha G 0) :: rest)) :=
  yget hx hb hown hE hW (T := F_O) (k := 6) (by decide) rfl rfl ly_O (by decide) hlink rfl hdg kk
theorem ygf_0_7 (hx : p.tables.exec = Jvm.exec) (hb : c.code = cc) (hown : s.vm.findClass own = some m.cls) (hE : KK l G s) (hW : Wd G z s.heap H locs) (hlink : (Cond.fieldLink own index "PanelOffice" "told" "[I").before args s = true) (hdg : decode cc pc = .ok (.getfield index, 3)) (kk : W p l e R s m args below meth c H locs cells slots Qg (F0 m (pc + 3) ls (.ref (ha G 30) :: rest))) : W p l e R s m args below meth c H locs cells slots Qg (F0 m pc ls (.ref (ha G 0) :: rest)) :=
  yget hx hb hown hE hW (T := F_O) (k := 7) (by decide) rfl rfl ly_O (by decide) hlink rfl hdg kk
theorem ygf_0_8 (hx : p.tables.exec = Jvm.exec) (hb : c.code = cc) (hown : s.vm.findClass own = some m.cls) (hE : KK l G s) (hW : Wd G z s.heap H locs) (hlink : (Cond.fieldLink own index "PanelOffice" "size" "I").before args s = true) (hdg : decode cc pc = .ok (.getfield index, 3)) (kk : W p l e R s m args below meth c H locs cells slots Qg (F0 m (pc + 3) ls (.int (z.1 0 8) :: rest))) : W p l e R s m args below meth c H locs cells slots Qg (F0 m pc ls (.ref (ha G 0) :: rest)) :=
  yget hx hb hown hE hW (T := F_O) (k := 8) (by decide) rfl rfl ly_O (by decide) hlink rfl hdg kk
theorem ygf_0_9 (hx : p.tables.exec = Jvm.exec) (hb : c.code = cc) (hown : s.vm.findClass own = some m.cls) (hE : KK l G s) (hW : Wd G z s.heap H locs) (hlink : (Cond.fieldLink own index "PanelOffice" "marks" "J").before args s = true) (hdg : decode cc pc = .ok (.getfield index, 3)) (kk : W p l e R s m args below meth c H locs cells slots Qg (F0 m (pc + 3) ls (.long (z.2 0 9) :: rest))) : W p l e R s m args below meth c H locs cells slots Qg (F0 m pc ls (.ref (ha G 0) :: rest)) :=
  yget hx hb hown hE hW (T := F_O) (k := 9) (by decide) rfl rfl ly_O (by decide) hlink rfl hdg kk
theorem ygf_0_10 (hx : p.tables.exec = Jvm.exec) (hb : c.code = cc) (hown : s.vm.findClass own = some m.cls) (hE : KK l G s) (hW : Wd G z s.heap H locs) (hlink : (Cond.fieldLink own index "PanelOffice" "tallyIsFresh" "Z").before args s = true) (hdg : decode cc pc = .ok (.getfield index, 3)) (kk : W p l e R s m args below meth c H locs cells slots Qg (F0 m (pc + 3) ls (.int (z.1 0 10) :: rest))) : W p l e R s m args below meth c H locs cells slots Qg (F0 m pc ls (.ref (ha G 0) :: rest)) :=
  yget hx hb hown hE hW (T := F_O) (k := 10) (by decide) rfl rfl ly_O (by decide) hlink rfl hdg kk
theorem ygf_0_11 (hx : p.tables.exec = Jvm.exec) (hb : c.code = cc) (hown : s.vm.findClass own = some m.cls) (hE : KK l G s) (hW : Wd G z s.heap H locs) (hlink : (Cond.fieldLink own index "PanelOffice" "clashIsFresh" "Z").before args s = true) (hdg : decode cc pc = .ok (.getfield index, 3)) (kk : W p l e R s m args below meth c H locs cells slots Qg (F0 m (pc + 3) ls (.int (z.1 0 11) :: rest))) : W p l e R s m args below meth c H locs cells slots Qg (F0 m pc ls (.ref (ha G 0) :: rest)) :=
  yget hx hb hown hE hW (T := F_O) (k := 11) (by decide) rfl rfl ly_O (by decide) hlink rfl hdg kk
theorem ygf_1_0 (hx : p.tables.exec = Jvm.exec) (hb : c.code = cc) (hown : s.vm.findClass own = some m.cls) (hE : KK l G s) (hW : Wd G z s.heap H locs) (hlink : (Cond.fieldLink own index "PanelOffice$Pool" "values" "[I").before args s = true) (hdg : decode cc pc = .ok (.getfield index, 3)) (kk : W p l e R s m args below meth c H locs cells slots Qg (F0 m (pc + 3) ls (.ref (ha G 2) :: rest))) : W p l e R s m args below meth c H locs cells slots Qg (F0 m pc ls (.ref (ha G 1) :: rest)) :=
  yget hx hb hown hE hW (T := F_P) (k := 0) (by decide) rfl rfl ly_P (by decide) hlink rfl hdg kk
theorem ygf_1_1 (hx : p.tables.exec = Jvm.exec) (hb : c.code = cc) (hown : s.vm.findClass own = some m.cls) (hE : KK l G s) (hW : Wd G z s.heap H locs) (hlink : (Cond.fieldLink own index "PanelOffice$Pool" "codes" "[I").before args s = true) (hdg : decode cc pc = .ok (.getfield index, 3)) (kk : W p l e R s m args below meth c H locs cells slots Qg (F0 m (pc + 3) ls (.ref (ha G 3) :: rest))) : W p l e R s m args below meth c H locs cells slots Qg (F0 m pc ls (.ref (ha G 1) :: rest)) :=
  yget hx hb hown hE hW (T := F_P) (k := 1) (by decide) rfl rfl ly_P (by decide) hlink rfl hdg kk
theorem ygf_1_2 (hx : p.tables.exec = Jvm.exec) (hb : c.code = cc) (hown : s.vm.findClass own = some m.cls) (hE : KK l G s) (hW : Wd G z s.heap H locs) (hlink : (Cond.fieldLink own index "PanelOffice$Pool" "kindCodes" "[I").before args s = true) (hdg : decode cc pc = .ok (.getfield index, 3)) (kk : W p l e R s m args below meth c H locs cells slots Qg (F0 m (pc + 3) ls (.ref (ha G 4) :: rest))) : W p l e R s m args below meth c H locs cells slots Qg (F0 m pc ls (.ref (ha G 1) :: rest)) :=
  yget hx hb hown hE hW (T := F_P) (k := 2) (by decide) rfl rfl ly_P (by decide) hlink rfl hdg kk
theorem ygf_1_3 (hx : p.tables.exec = Jvm.exec) (hb : c.code = cc) (hown : s.vm.findClass own = some m.cls) (hE : KK l G s) (hW : Wd G z s.heap H locs) (hlink : (Cond.fieldLink own index "PanelOffice$Pool" "kindSizes" "[I").before args s = true) (hdg : decode cc pc = .ok (.getfield index, 3)) (kk : W p l e R s m args below meth c H locs cells slots Qg (F0 m (pc + 3) ls (.ref (ha G 5) :: rest))) : W p l e R s m args below meth c H locs cells slots Qg (F0 m pc ls (.ref (ha G 1) :: rest)) :=
  yget hx hb hown hE hW (T := F_P) (k := 3) (by decide) rfl rfl ly_P (by decide) hlink rfl hdg kk
theorem ygf_1_4 (hx : p.tables.exec = Jvm.exec) (hb : c.code = cc) (hown : s.vm.findClass own = some m.cls) (hE : KK l G s) (hW : Wd G z s.heap H locs) (hlink : (Cond.fieldLink own index "PanelOffice$Pool" "persons" "I").before args s = true) (hdg : decode cc pc = .ok (.getfield index, 3)) (kk : W p l e R s m args below meth c H locs cells slots Qg (F0 m (pc + 3) ls (.int (z.1 1 4) :: rest))) : W p l e R s m args below meth c H locs cells slots Qg (F0 m pc ls (.ref (ha G 1) :: rest)) :=
  yget hx hb hown hE hW (T := F_P) (k := 4) (by decide) rfl rfl ly_P (by decide) hlink rfl hdg kk
theorem ygf_1_5 (hx : p.tables.exec = Jvm.exec) (hb : c.code = cc) (hown : s.vm.findClass own = some m.cls) (hE : KK l G s) (hW : Wd G z s.heap H locs) (hlink : (Cond.fieldLink own index "PanelOffice$Pool" "kinds" "I").before args s = true) (hdg : decode cc pc = .ok (.getfield index, 3)) (kk : W p l e R s m args below meth c H locs cells slots Qg (F0 m (pc + 3) ls (.int (z.1 1 5) :: rest))) : W p l e R s m args below meth c H locs cells slots Qg (F0 m pc ls (.ref (ha G 1) :: rest)) :=
  yget hx hb hown hE hW (T := F_P) (k := 5) (by decide) rfl rfl ly_P (by decide) hlink rfl hdg kk
theorem ygf_6_0 (hx : p.tables.exec = Jvm.exec) (hb : c.code = cc) (hown : s.vm.findClass own = some m.cls) (hE : KK l G s) (hW : Wd G z s.heap H locs) (hlink : (Cond.fieldLink own index "PanelOffice$Quotas" "least" "[I").before args s = true) (hdg : decode cc pc = .ok (.getfield index, 3)) (kk : W p l e R s m args below meth c H locs cells slots Qg (F0 m (pc + 3) ls (.ref (ha G 7) :: rest))) : W p l e R s m args below meth c H locs cells slots Qg (F0 m pc ls (.ref (ha G 6) :: rest)) :=
  yget hx hb hown hE hW (T := F_Q) (k := 0) (by decide) rfl rfl ly_Q (by decide) hlink rfl hdg kk
theorem ygf_6_1 (hx : p.tables.exec = Jvm.exec) (hb : c.code = cc) (hown : s.vm.findClass own = some m.cls) (hE : KK l G s) (hW : Wd G z s.heap H locs) (hlink : (Cond.fieldLink own index "PanelOffice$Quotas" "most" "[I").before args s = true) (hdg : decode cc pc = .ok (.getfield index, 3)) (kk : W p l e R s m args below meth c H locs cells slots Qg (F0 m (pc + 3) ls (.ref (ha G 8) :: rest))) : W p l e R s m args below meth c H locs cells slots Qg (F0 m pc ls (.ref (ha G 6) :: rest)) :=
  yget hx hb hown hE hW (T := F_Q) (k := 1) (by decide) rfl rfl ly_Q (by decide) hlink rfl hdg kk
theorem ygf_9_0 (hx : p.tables.exec = Jvm.exec) (hb : c.code = cc) (hown : s.vm.findClass own = some m.cls) (hE : KK l G s) (hW : Wd G z s.heap H locs) (hlink : (Cond.fieldLink own index "PanelOffice$Tally" "pool" "LPanelOffice$Pool;").before args s = true) (hdg : decode cc pc = .ok (.getfield index, 3)) (kk : W p l e R s m args below meth c H locs cells slots Qg (F0 m (pc + 3) ls (.ref (ha G 1) :: rest))) : W p l e R s m args below meth c H locs cells slots Qg (F0 m pc ls (.ref (ha G 9) :: rest)) :=
  yget hx hb hown hE hW (T := F_T) (k := 0) (by decide) rfl rfl ly_T (by decide) hlink rfl hdg kk
theorem ygf_9_1 (hx : p.tables.exec = Jvm.exec) (hb : c.code = cc) (hown : s.vm.findClass own = some m.cls) (hE : KK l G s) (hW : Wd G z s.heap H locs) (hlink : (Cond.fieldLink own index "PanelOffice$Tally" "rows" "[J").before args s = true) (hdg : decode cc pc = .ok (.getfield index, 3)) (kk : W p l e R s m args below meth c H locs cells slots Qg (F0 m (pc + 3) ls (.ref (ha G 10) :: rest))) : W p l e R s m args below meth c H locs cells slots Qg (F0 m pc ls (.ref (ha G 9) :: rest)) :=
  yget hx hb hown hE hW (T := F_T) (k := 1) (by decide) rfl rfl ly_T (by decide) hlink rfl hdg kk
theorem ygf_9_2 (hx : p.tables.exec = Jvm.exec) (hb : c.code = cc) (hown : s.vm.findClass own = some m.cls) (hE : KK l G s) (hW : Wd G z s.heap H locs) (hlink : (Cond.fieldLink own index "PanelOffice$Tally" "takes" "[I").before args s = true) (hdg : decode cc pc = .ok (.getfield index, 3)) (kk : W p l e R s m args below meth c H locs cells slots Qg (F0 m (pc + 3) ls (.ref (ha G 11) :: rest))) : W p l e R s m args below meth c H locs cells slots Qg (F0 m pc ls (.ref (ha G 9) :: rest)) :=
  yget hx hb hown hE hW (T := F_T) (k := 2) (by decide) rfl rfl ly_T (by decide) hlink rfl hdg kk
theorem ygf_9_3 (hx : p.tables.exec = Jvm.exec) (hb : c.code = cc) (hown : s.vm.findClass own = some m.cls) (hE : KK l G s) (hW : Wd G z s.heap H locs) (hlink : (Cond.fieldLink own index "PanelOffice$Tally" "stay" "[I").before args s = true) (hdg : decode cc pc = .ok (.getfield index, 3)) (kk : W p l e R s m args below meth c H locs cells slots Qg (F0 m (pc + 3) ls (.ref (ha G 12) :: rest))) : W p l e R s m args below meth c H locs cells slots Qg (F0 m pc ls (.ref (ha G 9) :: rest)) :=
  yget hx hb hown hE hW (T := F_T) (k := 3) (by decide) rfl rfl ly_T (by decide) hlink rfl hdg kk
theorem ygf_9_4 (hx : p.tables.exec = Jvm.exec) (hb : c.code = cc) (hown : s.vm.findClass own = some m.cls) (hE : KK l G s) (hW : Wd G z s.heap H locs) (hlink : (Cond.fieldLink own index "PanelOffice$Tally" "more" "[I").before args s = true) (hdg : decode cc pc = .ok (.getfield index, 3)) (kk : W p l e R s m args below meth c H locs cells slots Qg (F0 m (pc + 3) ls (.ref (ha G 13) :: rest))) : W p l e R s m args below meth c H locs cells slots Qg (F0 m pc ls (.ref (ha G 9) :: rest)) :=
  yget hx hb hown hE hW (T := F_T) (k := 4) (by decide) rfl rfl ly_T (by decide) hlink rfl hdg kk
theorem ygf_9_5 (hx : p.tables.exec = Jvm.exec) (hb : c.code = cc) (hown : s.vm.findClass own = some m.cls) (hE : KK l G s) (hW : Wd G z s.heap H locs) (hlink : (Cond.fieldLink own index "PanelOffice$Tally" "ahead" "[J").before args s = true) (hdg : decode cc pc = .ok (.getfield index, 3)) (kk : W p l e R s m args below meth c H locs cells slots Qg (F0 m (pc + 3) ls (.ref (ha G 14) :: rest))) : W p l e R s m args below meth c H locs cells slots Qg (F0 m pc ls (.ref (ha G 9) :: rest)) :=
  yget hx hb hown hE hW (T := F_T) (k := 5) (by decide) rfl rfl ly_T (by decide) hlink rfl hdg kk
theorem ygf_9_6 (hx : p.tables.exec = Jvm.exec) (hb : c.code = cc) (hown : s.vm.findClass own = some m.cls) (hE : KK l G s) (hW : Wd G z s.heap H locs) (hlink : (Cond.fieldLink own index "PanelOffice$Tally" "behind" "[J").before args s = true) (hdg : decode cc pc = .ok (.getfield index, 3)) (kk : W p l e R s m args below meth c H locs cells slots Qg (F0 m (pc + 3) ls (.ref (ha G 15) :: rest))) : W p l e R s m args below meth c H locs cells slots Qg (F0 m pc ls (.ref (ha G 9) :: rest)) :=
  yget hx hb hown hE hW (T := F_T) (k := 6) (by decide) rfl rfl ly_T (by decide) hlink rfl hdg kk
theorem ygf_9_7 (hx : p.tables.exec = Jvm.exec) (hb : c.code = cc) (hown : s.vm.findClass own = some m.cls) (hE : KK l G s) (hW : Wd G z s.heap H locs) (hlink : (Cond.fieldLink own index "PanelOffice$Tally" "slots" "[I").before args s = true) (hdg : decode cc pc = .ok (.getfield index, 3)) (kk : W p l e R s m args below meth c H locs cells slots Qg (F0 m (pc + 3) ls (.ref (ha G 16) :: rest))) : W p l e R s m args below meth c H locs cells slots Qg (F0 m pc ls (.ref (ha G 9) :: rest)) :=
  yget hx hb hown hE hW (T := F_T) (k := 7) (by decide) rfl rfl ly_T (by decide) hlink rfl hdg kk
theorem ygf_9_8 (hx : p.tables.exec = Jvm.exec) (hb : c.code = cc) (hown : s.vm.findClass own = some m.cls) (hE : KK l G s) (hW : Wd G z s.heap H locs) (hlink : (Cond.fieldLink own index "PanelOffice$Tally" "layers" "[I").before args s = true) (hdg : decode cc pc = .ok (.getfield index, 3)) (kk : W p l e R s m args below meth c H locs cells slots Qg (F0 m (pc + 3) ls (.ref (ha G 17) :: rest))) : W p l e R s m args below meth c H locs cells slots Qg (F0 m pc ls (.ref (ha G 9) :: rest)) :=
  yget hx hb hown hE hW (T := F_T) (k := 8) (by decide) rfl rfl ly_T (by decide) hlink rfl hdg kk
theorem ygf_9_9 (hx : p.tables.exec = Jvm.exec) (hb : c.code = cc) (hown : s.vm.findClass own = some m.cls) (hE : KK l G s) (hW : Wd G z s.heap H locs) (hlink : (Cond.fieldLink own index "PanelOffice$Tally" "chooses" "[I").before args s = true) (hdg : decode cc pc = .ok (.getfield index, 3)) (kk : W p l e R s m args below meth c H locs cells slots Qg (F0 m (pc + 3) ls (.ref (ha G 18) :: rest))) : W p l e R s m args below meth c H locs cells slots Qg (F0 m pc ls (.ref (ha G 9) :: rest)) :=
  yget hx hb hown hE hW (T := F_T) (k := 9) (by decide) rfl rfl ly_T (by decide) hlink rfl hdg kk
theorem ygf_9_10 (hx : p.tables.exec = Jvm.exec) (hb : c.code = cc) (hown : s.vm.findClass own = some m.cls) (hE : KK l G s) (hW : Wd G z s.heap H locs) (hlink : (Cond.fieldLink own index "PanelOffice$Tally" "found" "I").before args s = true) (hdg : decode cc pc = .ok (.getfield index, 3)) (kk : W p l e R s m args below meth c H locs cells slots Qg (F0 m (pc + 3) ls (.int (z.1 9 10) :: rest))) : W p l e R s m args below meth c H locs cells slots Qg (F0 m pc ls (.ref (ha G 9) :: rest)) :=
  yget hx hb hown hE hW (T := F_T) (k := 10) (by decide) rfl rfl ly_T (by decide) hlink rfl hdg kk
theorem ygf_9_11 (hx : p.tables.exec = Jvm.exec) (hb : c.code = cc) (hown : s.vm.findClass own = some m.cls) (hE : KK l G s) (hW : Wd G z s.heap H locs) (hlink : (Cond.fieldLink own index "PanelOffice$Tally" "refused" "Z").before args s = true) (hdg : decode cc pc = .ok (.getfield index, 3)) (kk : W p l e R s m args below meth c H locs cells slots Qg (F0 m (pc + 3) ls (.int (z.1 9 11) :: rest))) : W p l e R s m args below meth c H locs cells slots Qg (F0 m pc ls (.ref (ha G 9) :: rest)) :=
  yget hx hb hown hE hW (T := F_T) (k := 11) (by decide) rfl rfl ly_T (by decide) hlink rfl hdg kk
theorem ygf_9_12 (hx : p.tables.exec = Jvm.exec) (hb : c.code = cc) (hown : s.vm.findClass own = some m.cls) (hE : KK l G s) (hW : Wd G z s.heap H locs) (hlink : (Cond.fieldLink own index "PanelOffice$Tally" "behindIsFresh" "Z").before args s = true) (hdg : decode cc pc = .ok (.getfield index, 3)) (kk : W p l e R s m args below meth c H locs cells slots Qg (F0 m (pc + 3) ls (.int (z.1 9 12) :: rest))) : W p l e R s m args below meth c H locs cells slots Qg (F0 m pc ls (.ref (ha G 9) :: rest)) :=
  yget hx hb hown hE hW (T := F_T) (k := 12) (by decide) rfl rfl ly_T (by decide) hlink rfl hdg kk
theorem ygf_19_0 (hx : p.tables.exec = Jvm.exec) (hb : c.code = cc) (hown : s.vm.findClass own = some m.cls) (hE : KK l G s) (hW : Wd G z s.heap H locs) (hlink : (Cond.fieldLink own index "PanelOffice$Ranking" "pool" "LPanelOffice$Pool;").before args s = true) (hdg : decode cc pc = .ok (.getfield index, 3)) (kk : W p l e R s m args below meth c H locs cells slots Qg (F0 m (pc + 3) ls (.ref (ha G 1) :: rest))) : W p l e R s m args below meth c H locs cells slots Qg (F0 m pc ls (.ref (ha G 19) :: rest)) :=
  yget hx hb hown hE hW (T := F_R) (k := 0) (by decide) rfl rfl ly_R (by decide) hlink rfl hdg kk
theorem ygf_19_1 (hx : p.tables.exec = Jvm.exec) (hb : c.code = cc) (hown : s.vm.findClass own = some m.cls) (hE : KK l G s) (hW : Wd G z s.heap H locs) (hlink : (Cond.fieldLink own index "PanelOffice$Ranking" "tally" "LPanelOffice$Tally;").before args s = true) (hdg : decode cc pc = .ok (.getfield index, 3)) (kk : W p l e R s m args below meth c H locs cells slots Qg (F0 m (pc + 3) ls (.ref (ha G 9) :: rest))) : W p l e R s m args below meth c H locs cells slots Qg (F0 m pc ls (.ref (ha G 19) :: rest)) :=
  yget hx hb hown hE hW (T := F_R) (k := 1) (by decide) rfl rfl ly_R (by decide) hlink rfl hdg kk
theorem ygf_20_0 (hx : p.tables.exec = Jvm.exec) (hb : c.code = cc) (hown : s.vm.findClass own = some m.cls) (hE : KK l G s) (hW : Wd G z s.heap H locs) (hlink : (Cond.fieldLink own index "PanelOffice$Clash" "pool" "LPanelOffice$Pool;").before args s = true) (hdg : decode cc pc = .ok (.getfield index, 3)) (kk : W p l e R s m args below meth c H locs cells slots Qg (F0 m (pc + 3) ls (.ref (ha G 1) :: rest))) : W p l e R s m args below meth c H locs cells slots Qg (F0 m pc ls (.ref (ha G 20) :: rest)) :=
  yget hx hb hown hE hW (T := F_C) (k := 0) (by decide) rfl rfl ly_C (by decide) hlink rfl hdg kk
theorem ygf_20_1 (hx : p.tables.exec = Jvm.exec) (hb : c.code = cc) (hown : s.vm.findClass own = some m.cls) (hE : KK l G s) (hW : Wd G z s.heap H locs) (hlink : (Cond.fieldLink own index "PanelOffice$Clash" "tally" "LPanelOffice$Tally;").before args s = true) (hdg : decode cc pc = .ok (.getfield index, 3)) (kk : W p l e R s m args below meth c H locs cells slots Qg (F0 m (pc + 3) ls (.ref (ha G 9) :: rest))) : W p l e R s m args below meth c H locs cells slots Qg (F0 m pc ls (.ref (ha G 20) :: rest)) :=
  yget hx hb hown hE hW (T := F_C) (k := 1) (by decide) rfl rfl ly_C (by decide) hlink rfl hdg kk
theorem ygf_20_2 (hx : p.tables.exec = Jvm.exec) (hb : c.code = cc) (hown : s.vm.findClass own = some m.cls) (hE : KK l G s) (hW : Wd G z s.heap H locs) (hlink : (Cond.fieldLink own index "PanelOffice$Clash" "trial" "LPanelOffice$Quotas;").before args s = true) (hdg : decode cc pc = .ok (.getfield index, 3)) (kk : W p l e R s m args below meth c H locs cells slots Qg (F0 m (pc + 3) ls (.ref (ha G 21) :: rest))) : W p l e R s m args below meth c H locs cells slots Qg (F0 m pc ls (.ref (ha G 20) :: rest)) :=
  yget hx hb hown hE hW (T := F_C) (k := 2) (by decide) rfl rfl ly_C (by decide) hlink rfl hdg kk
theorem ygf_20_3 (hx : p.tables.exec = Jvm.exec) (hb : c.code = cc) (hown : s.vm.findClass own = some m.cls) (hE : KK l G s) (hW : Wd G z s.heap H locs) (hlink : (Cond.fieldLink own index "PanelOffice$Clash" "names" "[I").before args s = true) (hdg : decode cc pc = .ok (.getfield index, 3)) (kk : W p l e R s m args below meth c H locs cells slots Qg (F0 m (pc + 3) ls (.ref (ha G 24) :: rest))) : W p l e R s m args below meth c H locs cells slots Qg (F0 m pc ls (.ref (ha G 20) :: rest)) :=
  yget hx hb hown hE hW (T := F_C) (k := 3) (by decide) rfl rfl ly_C (by decide) hlink rfl hdg kk
theorem ygf_20_4 (hx : p.tables.exec = Jvm.exec) (hb : c.code = cc) (hown : s.vm.findClass own = some m.cls) (hE : KK l G s) (hW : Wd G z s.heap H locs) (hlink : (Cond.fieldLink own index "PanelOffice$Clash" "found" "I").before args s = true) (hdg : decode cc pc = .ok (.getfield index, 3)) (kk : W p l e R s m args below meth c H locs cells slots Qg (F0 m (pc + 3) ls (.int (z.1 20 4) :: rest))) : W p l e R s m args below meth c H locs cells slots Qg (F0 m pc ls (.ref (ha G 20) :: rest)) :=
  yget hx hb hown hE hW (T := F_C) (k := 4) (by decide) rfl rfl ly_C (by decide) hlink rfl hdg kk
theorem ygf_20_5 (hx : p.tables.exec = Jvm.exec) (hb : c.code = cc) (hown : s.vm.findClass own = some m.cls) (hE : KK l G s) (hW : Wd G z s.heap H locs) (hlink : (Cond.fieldLink own index "PanelOffice$Clash" "refused" "Z").before args s = true) (hdg : decode cc pc = .ok (.getfield index, 3)) (kk : W p l e R s m args below meth c H locs cells slots Qg (F0 m (pc + 3) ls (.int (z.1 20 5) :: rest))) : W p l e R s m args below meth c H locs cells slots Qg (F0 m pc ls (.ref (ha G 20) :: rest)) :=
  yget hx hb hown hE hW (T := F_C) (k := 5) (by decide) rfl rfl ly_C (by decide) hlink rfl hdg kk
theorem ygf_21_0 (hx : p.tables.exec = Jvm.exec) (hb : c.code = cc) (hown : s.vm.findClass own = some m.cls) (hE : KK l G s) (hW : Wd G z s.heap H locs) (hlink : (Cond.fieldLink own index "PanelOffice$Quotas" "least" "[I").before args s = true) (hdg : decode cc pc = .ok (.getfield index, 3)) (kk : W p l e R s m args below meth c H locs cells slots Qg (F0 m (pc + 3) ls (.ref (ha G 22) :: rest))) : W p l e R s m args below meth c H locs cells slots Qg (F0 m pc ls (.ref (ha G 21) :: rest)) :=
  yget hx hb hown hE hW (T := F_Q) (k := 0) (by decide) rfl rfl ly_Q (by decide) hlink rfl hdg kk
theorem ygf_21_1 (hx : p.tables.exec = Jvm.exec) (hb : c.code = cc) (hown : s.vm.findClass own = some m.cls) (hE : KK l G s) (hW : Wd G z s.heap H locs) (hlink : (Cond.fieldLink own index "PanelOffice$Quotas" "most" "[I").before args s = true) (hdg : decode cc pc = .ok (.getfield index, 3)) (kk : W p l e R s m args below meth c H locs cells slots Qg (F0 m (pc + 3) ls (.ref (ha G 23) :: rest))) : W p l e R s m args below meth c H locs cells slots Qg (F0 m pc ls (.ref (ha G 21) :: rest)) :=
  yget hx hb hown hE hW (T := F_Q) (k := 1) (by decide) rfl rfl ly_Q (by decide) hlink rfl hdg kk
theorem ygf_25_0 (hx : p.tables.exec = Jvm.exec) (hb : c.code = cc) (hown : s.vm.findClass own = some m.cls) (hE : KK l G s) (hW : Wd G z s.heap H locs) (hlink : (Cond.fieldLink own index "PanelOffice$Dice" "begun" "Z").before args s = true) (hdg : decode cc pc = .ok (.getfield index, 3)) (kk : W p l e R s m args below meth c H locs cells slots Qg (F0 m (pc + 3) ls (.int (z.1 25 0) :: rest))) : W p l e R s m args below meth c H locs cells slots Qg (F0 m pc ls (.ref (ha G 25) :: rest)) :=
  yget hx hb hown hE hW (T := F_D) (k := 0) (by decide) rfl rfl ly_D (by decide) hlink rfl hdg kk
theorem ygf_25_1 (hx : p.tables.exec = Jvm.exec) (hb : c.code = cc) (hown : s.vm.findClass own = some m.cls) (hE : KK l G s) (hW : Wd G z s.heap H locs) (hlink : (Cond.fieldLink own index "PanelOffice$Dice" "done" "Z").before args s = true) (hdg : decode cc pc = .ok (.getfield index, 3)) (kk : W p l e R s m args below meth c H locs cells slots Qg (F0 m (pc + 3) ls (.int (z.1 25 1) :: rest))) : W p l e R s m args below meth c H locs cells slots Qg (F0 m pc ls (.ref (ha G 25) :: rest)) :=
  yget hx hb hown hE hW (T := F_D) (k := 1) (by decide) rfl rfl ly_D (by decide) hlink rfl hdg kk
theorem ygf_25_2 (hx : p.tables.exec = Jvm.exec) (hb : c.code = cc) (hown : s.vm.findClass own = some m.cls) (hE : KK l G s) (hW : Wd G z s.heap H locs) (hlink : (Cond.fieldLink own index "PanelOffice$Dice" "sides" "I").before args s = true) (hdg : decode cc pc = .ok (.getfield index, 3)) (kk : W p l e R s m args below meth c H locs cells slots Qg (F0 m (pc + 3) ls (.int (z.1 25 2) :: rest))) : W p l e R s m args below meth c H locs cells slots Qg (F0 m pc ls (.ref (ha G 25) :: rest)) :=
  yget hx hb hown hE hW (T := F_D) (k := 2) (by decide) rfl rfl ly_D (by decide) hlink rfl hdg kk
theorem ygf_25_3 (hx : p.tables.exec = Jvm.exec) (hb : c.code = cc) (hown : s.vm.findClass own = some m.cls) (hE : KK l G s) (hW : Wd G z s.heap H locs) (hlink : (Cond.fieldLink own index "PanelOffice$Dice" "goal" "J").before args s = true) (hdg : decode cc pc = .ok (.getfield index, 3)) (kk : W p l e R s m args below meth c H locs cells slots Qg (F0 m (pc + 3) ls (.long (z.2 25 3) :: rest))) : W p l e R s m args below meth c H locs cells slots Qg (F0 m pc ls (.ref (ha G 25) :: rest)) :=
  yget hx hb hown hE hW (T := F_D) (k := 3) (by decide) rfl rfl ly_D (by decide) hlink rfl hdg kk
theorem ygf_25_4 (hx : p.tables.exec = Jvm.exec) (hb : c.code = cc) (hown : s.vm.findClass own = some m.cls) (hE : KK l G s) (hW : Wd G z s.heap H locs) (hlink : (Cond.fieldLink own index "PanelOffice$Dice" "outcomes" "J").before args s = true) (hdg : decode cc pc = .ok (.getfield index, 3)) (kk : W p l e R s m args below meth c H locs cells slots Qg (F0 m (pc + 3) ls (.long (z.2 25 4) :: rest))) : W p l e R s m args below meth c H locs cells slots Qg (F0 m pc ls (.ref (ha G 25) :: rest)) :=
  yget hx hb hown hE hW (T := F_D) (k := 4) (by decide) rfl rfl ly_D (by decide) hlink rfl hdg kk
theorem ygf_25_5 (hx : p.tables.exec = Jvm.exec) (hb : c.code = cc) (hown : s.vm.findClass own = some m.cls) (hE : KK l G s) (hW : Wd G z s.heap H locs) (hlink : (Cond.fieldLink own index "PanelOffice$Dice" "needed" "I").before args s = true) (hdg : decode cc pc = .ok (.getfield index, 3)) (kk : W p l e R s m args below meth c H locs cells slots Qg (F0 m (pc + 3) ls (.int (z.1 25 5) :: rest))) : W p l e R s m args below meth c H locs cells slots Qg (F0 m pc ls (.ref (ha G 25) :: rest)) :=
  yget hx hb hown hE hW (T := F_D) (k := 5) (by decide) rfl rfl ly_D (by decide) hlink rfl hdg kk
theorem ygf_25_6 (hx : p.tables.exec = Jvm.exec) (hb : c.code = cc) (hown : s.vm.findClass own = some m.cls) (hE : KK l G s) (hW : Wd G z s.heap H locs) (hlink : (Cond.fieldLink own index "PanelOffice$Dice" "thrown" "I").before args s = true) (hdg : decode cc pc = .ok (.getfield index, 3)) (kk : W p l e R s m args below meth c H locs cells slots Qg (F0 m (pc + 3) ls (.int (z.1 25 6) :: rest))) : W p l e R s m args below meth c H locs cells slots Qg (F0 m pc ls (.ref (ha G 25) :: rest)) :=
  yget hx hb hown hE hW (T := F_D) (k := 6) (by decide) rfl rfl ly_D (by decide) hlink rfl hdg kk
theorem ygf_25_7 (hx : p.tables.exec = Jvm.exec) (hb : c.code = cc) (hown : s.vm.findClass own = some m.cls) (hE : KK l G s) (hW : Wd G z s.heap H locs) (hlink : (Cond.fieldLink own index "PanelOffice$Dice" "value" "J").before args s = true) (hdg : decode cc pc = .ok (.getfield index, 3)) (kk : W p l e R s m args below meth c H locs cells slots Qg (F0 m (pc + 3) ls (.long (z.2 25 7) :: rest))) : W p l e R s m args below meth c H locs cells slots Qg (F0 m pc ls (.ref (ha G 25) :: rest)) :=
  yget hx hb hown hE hW (T := F_D) (k := 7) (by decide) rfl rfl ly_D (by decide) hlink rfl hdg kk
theorem ygf_26_0 (hx : p.tables.exec = Jvm.exec) (hb : c.code = cc) (hown : s.vm.findClass own = some m.cls) (hE : KK l G s) (hW : Wd G z s.heap H locs) (hlink : (Cond.fieldLink own index "PanelOffice$Seats" "pool" "LPanelOffice$Pool;").before args s = true) (hdg : decode cc pc = .ok (.getfield index, 3)) (kk : W p l e R s m args below meth c H locs cells slots Qg (F0 m (pc + 3) ls (.ref (ha G 1) :: rest))) : W p l e R s m args below meth c H locs cells slots Qg (F0 m pc ls (.ref (ha G 26) :: rest)) :=
  yget hx hb hown hE hW (T := F_S) (k := 0) (by decide) rfl rfl ly_S (by decide) hlink rfl hdg kk
theorem ygf_26_1 (hx : p.tables.exec = Jvm.exec) (hb : c.code = cc) (hown : s.vm.findClass own = some m.cls) (hE : KK l G s) (hW : Wd G z s.heap H locs) (hlink : (Cond.fieldLink own index "PanelOffice$Seats" "quotas" "LPanelOffice$Quotas;").before args s = true) (hdg : decode cc pc = .ok (.getfield index, 3)) (kk : W p l e R s m args below meth c H locs cells slots Qg (F0 m (pc + 3) ls (.ref (ha G 6) :: rest))) : W p l e R s m args below meth c H locs cells slots Qg (F0 m pc ls (.ref (ha G 26) :: rest)) :=
  yget hx hb hown hE hW (T := F_S) (k := 1) (by decide) rfl rfl ly_S (by decide) hlink rfl hdg kk
theorem ygf_26_2 (hx : p.tables.exec = Jvm.exec) (hb : c.code = cc) (hown : s.vm.findClass own = some m.cls) (hE : KK l G s) (hW : Wd G z s.heap H locs) (hlink : (Cond.fieldLink own index "PanelOffice$Seats" "members" "[I").before args s = true) (hdg : decode cc pc = .ok (.getfield index, 3)) (kk : W p l e R s m args below meth c H locs cells slots Qg (F0 m (pc + 3) ls (.ref (ha G 27) :: rest))) : W p l e R s m args below meth c H locs cells slots Qg (F0 m pc ls (.ref (ha G 26) :: rest)) :=
  yget hx hb hown hE hW (T := F_S) (k := 2) (by decide) rfl rfl ly_S (by decide) hlink rfl hdg kk
theorem ygf_26_3 (hx : p.tables.exec = Jvm.exec) (hb : c.code = cc) (hown : s.vm.findClass own = some m.cls) (hE : KK l G s) (hW : Wd G z s.heap H locs) (hlink : (Cond.fieldLink own index "PanelOffice$Seats" "numbers" "[I").before args s = true) (hdg : decode cc pc = .ok (.getfield index, 3)) (kk : W p l e R s m args below meth c H locs cells slots Qg (F0 m (pc + 3) ls (.ref (ha G 28) :: rest))) : W p l e R s m args below meth c H locs cells slots Qg (F0 m pc ls (.ref (ha G 26) :: rest)) :=
  yget hx hb hown hE hW (T := F_S) (k := 3) (by decide) rfl rfl ly_S (by decide) hlink rfl hdg kk
theorem ygf_26_4 (hx : p.tables.exec = Jvm.exec) (hb : c.code = cc) (hown : s.vm.findClass own = some m.cls) (hE : KK l G s) (hW : Wd G z s.heap H locs) (hlink : (Cond.fieldLink own index "PanelOffice$Seats" "candidates" "[I").before args s = true) (hdg : decode cc pc = .ok (.getfield index, 3)) (kk : W p l e R s m args below meth c H locs cells slots Qg (F0 m (pc + 3) ls (.ref (ha G 29) :: rest))) : W p l e R s m args below meth c H locs cells slots Qg (F0 m pc ls (.ref (ha G 26) :: rest)) :=
  yget hx hb hown hE hW (T := F_S) (k := 4) (by decide) rfl rfl ly_S (by decide) hlink rfl hdg kk
theorem ygf_26_5 (hx : p.tables.exec = Jvm.exec) (hb : c.code = cc) (hown : s.vm.findClass own = some m.cls) (hE : KK l G s) (hW : Wd G z s.heap H locs) (hlink : (Cond.fieldLink own index "PanelOffice$Seats" "places" "I").before args s = true) (hdg : decode cc pc = .ok (.getfield index, 3)) (kk : W p l e R s m args below meth c H locs cells slots Qg (F0 m (pc + 3) ls (.int (z.1 26 5) :: rest))) : W p l e R s m args below meth c H locs cells slots Qg (F0 m pc ls (.ref (ha G 26) :: rest)) :=
  yget hx hb hown hE hW (T := F_S) (k := 5) (by decide) rfl rfl ly_S (by decide) hlink rfl hdg kk
theorem ygf_26_6 (hx : p.tables.exec = Jvm.exec) (hb : c.code = cc) (hown : s.vm.findClass own = some m.cls) (hE : KK l G s) (hW : Wd G z s.heap H locs) (hlink : (Cond.fieldLink own index "PanelOffice$Seats" "seated" "J").before args s = true) (hdg : decode cc pc = .ok (.getfield index, 3)) (kk : W p l e R s m args below meth c H locs cells slots Qg (F0 m (pc + 3) ls (.long (z.2 26 6) :: rest))) : W p l e R s m args below meth c H locs cells slots Qg (F0 m pc ls (.ref (ha G 26) :: rest)) :=
  yget hx hb hown hE hW (T := F_S) (k := 6) (by decide) rfl rfl ly_S (by decide) hlink rfl hdg kk
theorem ygf_26_7 (hx : p.tables.exec = Jvm.exec) (hb : c.code = cc) (hown : s.vm.findClass own = some m.cls) (hE : KK l G s) (hW : Wd G z s.heap H locs) (hlink : (Cond.fieldLink own index "PanelOffice$Seats" "gone" "J").before args s = true) (hdg : decode cc pc = .ok (.getfield index, 3)) (kk : W p l e R s m args below meth c H locs cells slots Qg (F0 m (pc + 3) ls (.long (z.2 26 7) :: rest))) : W p l e R s m args below meth c H locs cells slots Qg (F0 m pc ls (.ref (ha G 26) :: rest)) :=
  yget hx hb hown hE hW (T := F_S) (k := 7) (by decide) rfl rfl ly_S (by decide) hlink rfl hdg kk
theorem ygf_26_8 (hx : p.tables.exec = Jvm.exec) (hb : c.code = cc) (hown : s.vm.findClass own = some m.cls) (hE : KK l G s) (hW : Wd G z s.heap H locs) (hlink : (Cond.fieldLink own index "PanelOffice$Seats" "emptyPlace" "I").before args s = true) (hdg : decode cc pc = .ok (.getfield index, 3)) (kk : W p l e R s m args below meth c H locs cells slots Qg (F0 m (pc + 3) ls (.int (z.1 26 8) :: rest))) : W p l e R s m args below meth c H locs cells slots Qg (F0 m pc ls (.ref (ha G 26) :: rest)) :=
  yget hx hb hown hE hW (T := F_S) (k := 8) (by decide) rfl rfl ly_S (by decide) hlink rfl hdg kk
theorem ygf_31_0 (hx : p.tables.exec = Jvm.exec) (hb : c.code = cc) (hown : s.vm.findClass own = some m.cls) (hE : KK l G s) (hW : Wd G z s.heap H locs) (hlink : (Cond.fieldLink own index "PanelOfficeModel" "code" "I").before args s = true) (hdg : decode cc pc = .ok (.getfield index, 3)) (kk : W p l e R s m args below meth c H locs cells slots Qg (F0 m (pc + 3) ls (.int (z.1 31 0) :: rest))) : W p l e R s m args below meth c H locs cells slots Qg (F0 m pc ls (.ref (ha G 31) :: rest)) :=
  yget hx hb hown hE hW (T := F_M) (k := 0) (by decide) rfl rfl ly_M (by decide) hlink rfl hdg kk
theorem ygf_31_1 (hx : p.tables.exec = Jvm.exec) (hb : c.code = cc) (hown : s.vm.findClass own = some m.cls) (hE : KK l G s) (hW : Wd G z s.heap H locs) (hlink : (Cond.fieldLink own index "PanelOfficeModel" "persons" "I").before args s = true) (hdg : decode cc pc = .ok (.getfield index, 3)) (kk : W p l e R s m args below meth c H locs cells slots Qg (F0 m (pc + 3) ls (.int (z.1 31 1) :: rest))) : W p l e R s m args below meth c H locs cells slots Qg (F0 m pc ls (.ref (ha G 31) :: rest)) :=
  yget hx hb hown hE hW (T := F_M) (k := 1) (by decide) rfl rfl ly_M (by decide) hlink rfl hdg kk
theorem ygf_31_2 (hx : p.tables.exec = Jvm.exec) (hb : c.code = cc) (hown : s.vm.findClass own = some m.cls) (hE : KK l G s) (hW : Wd G z s.heap H locs) (hlink : (Cond.fieldLink own index "PanelOfficeModel" "value" "[I").before args s = true) (hdg : decode cc pc = .ok (.getfield index, 3)) (kk : W p l e R s m args below meth c H locs cells slots Qg (F0 m (pc + 3) ls (.ref (ha G 32) :: rest))) : W p l e R s m args below meth c H locs cells slots Qg (F0 m pc ls (.ref (ha G 31) :: rest)) :=
  yget hx hb hown hE hW (T := F_M) (k := 2) (by decide) rfl rfl ly_M (by decide) hlink rfl hdg kk
theorem ygf_31_3 (hx : p.tables.exec = Jvm.exec) (hb : c.code = cc) (hown : s.vm.findClass own = some m.cls) (hE : KK l G s) (hW : Wd G z s.heap H locs) (hlink : (Cond.fieldLink own index "PanelOfficeModel" "marked" "[Z").before args s = true) (hdg : decode cc pc = .ok (.getfield index, 3)) (kk : W p l e R s m args below meth c H locs cells slots Qg (F0 m (pc + 3) ls (.ref (ha G 33) :: rest))) : W p l e R s m args below meth c H locs cells slots Qg (F0 m pc ls (.ref (ha G 31) :: rest)) :=
  yget hx hb hown hE hW (T := F_M) (k := 3) (by decide) rfl rfl ly_M (by decide) hlink rfl hdg kk
theorem ygf_31_4 (hx : p.tables.exec = Jvm.exec) (hb : c.code = cc) (hown : s.vm.findClass own = some m.cls) (hE : KK l G s) (hW : Wd G z s.heap H locs) (hlink : (Cond.fieldLink own index "PanelOfficeModel" "values" "[I").before args s = true) (hdg : decode cc pc = .ok (.getfield index, 3)) (kk : W p l e R s m args below meth c H locs cells slots Qg (F0 m (pc + 3) ls (.ref (ha G 34) :: rest))) : W p l e R s m args below meth c H locs cells slots Qg (F0 m pc ls (.ref (ha G 31) :: rest)) :=
  yget hx hb hown hE hW (T := F_M) (k := 4) (by decide) rfl rfl ly_M (by decide) hlink rfl hdg kk
theorem ygf_31_5 (hx : p.tables.exec = Jvm.exec) (hb : c.code = cc) (hown : s.vm.findClass own = some m.cls) (hE : KK l G s) (hW : Wd G z s.heap H locs) (hlink : (Cond.fieldLink own index "PanelOfficeModel" "least" "[I").before args s = true) (hdg : decode cc pc = .ok (.getfield index, 3)) (kk : W p l e R s m args below meth c H locs cells slots Qg (F0 m (pc + 3) ls (.ref (ha G 35) :: rest))) : W p l e R s m args below meth c H locs cells slots Qg (F0 m pc ls (.ref (ha G 31) :: rest)) :=
  yget hx hb hown hE hW (T := F_M) (k := 5) (by decide) rfl rfl ly_M (by decide) hlink rfl hdg kk
theorem ygf_31_6 (hx : p.tables.exec = Jvm.exec) (hb : c.code = cc) (hown : s.vm.findClass own = some m.cls) (hE : KK l G s) (hW : Wd G z s.heap H locs) (hlink : (Cond.fieldLink own index "PanelOfficeModel" "most" "[I").before args s = true) (hdg : decode cc pc = .ok (.getfield index, 3)) (kk : W p l e R s m args below meth c H locs cells slots Qg (F0 m (pc + 3) ls (.ref (ha G 36) :: rest))) : W p l e R s m args below meth c H locs cells slots Qg (F0 m pc ls (.ref (ha G 31) :: rest)) :=
  yget hx hb hown hE hW (T := F_M) (k := 6) (by decide) rfl rfl ly_M (by decide) hlink rfl hdg kk
theorem ygf_31_7 (hx : p.tables.exec = Jvm.exec) (hb : c.code = cc) (hown : s.vm.findClass own = some m.cls) (hE : KK l G s) (hW : Wd G z s.heap H locs) (hlink : (Cond.fieldLink own index "PanelOfficeModel" "size" "I").before args s = true) (hdg : decode cc pc = .ok (.getfield index, 3)) (kk : W p l e R s m args below meth c H locs cells slots Qg (F0 m (pc + 3) ls (.int (z.1 31 7) :: rest))) : W p l e R s m args below meth c H locs cells slots Qg (F0 m pc ls (.ref (ha G 31) :: rest)) :=
  yget hx hb hown hE hW (T := F_M) (k := 7) (by decide) rfl rfl ly_M (by decide) hlink rfl hdg kk
theorem ygf_31_8 (hx : p.tables.exec = Jvm.exec) (hb : c.code = cc) (hown : s.vm.findClass own = some m.cls) (hE : KK l G s) (hW : Wd G z s.heap H locs) (hlink : (Cond.fieldLink own index "PanelOfficeModel" "kinds" "I").before args s = true) (hdg : decode cc pc = .ok (.getfield index, 3)) (kk : W p l e R s m args below meth c H locs cells slots Qg (F0 m (pc + 3) ls (.int (z.1 31 8) :: rest))) : W p l e R s m args below meth c H locs cells slots Qg (F0 m pc ls (.ref (ha G 31) :: rest)) :=
  yget hx hb hown hE hW (T := F_M) (k := 8) (by decide) rfl rfl ly_M (by decide) hlink rfl hdg kk
theorem ygf_31_9 (hx : p.tables.exec = Jvm.exec) (hb : c.code = cc) (hown : s.vm.findClass own = some m.cls) (hE : KK l G s) (hW : Wd G z s.heap H locs) (hlink : (Cond.fieldLink own index "PanelOfficeModel" "kindIs" "[I").before args s = true) (hdg : decode cc pc = .ok (.getfield index, 3)) (kk : W p l e R s m args below meth c H locs cells slots Qg (F0 m (pc + 3) ls (.ref (ha G 37) :: rest))) : W p l e R s m args below meth c H locs cells slots Qg (F0 m pc ls (.ref (ha G 31) :: rest)) :=
  yget hx hb hown hE hW (T := F_M) (k := 9) (by decide) rfl rfl ly_M (by decide) hlink rfl hdg kk
theorem ygf_31_10 (hx : p.tables.exec = Jvm.exec) (hb : c.code = cc) (hown : s.vm.findClass own = some m.cls) (hE : KK l G s) (hW : Wd G z s.heap H locs) (hlink : (Cond.fieldLink own index "PanelOfficeModel" "kindHas" "[I").before args s = true) (hdg : decode cc pc = .ok (.getfield index, 3)) (kk : W p l e R s m args below meth c H locs cells slots Qg (F0 m (pc + 3) ls (.ref (ha G 38) :: rest))) : W p l e R s m args below meth c H locs cells slots Qg (F0 m pc ls (.ref (ha G 31) :: rest)) :=
  yget hx hb hown hE hW (T := F_M) (k := 10) (by decide) rfl rfl ly_M (by decide) hlink rfl hdg kk
theorem ygf_31_11 (hx : p.tables.exec = Jvm.exec) (hb : c.code = cc) (hown : s.vm.findClass own = some m.cls) (hE : KK l G s) (hW : Wd G z s.heap H locs) (hlink : (Cond.fieldLink own index "PanelOfficeModel" "known" "Z").before args s = true) (hdg : decode cc pc = .ok (.getfield index, 3)) (kk : W p l e R s m args below meth c H locs cells slots Qg (F0 m (pc + 3) ls (.int (z.1 31 11) :: rest))) : W p l e R s m args below meth c H locs cells slots Qg (F0 m pc ls (.ref (ha G 31) :: rest)) :=
  yget hx hb hown hE hW (T := F_M) (k := 11) (by decide) rfl rfl ly_M (by decide) hlink rfl hdg kk
theorem ygf_31_12 (hx : p.tables.exec = Jvm.exec) (hb : c.code = cc) (hown : s.vm.findClass own = some m.cls) (hE : KK l G s) (hW : Wd G z s.heap H locs) (hlink : (Cond.fieldLink own index "PanelOfficeModel" "tooMany" "Z").before args s = true) (hdg : decode cc pc = .ok (.getfield index, 3)) (kk : W p l e R s m args below meth c H locs cells slots Qg (F0 m (pc + 3) ls (.int (z.1 31 12) :: rest))) : W p l e R s m args below meth c H locs cells slots Qg (F0 m pc ls (.ref (ha G 31) :: rest)) :=
  yget hx hb hown hE hW (T := F_M) (k := 12) (by decide) rfl rfl ly_M (by decide) hlink rfl hdg kk
theorem ygf_31_13 (hx : p.tables.exec = Jvm.exec) (hb : c.code = cc) (hown : s.vm.findClass own = some m.cls) (hE : KK l G s) (hW : Wd G z s.heap H locs) (hlink : (Cond.fieldLink own index "PanelOfficeModel" "states" "I").before args s = true) (hdg : decode cc pc = .ok (.getfield index, 3)) (kk : W p l e R s m args below meth c H locs cells slots Qg (F0 m (pc + 3) ls (.int (z.1 31 13) :: rest))) : W p l e R s m args below meth c H locs cells slots Qg (F0 m pc ls (.ref (ha G 31) :: rest)) :=
  yget hx hb hown hE hW (T := F_M) (k := 13) (by decide) rfl rfl ly_M (by decide) hlink rfl hdg kk
theorem ygf_31_14 (hx : p.tables.exec = Jvm.exec) (hb : c.code = cc) (hown : s.vm.findClass own = some m.cls) (hE : KK l G s) (hW : Wd G z s.heap H locs) (hlink : (Cond.fieldLink own index "PanelOfficeModel" "begins" "[I").before args s = true) (hdg : decode cc pc = .ok (.getfield index, 3)) (kk : W p l e R s m args below meth c H locs cells slots Qg (F0 m (pc + 3) ls (.ref (ha G 39) :: rest))) : W p l e R s m args below meth c H locs cells slots Qg (F0 m pc ls (.ref (ha G 31) :: rest)) :=
  yget hx hb hown hE hW (T := F_M) (k := 14) (by decide) rfl rfl ly_M (by decide) hlink rfl hdg kk
theorem ygf_31_15 (hx : p.tables.exec = Jvm.exec) (hb : c.code = cc) (hown : s.vm.findClass own = some m.cls) (hE : KK l G s) (hW : Wd G z s.heap H locs) (hlink : (Cond.fieldLink own index "PanelOfficeModel" "counts" "[J").before args s = true) (hdg : decode cc pc = .ok (.getfield index, 3)) (kk : W p l e R s m args below meth c H locs cells slots Qg (F0 m (pc + 3) ls (.ref (ha G 40) :: rest))) : W p l e R s m args below meth c H locs cells slots Qg (F0 m pc ls (.ref (ha G 31) :: rest)) :=
  yget hx hb hown hE hW (T := F_M) (k := 15) (by decide) rfl rfl ly_M (by decide) hlink rfl hdg kk
theorem ygf_31_16 (hx : p.tables.exec = Jvm.exec) (hb : c.code = cc) (hown : s.vm.findClass own = some m.cls) (hE : KK l G s) (hW : Wd G z s.heap H locs) (hlink : (Cond.fieldLink own index "PanelOfficeModel" "ways" "[J").before args s = true) (hdg : decode cc pc = .ok (.getfield index, 3)) (kk : W p l e R s m args below meth c H locs cells slots Qg (F0 m (pc + 3) ls (.ref (ha G 41) :: rest))) : W p l e R s m args below meth c H locs cells slots Qg (F0 m pc ls (.ref (ha G 31) :: rest)) :=
  yget hx hb hown hE hW (T := F_M) (k := 16) (by decide) rfl rfl ly_M (by decide) hlink rfl hdg kk
theorem ygf_31_17 (hx : p.tables.exec = Jvm.exec) (hb : c.code = cc) (hown : s.vm.findClass own = some m.cls) (hE : KK l G s) (hW : Wd G z s.heap H locs) (hlink : (Cond.fieldLink own index "PanelOfficeModel" "chain" "[I").before args s = true) (hdg : decode cc pc = .ok (.getfield index, 3)) (kk : W p l e R s m args below meth c H locs cells slots Qg (F0 m (pc + 3) ls (.ref (ha G 42) :: rest))) : W p l e R s m args below meth c H locs cells slots Qg (F0 m pc ls (.ref (ha G 31) :: rest)) :=
  yget hx hb hown hE hW (T := F_M) (k := 17) (by decide) rfl rfl ly_M (by decide) hlink rfl hdg kk
theorem ygf_31_18 (hx : p.tables.exec = Jvm.exec) (hb : c.code = cc) (hown : s.vm.findClass own = some m.cls) (hE : KK l G s) (hW : Wd G z s.heap H locs) (hlink : (Cond.fieldLink own index "PanelOfficeModel" "heads" "[I").before args s = true) (hdg : decode cc pc = .ok (.getfield index, 3)) (kk : W p l e R s m args below meth c H locs cells slots Qg (F0 m (pc + 3) ls (.ref (ha G 43) :: rest))) : W p l e R s m args below meth c H locs cells slots Qg (F0 m pc ls (.ref (ha G 31) :: rest)) :=
  yget hx hb hown hE hW (T := F_M) (k := 18) (by decide) rfl rfl ly_M (by decide) hlink rfl hdg kk
theorem ygf_31_19 (hx : p.tables.exec = Jvm.exec) (hb : c.code = cc) (hown : s.vm.findClass own = some m.cls) (hE : KK l G s) (hW : Wd G z s.heap H locs) (hlink : (Cond.fieldLink own index "PanelOfficeModel" "drawn" "Z").before args s = true) (hdg : decode cc pc = .ok (.getfield index, 3)) (kk : W p l e R s m args below meth c H locs cells slots Qg (F0 m (pc + 3) ls (.int (z.1 31 19) :: rest))) : W p l e R s m args below meth c H locs cells slots Qg (F0 m pc ls (.ref (ha G 31) :: rest)) :=
  yget hx hb hown hE hW (T := F_M) (k := 19) (by decide) rfl rfl ly_M (by decide) hlink rfl hdg kk
theorem ygf_31_20 (hx : p.tables.exec = Jvm.exec) (hb : c.code = cc) (hown : s.vm.findClass own = some m.cls) (hE : KK l G s) (hW : Wd G z s.heap H locs) (hlink : (Cond.fieldLink own index "PanelOfficeModel" "member" "[I").before args s = true) (hdg : decode cc pc = .ok (.getfield index, 3)) (kk : W p l e R s m args below meth c H locs cells slots Qg (F0 m (pc + 3) ls (.ref (ha G 44) :: rest))) : W p l e R s m args below meth c H locs cells slots Qg (F0 m pc ls (.ref (ha G 31) :: rest)) :=
  yget hx hb hown hE hW (T := F_M) (k := 20) (by decide) rfl rfl ly_M (by decide) hlink rfl hdg kk
theorem ygf_31_21 (hx : p.tables.exec = Jvm.exec) (hb : c.code = cc) (hown : s.vm.findClass own = some m.cls) (hE : KK l G s) (hW : Wd G z s.heap H locs) (hlink : (Cond.fieldLink own index "PanelOfficeModel" "emptyPlace" "I").before args s = true) (hdg : decode cc pc = .ok (.getfield index, 3)) (kk : W p l e R s m args below meth c H locs cells slots Qg (F0 m (pc + 3) ls (.int (z.1 31 21) :: rest))) : W p l e R s m args below meth c H locs cells slots Qg (F0 m pc ls (.ref (ha G 31) :: rest)) :=
  yget hx hb hown hE hW (T := F_M) (k := 21) (by decide) rfl rfl ly_M (by decide) hlink rfl hdg kk
theorem ygf_31_22 (hx : p.tables.exec = Jvm.exec) (hb : c.code = cc) (hown : s.vm.findClass own = some m.cls) (hE : KK l G s) (hW : Wd G z s.heap H locs) (hlink : (Cond.fieldLink own index "PanelOfficeModel" "dropped" "[Z").before args s = true) (hdg : decode cc pc = .ok (.getfield index, 3)) (kk : W p l e R s m args below meth c H locs cells slots Qg (F0 m (pc + 3) ls (.ref (ha G 45) :: rest))) : W p l e R s m args below meth c H locs cells slots Qg (F0 m pc ls (.ref (ha G 31) :: rest)) :=
  yget hx hb hown hE hW (T := F_M) (k := 22) (by decide) rfl rfl ly_M (by decide) hlink rfl hdg kk
theorem ygf_31_23 (hx : p.tables.exec = Jvm.exec) (hb : c.code = cc) (hown : s.vm.findClass own = some m.cls) (hE : KK l G s) (hW : Wd G z s.heap H locs) (hlink : (Cond.fieldLink own index "PanelOfficeModel" "sides" "I").before args s = true) (hdg : decode cc pc = .ok (.getfield index, 3)) (kk : W p l e R s m args below meth c H locs cells slots Qg (F0 m (pc + 3) ls (.int (z.1 31 23) :: rest))) : W p l e R s m args below meth c H locs cells slots Qg (F0 m pc ls (.ref (ha G 31) :: rest)) :=
  yget hx hb hown hE hW (T := F_M) (k := 23) (by decide) rfl rfl ly_M (by decide) hlink rfl hdg kk
theorem ygf_31_24 (hx : p.tables.exec = Jvm.exec) (hb : c.code = cc) (hown : s.vm.findClass own = some m.cls) (hE : KK l G s) (hW : Wd G z s.heap H locs) (hlink : (Cond.fieldLink own index "PanelOfficeModel" "thrownSoFar" "I").before args s = true) (hdg : decode cc pc = .ok (.getfield index, 3)) (kk : W p l e R s m args below meth c H locs cells slots Qg (F0 m (pc + 3) ls (.int (z.1 31 24) :: rest))) : W p l e R s m args below meth c H locs cells slots Qg (F0 m pc ls (.ref (ha G 31) :: rest)) :=
  yget hx hb hown hE hW (T := F_M) (k := 24) (by decide) rfl rfl ly_M (by decide) hlink rfl hdg kk
theorem ygf_31_25 (hx : p.tables.exec = Jvm.exec) (hb : c.code = cc) (hown : s.vm.findClass own = some m.cls) (hE : KK l G s) (hW : Wd G z s.heap H locs) (hlink : (Cond.fieldLink own index "PanelOfficeModel" "needed" "I").before args s = true) (hdg : decode cc pc = .ok (.getfield index, 3)) (kk : W p l e R s m args below meth c H locs cells slots Qg (F0 m (pc + 3) ls (.int (z.1 31 25) :: rest))) : W p l e R s m args below meth c H locs cells slots Qg (F0 m pc ls (.ref (ha G 31) :: rest)) :=
  yget hx hb hown hE hW (T := F_M) (k := 25) (by decide) rfl rfl ly_M (by decide) hlink rfl hdg kk
theorem ygf_31_26 (hx : p.tables.exec = Jvm.exec) (hb : c.code = cc) (hown : s.vm.findClass own = some m.cls) (hE : KK l G s) (hW : Wd G z s.heap H locs) (hlink : (Cond.fieldLink own index "PanelOfficeModel" "goal" "J").before args s = true) (hdg : decode cc pc = .ok (.getfield index, 3)) (kk : W p l e R s m args below meth c H locs cells slots Qg (F0 m (pc + 3) ls (.long (z.2 31 26) :: rest))) : W p l e R s m args below meth c H locs cells slots Qg (F0 m pc ls (.ref (ha G 31) :: rest)) :=
  yget hx hb hown hE hW (T := F_M) (k := 26) (by decide) rfl rfl ly_M (by decide) hlink rfl hdg kk
theorem ygf_31_27 (hx : p.tables.exec = Jvm.exec) (hb : c.code = cc) (hown : s.vm.findClass own = some m.cls) (hE : KK l G s) (hW : Wd G z s.heap H locs) (hlink : (Cond.fieldLink own index "PanelOfficeModel" "digits" "J").before args s = true) (hdg : decode cc pc = .ok (.getfield index, 3)) (kk : W p l e R s m args below meth c H locs cells slots Qg (F0 m (pc + 3) ls (.long (z.2 31 27) :: rest))) : W p l e R s m args below meth c H locs cells slots Qg (F0 m pc ls (.ref (ha G 31) :: rest)) :=
  yget hx hb hown hE hW (T := F_M) (k := 27) (by decide) rfl rfl ly_M (by decide) hlink rfl hdg kk
theorem ygf_31_28 (hx : p.tables.exec = Jvm.exec) (hb : c.code = cc) (hown : s.vm.findClass own = some m.cls) (hE : KK l G s) (hW : Wd G z s.heap H locs) (hlink : (Cond.fieldLink own index "PanelOfficeModel" "outcomes" "J").before args s = true) (hdg : decode cc pc = .ok (.getfield index, 3)) (kk : W p l e R s m args below meth c H locs cells slots Qg (F0 m (pc + 3) ls (.long (z.2 31 28) :: rest))) : W p l e R s m args below meth c H locs cells slots Qg (F0 m pc ls (.ref (ha G 31) :: rest)) :=
  yget hx hb hown hE hW (T := F_M) (k := 28) (by decide) rfl rfl ly_M (by decide) hlink rfl hdg kk
theorem ygf_31_29 (hx : p.tables.exec = Jvm.exec) (hb : c.code = cc) (hown : s.vm.findClass own = some m.cls) (hE : KK l G s) (hW : Wd G z s.heap H locs) (hlink : (Cond.fieldLink own index "PanelOfficeModel" "there" "Z").before args s = true) (hdg : decode cc pc = .ok (.getfield index, 3)) (kk : W p l e R s m args below meth c H locs cells slots Qg (F0 m (pc + 3) ls (.int (z.1 31 29) :: rest))) : W p l e R s m args below meth c H locs cells slots Qg (F0 m pc ls (.ref (ha G 31) :: rest)) :=
  yget hx hb hown hE hW (T := F_M) (k := 29) (by decide) rfl rfl ly_M (by decide) hlink rfl hdg kk
theorem ygf_31_30 (hx : p.tables.exec = Jvm.exec) (hb : c.code = cc) (hown : s.vm.findClass own = some m.cls) (hE : KK l G s) (hW : Wd G z s.heap H locs) (hlink : (Cond.fieldLink own index "PanelOfficeModel" "number" "J").before args s = true) (hdg : decode cc pc = .ok (.getfield index, 3)) (kk : W p l e R s m args below meth c H locs cells slots Qg (F0 m (pc + 3) ls (.long (z.2 31 30) :: rest))) : W p l e R s m args below meth c H locs cells slots Qg (F0 m pc ls (.ref (ha G 31) :: rest)) :=
  yget hx hb hown hE hW (T := F_M) (k := 30) (by decide) rfl rfl ly_M (by decide) hlink rfl hdg kk
theorem ygf_31_31 (hx : p.tables.exec = Jvm.exec) (hb : c.code = cc) (hown : s.vm.findClass own = some m.cls) (hE : KK l G s) (hW : Wd G z s.heap H locs) (hlink : (Cond.fieldLink own index "PanelOfficeModel" "lowWas" "[I").before args s = true) (hdg : decode cc pc = .ok (.getfield index, 3)) (kk : W p l e R s m args below meth c H locs cells slots Qg (F0 m (pc + 3) ls (.ref (ha G 46) :: rest))) : W p l e R s m args below meth c H locs cells slots Qg (F0 m pc ls (.ref (ha G 31) :: rest)) :=
  yget hx hb hown hE hW (T := F_M) (k := 31) (by decide) rfl rfl ly_M (by decide) hlink rfl hdg kk
theorem ygf_31_32 (hx : p.tables.exec = Jvm.exec) (hb : c.code = cc) (hown : s.vm.findClass own = some m.cls) (hE : KK l G s) (hW : Wd G z s.heap H locs) (hlink : (Cond.fieldLink own index "PanelOfficeModel" "highWas" "[I").before args s = true) (hdg : decode cc pc = .ok (.getfield index, 3)) (kk : W p l e R s m args below meth c H locs cells slots Qg (F0 m (pc + 3) ls (.ref (ha G 47) :: rest))) : W p l e R s m args below meth c H locs cells slots Qg (F0 m pc ls (.ref (ha G 31) :: rest)) :=
  yget hx hb hown hE hW (T := F_M) (k := 32) (by decide) rfl rfl ly_M (by decide) hlink rfl hdg kk
theorem ygf_31_33 (hx : p.tables.exec = Jvm.exec) (hb : c.code = cc) (hown : s.vm.findClass own = some m.cls) (hE : KK l G s) (hW : Wd G z s.heap H locs) (hlink : (Cond.fieldLink own index "PanelOfficeModel" "taken" "[I").before args s = true) (hdg : decode cc pc = .ok (.getfield index, 3)) (kk : W p l e R s m args below meth c H locs cells slots Qg (F0 m (pc + 3) ls (.ref (ha G 48) :: rest))) : W p l e R s m args below meth c H locs cells slots Qg (F0 m pc ls (.ref (ha G 31) :: rest)) :=
  yget hx hb hown hE hW (T := F_M) (k := 33) (by decide) rfl rfl ly_M (by decide) hlink rfl hdg kk
theorem ygf_31_34 (hx : p.tables.exec = Jvm.exec) (hb : c.code = cc) (hown : s.vm.findClass own = some m.cls) (hE : KK l G s) (hW : Wd G z s.heap H locs) (hlink : (Cond.fieldLink own index "PanelOfficeModel" "takenCount" "I").before args s = true) (hdg : decode cc pc = .ok (.getfield index, 3)) (kk : W p l e R s m args below meth c H locs cells slots Qg (F0 m (pc + 3) ls (.int (z.1 31 34) :: rest))) : W p l e R s m args below meth c H locs cells slots Qg (F0 m pc ls (.ref (ha G 31) :: rest)) :=
  yget hx hb hown hE hW (T := F_M) (k := 34) (by decide) rfl rfl ly_M (by decide) hlink rfl hdg kk
theorem ygn_1_0 (hx : p.tables.exec = Jvm.exec) (hb : c.code = cc) (hown : s.vm.findClass own = some m.cls) (hE : KK l G s) (hW : Wd G z s.heap H locs) (hlink : (Cond.fieldLinkNest own index "PanelOffice$Pool" "values" "[I" host).before args s = true) (hdg : decode cc pc = .ok (.getfield index, 3)) (kk : W p l e R s m args below meth c H locs cells slots Qg (F0 m (pc + 3) ls (.ref (ha G 2) :: rest))) : W p l e R s m args below meth c H locs cells slots Qg (F0 m pc ls (.ref (ha G 1) :: rest)) :=
  ygetN hx hb hown hE hW (T := F_P) (k := 0) (by decide) rfl rfl ly_P (by decide) hlink rfl hdg kk
theorem ygn_1_1 (hx : p.tables.exec = Jvm.exec) (hb : c.code = cc) (hown : s.vm.findClass own = some m.cls) (hE : KK l G s) (hW : Wd G z s.heap H locs) (hlink : (Cond.fieldLinkNest own index "PanelOffice$Pool" "codes" "[I" host).before args s = true) (hdg : decode cc pc = .ok (.getfield index, 3)) (kk : W p l e R s m args below meth c H locs cells slots Qg (F0 m (pc + 3) ls (.ref (ha G 3) :: rest))) : W p l e R s m args below meth c H locs cells slots Qg (F0 m pc ls (.ref (ha G 1) :: rest)) :=
  ygetN hx hb hown hE hW (T := F_P) (k := 1) (by decide) rfl rfl ly_P (by decide) hlink rfl hdg kk
theorem ygn_1_2 (hx : p.tables.exec = Jvm.exec) (hb : c.code = cc) (hown : s.vm.findClass own = some m.cls) (hE : KK l G s) (hW : Wd G z s.heap H locs) (hlink : (Cond.fieldLinkNest own index "PanelOffice$Pool" "kindCodes" "[I" host).before args s = true) (hdg : decode cc pc = .ok (.getfield index, 3)) (kk : W p l e R s m args below meth c H locs cells slots Qg (F0 m (pc + 3) ls (.ref (ha G 4) :: rest))) : W p l e R s m args below meth c H locs cells slots Qg (F0 m pc ls (.ref (ha G 1) :: rest)) :=
  ygetN hx hb hown hE hW (T := F_P) (k := 2) (by decide) rfl rfl ly_P (by decide) hlink rfl hdg kk
theorem ygn_1_3 (hx : p.tables.exec = Jvm.exec) (hb : c.code = cc) (hown : s.vm.findClass own = some m.cls) (hE : KK l G s) (hW : Wd G z s.heap H locs) (hlink : (Cond.fieldLinkNest own index "PanelOffice$Pool" "kindSizes" "[I" host).before args s = true) (hdg : decode cc pc = .ok (.getfield index, 3)) (kk : W p l e R s m args below meth c H locs cells slots Qg (F0 m (pc + 3) ls (.ref (ha G 5) :: rest))) : W p l e R s m args below meth c H locs cells slots Qg (F0 m pc ls (.ref (ha G 1) :: rest)) :=
  ygetN hx hb hown hE hW (T := F_P) (k := 3) (by decide) rfl rfl ly_P (by decide) hlink rfl hdg kk
theorem ygn_1_4 (hx : p.tables.exec = Jvm.exec) (hb : c.code = cc) (hown : s.vm.findClass own = some m.cls) (hE : KK l G s) (hW : Wd G z s.heap H locs) (hlink : (Cond.fieldLinkNest own index "PanelOffice$Pool" "persons" "I" host).before args s = true) (hdg : decode cc pc = .ok (.getfield index, 3)) (kk : W p l e R s m args below meth c H locs cells slots Qg (F0 m (pc + 3) ls (.int (z.1 1 4) :: rest))) : W p l e R s m args below meth c H locs cells slots Qg (F0 m pc ls (.ref (ha G 1) :: rest)) :=
  ygetN hx hb hown hE hW (T := F_P) (k := 4) (by decide) rfl rfl ly_P (by decide) hlink rfl hdg kk
theorem ygn_1_5 (hx : p.tables.exec = Jvm.exec) (hb : c.code = cc) (hown : s.vm.findClass own = some m.cls) (hE : KK l G s) (hW : Wd G z s.heap H locs) (hlink : (Cond.fieldLinkNest own index "PanelOffice$Pool" "kinds" "I" host).before args s = true) (hdg : decode cc pc = .ok (.getfield index, 3)) (kk : W p l e R s m args below meth c H locs cells slots Qg (F0 m (pc + 3) ls (.int (z.1 1 5) :: rest))) : W p l e R s m args below meth c H locs cells slots Qg (F0 m pc ls (.ref (ha G 1) :: rest)) :=
  ygetN hx hb hown hE hW (T := F_P) (k := 5) (by decide) rfl rfl ly_P (by decide) hlink rfl hdg kk
theorem ygn_6_0 (hx : p.tables.exec = Jvm.exec) (hb : c.code = cc) (hown : s.vm.findClass own = some m.cls) (hE : KK l G s) (hW : Wd G z s.heap H locs) (hlink : (Cond.fieldLinkNest own index "PanelOffice$Quotas" "least" "[I" host).before args s = true) (hdg : decode cc pc = .ok (.getfield index, 3)) (kk : W p l e R s m args below meth c H locs cells slots Qg (F0 m (pc + 3) ls (.ref (ha G 7) :: rest))) : W p l e R s m args below meth c H locs cells slots Qg (F0 m pc ls (.ref (ha G 6) :: rest)) :=
  ygetN hx hb hown hE hW (T := F_Q) (k := 0) (by decide) rfl rfl ly_Q (by decide) hlink rfl hdg kk
theorem ygn_6_1 (hx : p.tables.exec = Jvm.exec) (hb : c.code = cc) (hown : s.vm.findClass own = some m.cls) (hE : KK l G s) (hW : Wd G z s.heap H locs) (hlink : (Cond.fieldLinkNest own index "PanelOffice$Quotas" "most" "[I" host).before args s = true) (hdg : decode cc pc = .ok (.getfield index, 3)) (kk : W p l e R s m args below meth c H locs cells slots Qg (F0 m (pc + 3) ls (.ref (ha G 8) :: rest))) : W p l e R s m args below meth c H locs cells slots Qg (F0 m pc ls (.ref (ha G 6) :: rest)) :=
  ygetN hx hb hown hE hW (T := F_Q) (k := 1) (by decide) rfl rfl ly_Q (by decide) hlink rfl hdg kk
theorem ygn_9_2 (hx : p.tables.exec = Jvm.exec) (hb : c.code = cc) (hown : s.vm.findClass own = some m.cls) (hE : KK l G s) (hW : Wd G z s.heap H locs) (hlink : (Cond.fieldLinkNest own index "PanelOffice$Tally" "takes" "[I" host).before args s = true) (hdg : decode cc pc = .ok (.getfield index, 3)) (kk : W p l e R s m args below meth c H locs cells slots Qg (F0 m (pc + 3) ls (.ref (ha G 11) :: rest))) : W p l e R s m args below meth c H locs cells slots Qg (F0 m pc ls (.ref (ha G 9) :: rest)) :=
  ygetN hx hb hown hE hW (T := F_T) (k := 2) (by decide) rfl rfl ly_T (by decide) hlink rfl hdg kk
theorem ygn_9_3 (hx : p.tables.exec = Jvm.exec) (hb : c.code = cc) (hown : s.vm.findClass own = some m.cls) (hE : KK l G s) (hW : Wd G z s.heap H locs) (hlink : (Cond.fieldLinkNest own index "PanelOffice$Tally" "stay" "[I" host).before args s = true) (hdg : decode cc pc = .ok (.getfield index, 3)) (kk : W p l e R s m args below meth c H locs cells slots Qg (F0 m (pc + 3) ls (.ref (ha G 12) :: rest))) : W p l e R s m args below meth c H locs cells slots Qg (F0 m pc ls (.ref (ha G 9) :: rest)) :=
  ygetN hx hb hown hE hW (T := F_T) (k := 3) (by decide) rfl rfl ly_T (by decide) hlink rfl hdg kk
theorem ygn_9_4 (hx : p.tables.exec = Jvm.exec) (hb : c.code = cc) (hown : s.vm.findClass own = some m.cls) (hE : KK l G s) (hW : Wd G z s.heap H locs) (hlink : (Cond.fieldLinkNest own index "PanelOffice$Tally" "more" "[I" host).before args s = true) (hdg : decode cc pc = .ok (.getfield index, 3)) (kk : W p l e R s m args below meth c H locs cells slots Qg (F0 m (pc + 3) ls (.ref (ha G 13) :: rest))) : W p l e R s m args below meth c H locs cells slots Qg (F0 m pc ls (.ref (ha G 9) :: rest)) :=
  ygetN hx hb hown hE hW (T := F_T) (k := 4) (by decide) rfl rfl ly_T (by decide) hlink rfl hdg kk
theorem ygn_9_5 (hx : p.tables.exec = Jvm.exec) (hb : c.code = cc) (hown : s.vm.findClass own = some m.cls) (hE : KK l G s) (hW : Wd G z s.heap H locs) (hlink : (Cond.fieldLinkNest own index "PanelOffice$Tally" "ahead" "[J" host).before args s = true) (hdg : decode cc pc = .ok (.getfield index, 3)) (kk : W p l e R s m args below meth c H locs cells slots Qg (F0 m (pc + 3) ls (.ref (ha G 14) :: rest))) : W p l e R s m args below meth c H locs cells slots Qg (F0 m pc ls (.ref (ha G 9) :: rest)) :=
  ygetN hx hb hown hE hW (T := F_T) (k := 5) (by decide) rfl rfl ly_T (by decide) hlink rfl hdg kk
theorem ygn_21_0 (hx : p.tables.exec = Jvm.exec) (hb : c.code = cc) (hown : s.vm.findClass own = some m.cls) (hE : KK l G s) (hW : Wd G z s.heap H locs) (hlink : (Cond.fieldLinkNest own index "PanelOffice$Quotas" "least" "[I" host).before args s = true) (hdg : decode cc pc = .ok (.getfield index, 3)) (kk : W p l e R s m args below meth c H locs cells slots Qg (F0 m (pc + 3) ls (.ref (ha G 22) :: rest))) : W p l e R s m args below meth c H locs cells slots Qg (F0 m pc ls (.ref (ha G 21) :: rest)) :=
  ygetN hx hb hown hE hW (T := F_Q) (k := 0) (by decide) rfl rfl ly_Q (by decide) hlink rfl hdg kk
theorem ygn_21_1 (hx : p.tables.exec = Jvm.exec) (hb : c.code = cc) (hown : s.vm.findClass own = some m.cls) (hE : KK l G s) (hW : Wd G z s.heap H locs) (hlink : (Cond.fieldLinkNest own index "PanelOffice$Quotas" "most" "[I" host).before args s = true) (hdg : decode cc pc = .ok (.getfield index, 3)) (kk : W p l e R s m args below meth c H locs cells slots Qg (F0 m (pc + 3) ls (.ref (ha G 23) :: rest))) : W p l e R s m args below meth c H locs cells slots Qg (F0 m pc ls (.ref (ha G 21) :: rest)) :=
  ygetN hx hb hown hE hW (T := F_Q) (k := 1) (by decide) rfl rfl ly_Q (by decide) hlink rfl hdg kk
theorem ypf_0_8 {v : Int32} (hx : p.tables.exec = Jvm.exec) (hb : c.code = cc) (hown : s.vm.findClass own = some m.cls) (hE : KK l G s) (hW : Wd G z s.heap H locs) (hlink : (Cond.fieldLink own index "PanelOffice" "size" "I").before args s = true) (hdg : decode cc pc = .ok (.putfield index, 3)) (kk : ∀ (z' : St) (H : Heap) (locs : List Loc), z' = wI z 0 8 v → Wd G z' s.heap H locs → W p l e R s m args below meth c H locs cells slots Qg (F0 m (pc + 3) ls rest)) : W p l e R s m args below meth c H locs cells slots Qg (F0 m pc ls (.int v :: .ref (ha G 0) :: rest)) :=
  yput hx hb hown hE hW (T := F_O) (k := 8) (ty := .int) ft_O ft_O_ok n_O (by decide) rfl rfl ly_O (by decide) rfl (by decide +kernel) rfl rfl (by decide : 8 < 12) (wI z 0 8 v) (wI_off z 0 8 v) rfl hlink hdg (fun H locs hW => kk _ H locs rfl hW)
theorem ypf_0_9 {v : Int64} (hx : p.tables.exec = Jvm.exec) (hb : c.code = cc) (hown : s.vm.findClass own = some m.cls) (hE : KK l G s) (hW : Wd G z s.heap H locs) (hlink : (Cond.fieldLink own index "PanelOffice" "marks" "J").before args s = true) (hdg : decode cc pc = .ok (.putfield index, 3)) (kk : ∀ (z' : St) (H : Heap) (locs : List Loc), z' = wL z 0 9 v → Wd G z' s.heap H locs → W p l e R s m args below meth c H locs cells slots Qg (F0 m (pc + 3) ls rest)) : W p l e R s m args below meth c H locs cells slots Qg (F0 m pc ls (.long v :: .ref (ha G 0) :: rest)) :=
  yput hx hb hown hE hW (T := F_O) (k := 9) (ty := .long) ft_O ft_O_ok n_O (by decide) rfl rfl ly_O (by decide) rfl (by decide +kernel) rfl rfl (by decide : 9 < 12) (wL z 0 9 v) (wL_off z 0 9 v) rfl hlink hdg (fun H locs hW => kk _ H locs rfl hW)
theorem ypf_0_10 {v : Int32} (hx : p.tables.exec = Jvm.exec) (hb : c.code = cc) (hown : s.vm.findClass own = some m.cls) (hE : KK l G s) (hW : Wd G z s.heap H locs) (hz : zb v) (hlink : (Cond.fieldLink own index "PanelOffice" "tallyIsFresh" "Z").before args s = true) (hdg : decode cc pc = .ok (.putfield index, 3)) (kk : ∀ (z' : St) (H : Heap) (locs : List Loc), z' = wI z 0 10 v → Wd G z' s.heap H locs → W p l e R s m args below meth c H locs cells slots Qg (F0 m (pc + 3) ls rest)) : W p l e R s m args below meth c H locs cells slots Qg (F0 m pc ls (.int v :: .ref (ha G 0) :: rest)) :=
  yput hx hb hown hE hW (T := F_O) (k := 10) (ty := .boolean) ft_O ft_O_ok n_O (by decide) rfl rfl ly_O (by decide) rfl (by decide +kernel) (zb_nar hz) (zb_fit hz) (by decide : 10 < 12) (wI z 0 10 v) (wI_off z 0 10 v) rfl hlink hdg (fun H locs hW => kk _ H locs rfl hW)
theorem ypf_0_11 {v : Int32} (hx : p.tables.exec = Jvm.exec) (hb : c.code = cc) (hown : s.vm.findClass own = some m.cls) (hE : KK l G s) (hW : Wd G z s.heap H locs) (hz : zb v) (hlink : (Cond.fieldLink own index "PanelOffice" "clashIsFresh" "Z").before args s = true) (hdg : decode cc pc = .ok (.putfield index, 3)) (kk : ∀ (z' : St) (H : Heap) (locs : List Loc), z' = wI z 0 11 v → Wd G z' s.heap H locs → W p l e R s m args below meth c H locs cells slots Qg (F0 m (pc + 3) ls rest)) : W p l e R s m args below meth c H locs cells slots Qg (F0 m pc ls (.int v :: .ref (ha G 0) :: rest)) :=
  yput hx hb hown hE hW (T := F_O) (k := 11) (ty := .boolean) ft_O ft_O_ok n_O (by decide) rfl rfl ly_O (by decide) rfl (by decide +kernel) (zb_nar hz) (zb_fit hz) (by decide : 11 < 12) (wI z 0 11 v) (wI_off z 0 11 v) rfl hlink hdg (fun H locs hW => kk _ H locs rfl hW)
theorem ypf_1_4 {v : Int32} (hx : p.tables.exec = Jvm.exec) (hb : c.code = cc) (hown : s.vm.findClass own = some m.cls) (hE : KK l G s) (hW : Wd G z s.heap H locs) (hlink : (Cond.fieldLink own index "PanelOffice$Pool" "persons" "I").before args s = true) (hdg : decode cc pc = .ok (.putfield index, 3)) (kk : ∀ (z' : St) (H : Heap) (locs : List Loc), z' = wI z 1 4 v → Wd G z' s.heap H locs → W p l e R s m args below meth c H locs cells slots Qg (F0 m (pc + 3) ls rest)) : W p l e R s m args below meth c H locs cells slots Qg (F0 m pc ls (.int v :: .ref (ha G 1) :: rest)) :=
  yput hx hb hown hE hW (T := F_P) (k := 4) (ty := .int) ft_P ft_P_ok n_P (by decide) rfl rfl ly_P (by decide) rfl (by decide +kernel) rfl rfl (by decide : 4 < 6) (wI z 1 4 v) (wI_off z 1 4 v) rfl hlink hdg (fun H locs hW => kk _ H locs rfl hW)
theorem ypf_1_5 {v : Int32} (hx : p.tables.exec = Jvm.exec) (hb : c.code = cc) (hown : s.vm.findClass own = some m.cls) (hE : KK l G s) (hW : Wd G z s.heap H locs) (hlink : (Cond.fieldLink own index "PanelOffice$Pool" "kinds" "I").before args s = true) (hdg : decode cc pc = .ok (.putfield index, 3)) (kk : ∀ (z' : St) (H : Heap) (locs : List Loc), z' = wI z 1 5 v → Wd G z' s.heap H locs → W p l e R s m args below meth c H locs cells slots Qg (F0 m (pc + 3) ls rest)) : W p l e R s m args below meth c H locs cells slots Qg (F0 m pc ls (.int v :: .ref (ha G 1) :: rest)) :=
  yput hx hb hown hE hW (T := F_P) (k := 5) (ty := .int) ft_P ft_P_ok n_P (by decide) rfl rfl ly_P (by decide) rfl (by decide +kernel) rfl rfl (by decide : 5 < 6) (wI z 1 5 v) (wI_off z 1 5 v) rfl hlink hdg (fun H locs hW => kk _ H locs rfl hW)
theorem ypf_9_10 {v : Int32} (hx : p.tables.exec = Jvm.exec) (hb : c.code = cc) (hown : s.vm.findClass own = some m.cls) (hE : KK l G s) (hW : Wd G z s.heap H locs) (hlink : (Cond.fieldLink own index "PanelOffice$Tally" "found" "I").before args s = true) (hdg : decode cc pc = .ok (.putfield index, 3)) (kk : ∀ (z' : St) (H : Heap) (locs : List Loc), z' = wI z 9 10 v → Wd G z' s.heap H locs → W p l e R s m args below meth c H locs cells slots Qg (F0 m (pc + 3) ls rest)) : W p l e R s m args below meth c H locs cells slots Qg (F0 m pc ls (.int v :: .ref (ha G 9) :: rest)) :=
  yput hx hb hown hE hW (T := F_T) (k := 10) (ty := .int) ft_T ft_T_ok n_T (by decide) rfl rfl ly_T (by decide) rfl (by decide +kernel) rfl rfl (by decide : 10 < 13) (wI z 9 10 v) (wI_off z 9 10 v) rfl hlink hdg (fun H locs hW => kk _ H locs rfl hW)
theorem ypf_9_11 {v : Int32} (hx : p.tables.exec = Jvm.exec) (hb : c.code = cc) (hown : s.vm.findClass own = some m.cls) (hE : KK l G s) (hW : Wd G z s.heap H locs) (hz : zb v) (hlink : (Cond.fieldLink own index "PanelOffice$Tally" "refused" "Z").before args s = true) (hdg : decode cc pc = .ok (.putfield index, 3)) (kk : ∀ (z' : St) (H : Heap) (locs : List Loc), z' = wI z 9 11 v → Wd G z' s.heap H locs → W p l e R s m args below meth c H locs cells slots Qg (F0 m (pc + 3) ls rest)) : W p l e R s m args below meth c H locs cells slots Qg (F0 m pc ls (.int v :: .ref (ha G 9) :: rest)) :=
  yput hx hb hown hE hW (T := F_T) (k := 11) (ty := .boolean) ft_T ft_T_ok n_T (by decide) rfl rfl ly_T (by decide) rfl (by decide +kernel) (zb_nar hz) (zb_fit hz) (by decide : 11 < 13) (wI z 9 11 v) (wI_off z 9 11 v) rfl hlink hdg (fun H locs hW => kk _ H locs rfl hW)
theorem ypf_9_12 {v : Int32} (hx : p.tables.exec = Jvm.exec) (hb : c.code = cc) (hown : s.vm.findClass own = some m.cls) (hE : KK l G s) (hW : Wd G z s.heap H locs) (hz : zb v) (hlink : (Cond.fieldLink own index "PanelOffice$Tally" "behindIsFresh" "Z").before args s = true) (hdg : decode cc pc = .ok (.putfield index, 3)) (kk : ∀ (z' : St) (H : Heap) (locs : List Loc), z' = wI z 9 12 v → Wd G z' s.heap H locs → W p l e R s m args below meth c H locs cells slots Qg (F0 m (pc + 3) ls rest)) : W p l e R s m args below meth c H locs cells slots Qg (F0 m pc ls (.int v :: .ref (ha G 9) :: rest)) :=
  yput hx hb hown hE hW (T := F_T) (k := 12) (ty := .boolean) ft_T ft_T_ok n_T (by decide) rfl rfl ly_T (by decide) rfl (by decide +kernel) (zb_nar hz) (zb_fit hz) (by decide : 12 < 13) (wI z 9 12 v) (wI_off z 9 12 v) rfl hlink hdg (fun H locs hW => kk _ H locs rfl hW)
theorem ypf_20_4 {v : Int32} (hx : p.tables.exec = Jvm.exec) (hb : c.code = cc) (hown : s.vm.findClass own = some m.cls) (hE : KK l G s) (hW : Wd G z s.heap H locs) (hlink : (Cond.fieldLink own index "PanelOffice$Clash" "found" "I").before args s = true) (hdg : decode cc pc = .ok (.putfield index, 3)) (kk : ∀ (z' : St) (H : Heap) (locs : List Loc), z' = wI z 20 4 v → Wd G z' s.heap H locs → W p l e R s m args below meth c H locs cells slots Qg (F0 m (pc + 3) ls rest)) : W p l e R s m args below meth c H locs cells slots Qg (F0 m pc ls (.int v :: .ref (ha G 20) :: rest)) :=
  yput hx hb hown hE hW (T := F_C) (k := 4) (ty := .int) ft_C ft_C_ok n_C (by decide) rfl rfl ly_C (by decide) rfl (by decide +kernel) rfl rfl (by decide : 4 < 6) (wI z 20 4 v) (wI_off z 20 4 v) rfl hlink hdg (fun H locs hW => kk _ H locs rfl hW)
theorem ypf_20_5 {v : Int32} (hx : p.tables.exec = Jvm.exec) (hb : c.code = cc) (hown : s.vm.findClass own = some m.cls) (hE : KK l G s) (hW : Wd G z s.heap H locs) (hz : zb v) (hlink : (Cond.fieldLink own index "PanelOffice$Clash" "refused" "Z").before args s = true) (hdg : decode cc pc = .ok (.putfield index, 3)) (kk : ∀ (z' : St) (H : Heap) (locs : List Loc), z' = wI z 20 5 v → Wd G z' s.heap H locs → W p l e R s m args below meth c H locs cells slots Qg (F0 m (pc + 3) ls rest)) : W p l e R s m args below meth c H locs cells slots Qg (F0 m pc ls (.int v :: .ref (ha G 20) :: rest)) :=
  yput hx hb hown hE hW (T := F_C) (k := 5) (ty := .boolean) ft_C ft_C_ok n_C (by decide) rfl rfl ly_C (by decide) rfl (by decide +kernel) (zb_nar hz) (zb_fit hz) (by decide : 5 < 6) (wI z 20 5 v) (wI_off z 20 5 v) rfl hlink hdg (fun H locs hW => kk _ H locs rfl hW)
theorem ypf_25_0 {v : Int32} (hx : p.tables.exec = Jvm.exec) (hb : c.code = cc) (hown : s.vm.findClass own = some m.cls) (hE : KK l G s) (hW : Wd G z s.heap H locs) (hz : zb v) (hlink : (Cond.fieldLink own index "PanelOffice$Dice" "begun" "Z").before args s = true) (hdg : decode cc pc = .ok (.putfield index, 3)) (kk : ∀ (z' : St) (H : Heap) (locs : List Loc), z' = wI z 25 0 v → Wd G z' s.heap H locs → W p l e R s m args below meth c H locs cells slots Qg (F0 m (pc + 3) ls rest)) : W p l e R s m args below meth c H locs cells slots Qg (F0 m pc ls (.int v :: .ref (ha G 25) :: rest)) :=
  yput hx hb hown hE hW (T := F_D) (k := 0) (ty := .boolean) ft_D ft_D_ok n_D (by decide) rfl rfl ly_D (by decide) rfl (by decide +kernel) (zb_nar hz) (zb_fit hz) (by decide : 0 < 8) (wI z 25 0 v) (wI_off z 25 0 v) rfl hlink hdg (fun H locs hW => kk _ H locs rfl hW)
theorem ypf_25_1 {v : Int32} (hx : p.tables.exec = Jvm.exec) (hb : c.code = cc) (hown : s.vm.findClass own = some m.cls) (hE : KK l G s) (hW : Wd G z s.heap H locs) (hz : zb v) (hlink : (Cond.fieldLink own index "PanelOffice$Dice" "done" "Z").before args s = true) (hdg : decode cc pc = .ok (.putfield index, 3)) (kk : ∀ (z' : St) (H : Heap) (locs : List Loc), z' = wI z 25 1 v → Wd G z' s.heap H locs → W p l e R s m args below meth c H locs cells slots Qg (F0 m (pc + 3) ls rest)) : W p l e R s m args below meth c H locs cells slots Qg (F0 m pc ls (.int v :: .ref (ha G 25) :: rest)) :=
  yput hx hb hown hE hW (T := F_D) (k := 1) (ty := .boolean) ft_D ft_D_ok n_D (by decide) rfl rfl ly_D (by decide) rfl (by decide +kernel) (zb_nar hz) (zb_fit hz) (by decide : 1 < 8) (wI z 25 1 v) (wI_off z 25 1 v) rfl hlink hdg (fun H locs hW => kk _ H locs rfl hW)
theorem ypf_25_2 {v : Int32} (hx : p.tables.exec = Jvm.exec) (hb : c.code = cc) (hown : s.vm.findClass own = some m.cls) (hE : KK l G s) (hW : Wd G z s.heap H locs) (hlink : (Cond.fieldLink own index "PanelOffice$Dice" "sides" "I").before args s = true) (hdg : decode cc pc = .ok (.putfield index, 3)) (kk : ∀ (z' : St) (H : Heap) (locs : List Loc), z' = wI z 25 2 v → Wd G z' s.heap H locs → W p l e R s m args below meth c H locs cells slots Qg (F0 m (pc + 3) ls rest)) : W p l e R s m args below meth c H locs cells slots Qg (F0 m pc ls (.int v :: .ref (ha G 25) :: rest)) :=
  yput hx hb hown hE hW (T := F_D) (k := 2) (ty := .int) ft_D ft_D_ok n_D (by decide) rfl rfl ly_D (by decide) rfl (by decide +kernel) rfl rfl (by decide : 2 < 8) (wI z 25 2 v) (wI_off z 25 2 v) rfl hlink hdg (fun H locs hW => kk _ H locs rfl hW)
theorem ypf_25_3 {v : Int64} (hx : p.tables.exec = Jvm.exec) (hb : c.code = cc) (hown : s.vm.findClass own = some m.cls) (hE : KK l G s) (hW : Wd G z s.heap H locs) (hlink : (Cond.fieldLink own index "PanelOffice$Dice" "goal" "J").before args s = true) (hdg : decode cc pc = .ok (.putfield index, 3)) (kk : ∀ (z' : St) (H : Heap) (locs : List Loc), z' = wL z 25 3 v → Wd G z' s.heap H locs → W p l e R s m args below meth c H locs cells slots Qg (F0 m (pc + 3) ls rest)) : W p l e R s m args below meth c H locs cells slots Qg (F0 m pc ls (.long v :: .ref (ha G 25) :: rest)) :=
  yput hx hb hown hE hW (T := F_D) (k := 3) (ty := .long) ft_D ft_D_ok n_D (by decide) rfl rfl ly_D (by decide) rfl (by decide +kernel) rfl rfl (by decide : 3 < 8) (wL z 25 3 v) (wL_off z 25 3 v) rfl hlink hdg (fun H locs hW => kk _ H locs rfl hW)
theorem ypf_25_4 {v : Int64} (hx : p.tables.exec = Jvm.exec) (hb : c.code = cc) (hown : s.vm.findClass own = some m.cls) (hE : KK l G s) (hW : Wd G z s.heap H locs) (hlink : (Cond.fieldLink own index "PanelOffice$Dice" "outcomes" "J").before args s = true) (hdg : decode cc pc = .ok (.putfield index, 3)) (kk : ∀ (z' : St) (H : Heap) (locs : List Loc), z' = wL z 25 4 v → Wd G z' s.heap H locs → W p l e R s m args below meth c H locs cells slots Qg (F0 m (pc + 3) ls rest)) : W p l e R s m args below meth c H locs cells slots Qg (F0 m pc ls (.long v :: .ref (ha G 25) :: rest)) :=
  yput hx hb hown hE hW (T := F_D) (k := 4) (ty := .long) ft_D ft_D_ok n_D (by decide) rfl rfl ly_D (by decide) rfl (by decide +kernel) rfl rfl (by decide : 4 < 8) (wL z 25 4 v) (wL_off z 25 4 v) rfl hlink hdg (fun H locs hW => kk _ H locs rfl hW)
theorem ypf_25_5 {v : Int32} (hx : p.tables.exec = Jvm.exec) (hb : c.code = cc) (hown : s.vm.findClass own = some m.cls) (hE : KK l G s) (hW : Wd G z s.heap H locs) (hlink : (Cond.fieldLink own index "PanelOffice$Dice" "needed" "I").before args s = true) (hdg : decode cc pc = .ok (.putfield index, 3)) (kk : ∀ (z' : St) (H : Heap) (locs : List Loc), z' = wI z 25 5 v → Wd G z' s.heap H locs → W p l e R s m args below meth c H locs cells slots Qg (F0 m (pc + 3) ls rest)) : W p l e R s m args below meth c H locs cells slots Qg (F0 m pc ls (.int v :: .ref (ha G 25) :: rest)) :=
  yput hx hb hown hE hW (T := F_D) (k := 5) (ty := .int) ft_D ft_D_ok n_D (by decide) rfl rfl ly_D (by decide) rfl (by decide +kernel) rfl rfl (by decide : 5 < 8) (wI z 25 5 v) (wI_off z 25 5 v) rfl hlink hdg (fun H locs hW => kk _ H locs rfl hW)
theorem ypf_25_6 {v : Int32} (hx : p.tables.exec = Jvm.exec) (hb : c.code = cc) (hown : s.vm.findClass own = some m.cls) (hE : KK l G s) (hW : Wd G z s.heap H locs) (hlink : (Cond.fieldLink own index "PanelOffice$Dice" "thrown" "I").before args s = true) (hdg : decode cc pc = .ok (.putfield index, 3)) (kk : ∀ (z' : St) (H : Heap) (locs : List Loc), z' = wI z 25 6 v → Wd G z' s.heap H locs → W p l e R s m args below meth c H locs cells slots Qg (F0 m (pc + 3) ls rest)) : W p l e R s m args below meth c H locs cells slots Qg (F0 m pc ls (.int v :: .ref (ha G 25) :: rest)) :=
  yput hx hb hown hE hW (T := F_D) (k := 6) (ty := .int) ft_D ft_D_ok n_D (by decide) rfl rfl ly_D (by decide) rfl (by decide +kernel) rfl rfl (by decide : 6 < 8) (wI z 25 6 v) (wI_off z 25 6 v) rfl hlink hdg (fun H locs hW => kk _ H locs rfl hW)
theorem ypf_25_7 {v : Int64} (hx : p.tables.exec = Jvm.exec) (hb : c.code = cc) (hown : s.vm.findClass own = some m.cls) (hE : KK l G s) (hW : Wd G z s.heap H locs) (hlink : (Cond.fieldLink own index "PanelOffice$Dice" "value" "J").before args s = true) (hdg : decode cc pc = .ok (.putfield index, 3)) (kk : ∀ (z' : St) (H : Heap) (locs : List Loc), z' = wL z 25 7 v → Wd G z' s.heap H locs → W p l e R s m args below meth c H locs cells slots Qg (F0 m (pc + 3) ls rest)) : W p l e R s m args below meth c H locs cells slots Qg (F0 m pc ls (.long v :: .ref (ha G 25) :: rest)) :=
  yput hx hb hown hE hW (T := F_D) (k := 7) (ty := .long) ft_D ft_D_ok n_D (by decide) rfl rfl ly_D (by decide) rfl (by decide +kernel) rfl rfl (by decide : 7 < 8) (wL z 25 7 v) (wL_off z 25 7 v) rfl hlink hdg (fun H locs hW => kk _ H locs rfl hW)
theorem ypf_26_5 {v : Int32} (hx : p.tables.exec = Jvm.exec) (hb : c.code = cc) (hown : s.vm.findClass own = some m.cls) (hE : KK l G s) (hW : Wd G z s.heap H locs) (hlink : (Cond.fieldLink own index "PanelOffice$Seats" "places" "I").before args s = true) (hdg : decode cc pc = .ok (.putfield index, 3)) (kk : ∀ (z' : St) (H : Heap) (locs : List Loc), z' = wI z 26 5 v → Wd G z' s.heap H locs → W p l e R s m args below meth c H locs cells slots Qg (F0 m (pc + 3) ls rest)) : W p l e R s m args below meth c H locs cells slots Qg (F0 m pc ls (.int v :: .ref (ha G 26) :: rest)) :=
  yput hx hb hown hE hW (T := F_S) (k := 5) (ty := .int) ft_S ft_S_ok n_S (by decide) rfl rfl ly_S (by decide) rfl (by decide +kernel) rfl rfl (by decide : 5 < 9) (wI z 26 5 v) (wI_off z 26 5 v) rfl hlink hdg (fun H locs hW => kk _ H locs rfl hW)
theorem ypf_26_6 {v : Int64} (hx : p.tables.exec = Jvm.exec) (hb : c.code = cc) (hown : s.vm.findClass own = some m.cls) (hE : KK l G s) (hW : Wd G z s.heap H locs) (hlink : (Cond.fieldLink own index "PanelOffice$Seats" "seated" "J").before args s = true) (hdg : decode cc pc = .ok (.putfield index, 3)) (kk : ∀ (z' : St) (H : Heap) (locs : List Loc), z' = wL z 26 6 v → Wd G z' s.heap H locs → W p l e R s m args below meth c H locs cells slots Qg (F0 m (pc + 3) ls rest)) : W p l e R s m args below meth c H locs cells slots Qg (F0 m pc ls (.long v :: .ref (ha G 26) :: rest)) :=
  yput hx hb hown hE hW (T := F_S) (k := 6) (ty := .long) ft_S ft_S_ok n_S (by decide) rfl rfl ly_S (by decide) rfl (by decide +kernel) rfl rfl (by decide : 6 < 9) (wL z 26 6 v) (wL_off z 26 6 v) rfl hlink hdg (fun H locs hW => kk _ H locs rfl hW)
theorem ypf_26_7 {v : Int64} (hx : p.tables.exec = Jvm.exec) (hb : c.code = cc) (hown : s.vm.findClass own = some m.cls) (hE : KK l G s) (hW : Wd G z s.heap H locs) (hlink : (Cond.fieldLink own index "PanelOffice$Seats" "gone" "J").before args s = true) (hdg : decode cc pc = .ok (.putfield index, 3)) (kk : ∀ (z' : St) (H : Heap) (locs : List Loc), z' = wL z 26 7 v → Wd G z' s.heap H locs → W p l e R s m args below meth c H locs cells slots Qg (F0 m (pc + 3) ls rest)) : W p l e R s m args below meth c H locs cells slots Qg (F0 m pc ls (.long v :: .ref (ha G 26) :: rest)) :=
  yput hx hb hown hE hW (T := F_S) (k := 7) (ty := .long) ft_S ft_S_ok n_S (by decide) rfl rfl ly_S (by decide) rfl (by decide +kernel) rfl rfl (by decide : 7 < 9) (wL z 26 7 v) (wL_off z 26 7 v) rfl hlink hdg (fun H locs hW => kk _ H locs rfl hW)
theorem ypf_26_8 {v : Int32} (hx : p.tables.exec = Jvm.exec) (hb : c.code = cc) (hown : s.vm.findClass own = some m.cls) (hE : KK l G s) (hW : Wd G z s.heap H locs) (hlink : (Cond.fieldLink own index "PanelOffice$Seats" "emptyPlace" "I").before args s = true) (hdg : decode cc pc = .ok (.putfield index, 3)) (kk : ∀ (z' : St) (H : Heap) (locs : List Loc), z' = wI z 26 8 v → Wd G z' s.heap H locs → W p l e R s m args below meth c H locs cells slots Qg (F0 m (pc + 3) ls rest)) : W p l e R s m args below meth c H locs cells slots Qg (F0 m pc ls (.int v :: .ref (ha G 26) :: rest)) :=
  yput hx hb hown hE hW (T := F_S) (k := 8) (ty := .int) ft_S ft_S_ok n_S (by decide) rfl rfl ly_S (by decide) rfl (by decide +kernel) rfl rfl (by decide : 8 < 9) (wI z 26 8 v) (wI_off z 26 8 v) rfl hlink hdg (fun H locs hW => kk _ H locs rfl hW)
theorem ypf_31_0 {v : Int32} (hx : p.tables.exec = Jvm.exec) (hb : c.code = cc) (hown : s.vm.findClass own = some m.cls) (hE : KK l G s) (hW : Wd G z s.heap H locs) (hlink : (Cond.fieldLink own index "PanelOfficeModel" "code" "I").before args s = true) (hdg : decode cc pc = .ok (.putfield index, 3)) (kk : ∀ (z' : St) (H : Heap) (locs : List Loc), z' = wI z 31 0 v → Wd G z' s.heap H locs → W p l e R s m args below meth c H locs cells slots Qg (F0 m (pc + 3) ls rest)) : W p l e R s m args below meth c H locs cells slots Qg (F0 m pc ls (.int v :: .ref (ha G 31) :: rest)) :=
  yput hx hb hown hE hW (T := F_M) (k := 0) (ty := .int) ft_M ft_M_ok n_M (by decide) rfl rfl ly_M (by decide) rfl (by decide +kernel) rfl rfl (by decide : 0 < 35) (wI z 31 0 v) (wI_off z 31 0 v) rfl hlink hdg (fun H locs hW => kk _ H locs rfl hW)
theorem ypf_31_1 {v : Int32} (hx : p.tables.exec = Jvm.exec) (hb : c.code = cc) (hown : s.vm.findClass own = some m.cls) (hE : KK l G s) (hW : Wd G z s.heap H locs) (hlink : (Cond.fieldLink own index "PanelOfficeModel" "persons" "I").before args s = true) (hdg : decode cc pc = .ok (.putfield index, 3)) (kk : ∀ (z' : St) (H : Heap) (locs : List Loc), z' = wI z 31 1 v → Wd G z' s.heap H locs → W p l e R s m args below meth c H locs cells slots Qg (F0 m (pc + 3) ls rest)) : W p l e R s m args below meth c H locs cells slots Qg (F0 m pc ls (.int v :: .ref (ha G 31) :: rest)) :=
  yput hx hb hown hE hW (T := F_M) (k := 1) (ty := .int) ft_M ft_M_ok n_M (by decide) rfl rfl ly_M (by decide) rfl (by decide +kernel) rfl rfl (by decide : 1 < 35) (wI z 31 1 v) (wI_off z 31 1 v) rfl hlink hdg (fun H locs hW => kk _ H locs rfl hW)
theorem ypf_31_7 {v : Int32} (hx : p.tables.exec = Jvm.exec) (hb : c.code = cc) (hown : s.vm.findClass own = some m.cls) (hE : KK l G s) (hW : Wd G z s.heap H locs) (hlink : (Cond.fieldLink own index "PanelOfficeModel" "size" "I").before args s = true) (hdg : decode cc pc = .ok (.putfield index, 3)) (kk : ∀ (z' : St) (H : Heap) (locs : List Loc), z' = wI z 31 7 v → Wd G z' s.heap H locs → W p l e R s m args below meth c H locs cells slots Qg (F0 m (pc + 3) ls rest)) : W p l e R s m args below meth c H locs cells slots Qg (F0 m pc ls (.int v :: .ref (ha G 31) :: rest)) :=
  yput hx hb hown hE hW (T := F_M) (k := 7) (ty := .int) ft_M ft_M_ok n_M (by decide) rfl rfl ly_M (by decide) rfl (by decide +kernel) rfl rfl (by decide : 7 < 35) (wI z 31 7 v) (wI_off z 31 7 v) rfl hlink hdg (fun H locs hW => kk _ H locs rfl hW)
theorem ypf_31_8 {v : Int32} (hx : p.tables.exec = Jvm.exec) (hb : c.code = cc) (hown : s.vm.findClass own = some m.cls) (hE : KK l G s) (hW : Wd G z s.heap H locs) (hlink : (Cond.fieldLink own index "PanelOfficeModel" "kinds" "I").before args s = true) (hdg : decode cc pc = .ok (.putfield index, 3)) (kk : ∀ (z' : St) (H : Heap) (locs : List Loc), z' = wI z 31 8 v → Wd G z' s.heap H locs → W p l e R s m args below meth c H locs cells slots Qg (F0 m (pc + 3) ls rest)) : W p l e R s m args below meth c H locs cells slots Qg (F0 m pc ls (.int v :: .ref (ha G 31) :: rest)) :=
  yput hx hb hown hE hW (T := F_M) (k := 8) (ty := .int) ft_M ft_M_ok n_M (by decide) rfl rfl ly_M (by decide) rfl (by decide +kernel) rfl rfl (by decide : 8 < 35) (wI z 31 8 v) (wI_off z 31 8 v) rfl hlink hdg (fun H locs hW => kk _ H locs rfl hW)
theorem ypf_31_11 {v : Int32} (hx : p.tables.exec = Jvm.exec) (hb : c.code = cc) (hown : s.vm.findClass own = some m.cls) (hE : KK l G s) (hW : Wd G z s.heap H locs) (hz : zb v) (hlink : (Cond.fieldLink own index "PanelOfficeModel" "known" "Z").before args s = true) (hdg : decode cc pc = .ok (.putfield index, 3)) (kk : ∀ (z' : St) (H : Heap) (locs : List Loc), z' = wI z 31 11 v → Wd G z' s.heap H locs → W p l e R s m args below meth c H locs cells slots Qg (F0 m (pc + 3) ls rest)) : W p l e R s m args below meth c H locs cells slots Qg (F0 m pc ls (.int v :: .ref (ha G 31) :: rest)) :=
  yput hx hb hown hE hW (T := F_M) (k := 11) (ty := .boolean) ft_M ft_M_ok n_M (by decide) rfl rfl ly_M (by decide) rfl (by decide +kernel) (zb_nar hz) (zb_fit hz) (by decide : 11 < 35) (wI z 31 11 v) (wI_off z 31 11 v) rfl hlink hdg (fun H locs hW => kk _ H locs rfl hW)
theorem ypf_31_12 {v : Int32} (hx : p.tables.exec = Jvm.exec) (hb : c.code = cc) (hown : s.vm.findClass own = some m.cls) (hE : KK l G s) (hW : Wd G z s.heap H locs) (hz : zb v) (hlink : (Cond.fieldLink own index "PanelOfficeModel" "tooMany" "Z").before args s = true) (hdg : decode cc pc = .ok (.putfield index, 3)) (kk : ∀ (z' : St) (H : Heap) (locs : List Loc), z' = wI z 31 12 v → Wd G z' s.heap H locs → W p l e R s m args below meth c H locs cells slots Qg (F0 m (pc + 3) ls rest)) : W p l e R s m args below meth c H locs cells slots Qg (F0 m pc ls (.int v :: .ref (ha G 31) :: rest)) :=
  yput hx hb hown hE hW (T := F_M) (k := 12) (ty := .boolean) ft_M ft_M_ok n_M (by decide) rfl rfl ly_M (by decide) rfl (by decide +kernel) (zb_nar hz) (zb_fit hz) (by decide : 12 < 35) (wI z 31 12 v) (wI_off z 31 12 v) rfl hlink hdg (fun H locs hW => kk _ H locs rfl hW)
theorem ypf_31_13 {v : Int32} (hx : p.tables.exec = Jvm.exec) (hb : c.code = cc) (hown : s.vm.findClass own = some m.cls) (hE : KK l G s) (hW : Wd G z s.heap H locs) (hlink : (Cond.fieldLink own index "PanelOfficeModel" "states" "I").before args s = true) (hdg : decode cc pc = .ok (.putfield index, 3)) (kk : ∀ (z' : St) (H : Heap) (locs : List Loc), z' = wI z 31 13 v → Wd G z' s.heap H locs → W p l e R s m args below meth c H locs cells slots Qg (F0 m (pc + 3) ls rest)) : W p l e R s m args below meth c H locs cells slots Qg (F0 m pc ls (.int v :: .ref (ha G 31) :: rest)) :=
  yput hx hb hown hE hW (T := F_M) (k := 13) (ty := .int) ft_M ft_M_ok n_M (by decide) rfl rfl ly_M (by decide) rfl (by decide +kernel) rfl rfl (by decide : 13 < 35) (wI z 31 13 v) (wI_off z 31 13 v) rfl hlink hdg (fun H locs hW => kk _ H locs rfl hW)
theorem ypf_31_19 {v : Int32} (hx : p.tables.exec = Jvm.exec) (hb : c.code = cc) (hown : s.vm.findClass own = some m.cls) (hE : KK l G s) (hW : Wd G z s.heap H locs) (hz : zb v) (hlink : (Cond.fieldLink own index "PanelOfficeModel" "drawn" "Z").before args s = true) (hdg : decode cc pc = .ok (.putfield index, 3)) (kk : ∀ (z' : St) (H : Heap) (locs : List Loc), z' = wI z 31 19 v → Wd G z' s.heap H locs → W p l e R s m args below meth c H locs cells slots Qg (F0 m (pc + 3) ls rest)) : W p l e R s m args below meth c H locs cells slots Qg (F0 m pc ls (.int v :: .ref (ha G 31) :: rest)) :=
  yput hx hb hown hE hW (T := F_M) (k := 19) (ty := .boolean) ft_M ft_M_ok n_M (by decide) rfl rfl ly_M (by decide) rfl (by decide +kernel) (zb_nar hz) (zb_fit hz) (by decide : 19 < 35) (wI z 31 19 v) (wI_off z 31 19 v) rfl hlink hdg (fun H locs hW => kk _ H locs rfl hW)
theorem ypf_31_21 {v : Int32} (hx : p.tables.exec = Jvm.exec) (hb : c.code = cc) (hown : s.vm.findClass own = some m.cls) (hE : KK l G s) (hW : Wd G z s.heap H locs) (hlink : (Cond.fieldLink own index "PanelOfficeModel" "emptyPlace" "I").before args s = true) (hdg : decode cc pc = .ok (.putfield index, 3)) (kk : ∀ (z' : St) (H : Heap) (locs : List Loc), z' = wI z 31 21 v → Wd G z' s.heap H locs → W p l e R s m args below meth c H locs cells slots Qg (F0 m (pc + 3) ls rest)) : W p l e R s m args below meth c H locs cells slots Qg (F0 m pc ls (.int v :: .ref (ha G 31) :: rest)) :=
  yput hx hb hown hE hW (T := F_M) (k := 21) (ty := .int) ft_M ft_M_ok n_M (by decide) rfl rfl ly_M (by decide) rfl (by decide +kernel) rfl rfl (by decide : 21 < 35) (wI z 31 21 v) (wI_off z 31 21 v) rfl hlink hdg (fun H locs hW => kk _ H locs rfl hW)
theorem ypf_31_23 {v : Int32} (hx : p.tables.exec = Jvm.exec) (hb : c.code = cc) (hown : s.vm.findClass own = some m.cls) (hE : KK l G s) (hW : Wd G z s.heap H locs) (hlink : (Cond.fieldLink own index "PanelOfficeModel" "sides" "I").before args s = true) (hdg : decode cc pc = .ok (.putfield index, 3)) (kk : ∀ (z' : St) (H : Heap) (locs : List Loc), z' = wI z 31 23 v → Wd G z' s.heap H locs → W p l e R s m args below meth c H locs cells slots Qg (F0 m (pc + 3) ls rest)) : W p l e R s m args below meth c H locs cells slots Qg (F0 m pc ls (.int v :: .ref (ha G 31) :: rest)) :=
  yput hx hb hown hE hW (T := F_M) (k := 23) (ty := .int) ft_M ft_M_ok n_M (by decide) rfl rfl ly_M (by decide) rfl (by decide +kernel) rfl rfl (by decide : 23 < 35) (wI z 31 23 v) (wI_off z 31 23 v) rfl hlink hdg (fun H locs hW => kk _ H locs rfl hW)
theorem ypf_31_24 {v : Int32} (hx : p.tables.exec = Jvm.exec) (hb : c.code = cc) (hown : s.vm.findClass own = some m.cls) (hE : KK l G s) (hW : Wd G z s.heap H locs) (hlink : (Cond.fieldLink own index "PanelOfficeModel" "thrownSoFar" "I").before args s = true) (hdg : decode cc pc = .ok (.putfield index, 3)) (kk : ∀ (z' : St) (H : Heap) (locs : List Loc), z' = wI z 31 24 v → Wd G z' s.heap H locs → W p l e R s m args below meth c H locs cells slots Qg (F0 m (pc + 3) ls rest)) : W p l e R s m args below meth c H locs cells slots Qg (F0 m pc ls (.int v :: .ref (ha G 31) :: rest)) :=
  yput hx hb hown hE hW (T := F_M) (k := 24) (ty := .int) ft_M ft_M_ok n_M (by decide) rfl rfl ly_M (by decide) rfl (by decide +kernel) rfl rfl (by decide : 24 < 35) (wI z 31 24 v) (wI_off z 31 24 v) rfl hlink hdg (fun H locs hW => kk _ H locs rfl hW)
theorem ypf_31_25 {v : Int32} (hx : p.tables.exec = Jvm.exec) (hb : c.code = cc) (hown : s.vm.findClass own = some m.cls) (hE : KK l G s) (hW : Wd G z s.heap H locs) (hlink : (Cond.fieldLink own index "PanelOfficeModel" "needed" "I").before args s = true) (hdg : decode cc pc = .ok (.putfield index, 3)) (kk : ∀ (z' : St) (H : Heap) (locs : List Loc), z' = wI z 31 25 v → Wd G z' s.heap H locs → W p l e R s m args below meth c H locs cells slots Qg (F0 m (pc + 3) ls rest)) : W p l e R s m args below meth c H locs cells slots Qg (F0 m pc ls (.int v :: .ref (ha G 31) :: rest)) :=
  yput hx hb hown hE hW (T := F_M) (k := 25) (ty := .int) ft_M ft_M_ok n_M (by decide) rfl rfl ly_M (by decide) rfl (by decide +kernel) rfl rfl (by decide : 25 < 35) (wI z 31 25 v) (wI_off z 31 25 v) rfl hlink hdg (fun H locs hW => kk _ H locs rfl hW)
theorem ypf_31_26 {v : Int64} (hx : p.tables.exec = Jvm.exec) (hb : c.code = cc) (hown : s.vm.findClass own = some m.cls) (hE : KK l G s) (hW : Wd G z s.heap H locs) (hlink : (Cond.fieldLink own index "PanelOfficeModel" "goal" "J").before args s = true) (hdg : decode cc pc = .ok (.putfield index, 3)) (kk : ∀ (z' : St) (H : Heap) (locs : List Loc), z' = wL z 31 26 v → Wd G z' s.heap H locs → W p l e R s m args below meth c H locs cells slots Qg (F0 m (pc + 3) ls rest)) : W p l e R s m args below meth c H locs cells slots Qg (F0 m pc ls (.long v :: .ref (ha G 31) :: rest)) :=
  yput hx hb hown hE hW (T := F_M) (k := 26) (ty := .long) ft_M ft_M_ok n_M (by decide) rfl rfl ly_M (by decide) rfl (by decide +kernel) rfl rfl (by decide : 26 < 35) (wL z 31 26 v) (wL_off z 31 26 v) rfl hlink hdg (fun H locs hW => kk _ H locs rfl hW)
theorem ypf_31_27 {v : Int64} (hx : p.tables.exec = Jvm.exec) (hb : c.code = cc) (hown : s.vm.findClass own = some m.cls) (hE : KK l G s) (hW : Wd G z s.heap H locs) (hlink : (Cond.fieldLink own index "PanelOfficeModel" "digits" "J").before args s = true) (hdg : decode cc pc = .ok (.putfield index, 3)) (kk : ∀ (z' : St) (H : Heap) (locs : List Loc), z' = wL z 31 27 v → Wd G z' s.heap H locs → W p l e R s m args below meth c H locs cells slots Qg (F0 m (pc + 3) ls rest)) : W p l e R s m args below meth c H locs cells slots Qg (F0 m pc ls (.long v :: .ref (ha G 31) :: rest)) :=
  yput hx hb hown hE hW (T := F_M) (k := 27) (ty := .long) ft_M ft_M_ok n_M (by decide) rfl rfl ly_M (by decide) rfl (by decide +kernel) rfl rfl (by decide : 27 < 35) (wL z 31 27 v) (wL_off z 31 27 v) rfl hlink hdg (fun H locs hW => kk _ H locs rfl hW)
theorem ypf_31_28 {v : Int64} (hx : p.tables.exec = Jvm.exec) (hb : c.code = cc) (hown : s.vm.findClass own = some m.cls) (hE : KK l G s) (hW : Wd G z s.heap H locs) (hlink : (Cond.fieldLink own index "PanelOfficeModel" "outcomes" "J").before args s = true) (hdg : decode cc pc = .ok (.putfield index, 3)) (kk : ∀ (z' : St) (H : Heap) (locs : List Loc), z' = wL z 31 28 v → Wd G z' s.heap H locs → W p l e R s m args below meth c H locs cells slots Qg (F0 m (pc + 3) ls rest)) : W p l e R s m args below meth c H locs cells slots Qg (F0 m pc ls (.long v :: .ref (ha G 31) :: rest)) :=
  yput hx hb hown hE hW (T := F_M) (k := 28) (ty := .long) ft_M ft_M_ok n_M (by decide) rfl rfl ly_M (by decide) rfl (by decide +kernel) rfl rfl (by decide : 28 < 35) (wL z 31 28 v) (wL_off z 31 28 v) rfl hlink hdg (fun H locs hW => kk _ H locs rfl hW)
theorem ypf_31_29 {v : Int32} (hx : p.tables.exec = Jvm.exec) (hb : c.code = cc) (hown : s.vm.findClass own = some m.cls) (hE : KK l G s) (hW : Wd G z s.heap H locs) (hz : zb v) (hlink : (Cond.fieldLink own index "PanelOfficeModel" "there" "Z").before args s = true) (hdg : decode cc pc = .ok (.putfield index, 3)) (kk : ∀ (z' : St) (H : Heap) (locs : List Loc), z' = wI z 31 29 v → Wd G z' s.heap H locs → W p l e R s m args below meth c H locs cells slots Qg (F0 m (pc + 3) ls rest)) : W p l e R s m args below meth c H locs cells slots Qg (F0 m pc ls (.int v :: .ref (ha G 31) :: rest)) :=
  yput hx hb hown hE hW (T := F_M) (k := 29) (ty := .boolean) ft_M ft_M_ok n_M (by decide) rfl rfl ly_M (by decide) rfl (by decide +kernel) (zb_nar hz) (zb_fit hz) (by decide : 29 < 35) (wI z 31 29 v) (wI_off z 31 29 v) rfl hlink hdg (fun H locs hW => kk _ H locs rfl hW)
theorem ypf_31_30 {v : Int64} (hx : p.tables.exec = Jvm.exec) (hb : c.code = cc) (hown : s.vm.findClass own = some m.cls) (hE : KK l G s) (hW : Wd G z s.heap H locs) (hlink : (Cond.fieldLink own index "PanelOfficeModel" "number" "J").before args s = true) (hdg : decode cc pc = .ok (.putfield index, 3)) (kk : ∀ (z' : St) (H : Heap) (locs : List Loc), z' = wL z 31 30 v → Wd G z' s.heap H locs → W p l e R s m args below meth c H locs cells slots Qg (F0 m (pc + 3) ls rest)) : W p l e R s m args below meth c H locs cells slots Qg (F0 m pc ls (.long v :: .ref (ha G 31) :: rest)) :=
  yput hx hb hown hE hW (T := F_M) (k := 30) (ty := .long) ft_M ft_M_ok n_M (by decide) rfl rfl ly_M (by decide) rfl (by decide +kernel) rfl rfl (by decide : 30 < 35) (wL z 31 30 v) (wL_off z 31 30 v) rfl hlink hdg (fun H locs hW => kk _ H locs rfl hW)
theorem ypf_31_34 {v : Int32} (hx : p.tables.exec = Jvm.exec) (hb : c.code = cc) (hown : s.vm.findClass own = some m.cls) (hE : KK l G s) (hW : Wd G z s.heap H locs) (hlink : (Cond.fieldLink own index "PanelOfficeModel" "takenCount" "I").before args s = true) (hdg : decode cc pc = .ok (.putfield index, 3)) (kk : ∀ (z' : St) (H : Heap) (locs : List Loc), z' = wI z 31 34 v → Wd G z' s.heap H locs → W p l e R s m args below meth c H locs cells slots Qg (F0 m (pc + 3) ls rest)) : W p l e R s m args below meth c H locs cells slots Qg (F0 m pc ls (.int v :: .ref (ha G 31) :: rest)) :=
  yput hx hb hown hE hW (T := F_M) (k := 34) (ty := .int) ft_M ft_M_ok n_M (by decide) rfl rfl ly_M (by decide) rfl (by decide +kernel) rfl rfl (by decide : 34 < 35) (wI z 31 34 v) (wI_off z 31 34 v) rfl hlink hdg (fun H locs hW => kk _ H locs rfl hW)
theorem ya_2 {i : Int32} (hx : p.tables.exec = Jvm.exec) (hb : c.code = cc) (hE : KK l G s) (hW : Wd G z s.heap H locs) (hi : vp_in i 3) (hdg : decode cc pc = .ok (.iaload, 1)) (kk : W p l e R s m args below meth c H locs cells slots Qg (F0 m (pc + 1) ls (.int (z.1 2 i.toNatClampNeg) :: rest))) : W p l e R s m args below meth c H locs cells slots Qg (F0 m pc ls (.int i :: .ref (ha G 2) :: rest)) := yaI hx hb hE hW (by decide) rfl hi hdg kk
theorem ya_3 {i : Int32} (hx : p.tables.exec = Jvm.exec) (hb : c.code = cc) (hE : KK l G s) (hW : Wd G z s.heap H locs) (hi : vp_in i 40) (hdg : decode cc pc = .ok (.iaload, 1)) (kk : W p l e R s m args below meth c H locs cells slots Qg (F0 m (pc + 1) ls (.int (z.1 3 i.toNatClampNeg) :: rest))) : W p l e R s m args below meth c H locs cells slots Qg (F0 m pc ls (.int i :: .ref (ha G 3) :: rest)) := yaI hx hb hE hW (by decide) rfl hi hdg kk
theorem ya_4 {i : Int32} (hx : p.tables.exec = Jvm.exec) (hb : c.code = cc) (hE : KK l G s) (hW : Wd G z s.heap H locs) (hi : vp_in i 16) (hdg : decode cc pc = .ok (.iaload, 1)) (kk : W p l e R s m args below meth c H locs cells slots Qg (F0 m (pc + 1) ls (.int (z.1 4 i.toNatClampNeg) :: rest))) : W p l e R s m args below meth c H locs cells slots Qg (F0 m pc ls (.int i :: .ref (ha G 4) :: rest)) := yaI hx hb hE hW (by decide) rfl hi hdg kk
theorem ya_5 {i : Int32} (hx : p.tables.exec = Jvm.exec) (hb : c.code = cc) (hE : KK l G s) (hW : Wd G z s.heap H locs) (hi : vp_in i 16) (hdg : decode cc pc = .ok (.iaload, 1)) (kk : W p l e R s m args below meth c H locs cells slots Qg (F0 m (pc + 1) ls (.int (z.1 5 i.toNatClampNeg) :: rest))) : W p l e R s m args below meth c H locs cells slots Qg (F0 m pc ls (.int i :: .ref (ha G 5) :: rest)) := yaI hx hb hE hW (by decide) rfl hi hdg kk
theorem ya_7 {i : Int32} (hx : p.tables.exec = Jvm.exec) (hb : c.code = cc) (hE : KK l G s) (hW : Wd G z s.heap H locs) (hi : vp_in i 12) (hdg : decode cc pc = .ok (.iaload, 1)) (kk : W p l e R s m args below meth c H locs cells slots Qg (F0 m (pc + 1) ls (.int (z.1 7 i.toNatClampNeg) :: rest))) : W p l e R s m args below meth c H locs cells slots Qg (F0 m pc ls (.int i :: .ref (ha G 7) :: rest)) := yaI hx hb hE hW (by decide) rfl hi hdg kk
theorem ya_8 {i : Int32} (hx : p.tables.exec = Jvm.exec) (hb : c.code = cc) (hE : KK l G s) (hW : Wd G z s.heap H locs) (hi : vp_in i 12) (hdg : decode cc pc = .ok (.iaload, 1)) (kk : W p l e R s m args below meth c H locs cells slots Qg (F0 m (pc + 1) ls (.int (z.1 8 i.toNatClampNeg) :: rest))) : W p l e R s m args below meth c H locs cells slots Qg (F0 m pc ls (.int i :: .ref (ha G 8) :: rest)) := yaI hx hb hE hW (by decide) rfl hi hdg kk
theorem ya_10 {i : Int32} (hx : p.tables.exec = Jvm.exec) (hb : c.code = cc) (hE : KK l G s) (hW : Wd G z s.heap H locs) (hi : vp_in i 1001) (hdg : decode cc pc = .ok (.laload, 1)) (kk : W p l e R s m args below meth c H locs cells slots Qg (F0 m (pc + 1) ls (.long (z.2 10 i.toNatClampNeg) :: rest))) : W p l e R s m args below meth c H locs cells slots Qg (F0 m pc ls (.int i :: .ref (ha G 10) :: rest)) := yaJ hx hb hE hW (by decide) rfl hi hdg kk
theorem ya_11 {i : Int32} (hx : p.tables.exec = Jvm.exec) (hb : c.code = cc) (hE : KK l G s) (hW : Wd G z s.heap H locs) (hi : vp_in i 1001) (hdg : decode cc pc = .ok (.iaload, 1)) (kk : W p l e R s m args below meth c H locs cells slots Qg (F0 m (pc + 1) ls (.int (z.1 11 i.toNatClampNeg) :: rest))) : W p l e R s m args below meth c H locs cells slots Qg (F0 m pc ls (.int i :: .ref (ha G 11) :: rest)) := yaI hx hb hE hW (by decide) rfl hi hdg kk
theorem ya_12 {i : Int32} (hx : p.tables.exec = Jvm.exec) (hb : c.code = cc) (hE : KK l G s) (hW : Wd G z s.heap H locs) (hi : vp_in i 1001) (hdg : decode cc pc = .ok (.iaload, 1)) (kk : W p l e R s m args below meth c H locs cells slots Qg (F0 m (pc + 1) ls (.int (z.1 12 i.toNatClampNeg) :: rest))) : W p l e R s m args below meth c H locs cells slots Qg (F0 m pc ls (.int i :: .ref (ha G 12) :: rest)) := yaI hx hb hE hW (by decide) rfl hi hdg kk
theorem ya_13 {i : Int32} (hx : p.tables.exec = Jvm.exec) (hb : c.code = cc) (hE : KK l G s) (hW : Wd G z s.heap H locs) (hi : vp_in i 1001) (hdg : decode cc pc = .ok (.iaload, 1)) (kk : W p l e R s m args below meth c H locs cells slots Qg (F0 m (pc + 1) ls (.int (z.1 13 i.toNatClampNeg) :: rest))) : W p l e R s m args below meth c H locs cells slots Qg (F0 m pc ls (.int i :: .ref (ha G 13) :: rest)) := yaI hx hb hE hW (by decide) rfl hi hdg kk
theorem ya_14 {i : Int32} (hx : p.tables.exec = Jvm.exec) (hb : c.code = cc) (hE : KK l G s) (hW : Wd G z s.heap H locs) (hi : vp_in i 1001) (hdg : decode cc pc = .ok (.laload, 1)) (kk : W p l e R s m args below meth c H locs cells slots Qg (F0 m (pc + 1) ls (.long (z.2 14 i.toNatClampNeg) :: rest))) : W p l e R s m args below meth c H locs cells slots Qg (F0 m pc ls (.int i :: .ref (ha G 14) :: rest)) := yaJ hx hb hE hW (by decide) rfl hi hdg kk
theorem ya_15 {i : Int32} (hx : p.tables.exec = Jvm.exec) (hb : c.code = cc) (hE : KK l G s) (hW : Wd G z s.heap H locs) (hi : vp_in i 1001) (hdg : decode cc pc = .ok (.laload, 1)) (kk : W p l e R s m args below meth c H locs cells slots Qg (F0 m (pc + 1) ls (.long (z.2 15 i.toNatClampNeg) :: rest))) : W p l e R s m args below meth c H locs cells slots Qg (F0 m pc ls (.int i :: .ref (ha G 15) :: rest)) := yaJ hx hb hE hW (by decide) rfl hi hdg kk
theorem ya_16 {i : Int32} (hx : p.tables.exec = Jvm.exec) (hb : c.code = cc) (hE : KK l G s) (hW : Wd G z s.heap H locs) (hi : vp_in i 2048) (hdg : decode cc pc = .ok (.iaload, 1)) (kk : W p l e R s m args below meth c H locs cells slots Qg (F0 m (pc + 1) ls (.int (z.1 16 i.toNatClampNeg) :: rest))) : W p l e R s m args below meth c H locs cells slots Qg (F0 m pc ls (.int i :: .ref (ha G 16) :: rest)) := yaI hx hb hE hW (by decide) rfl hi hdg kk
theorem ya_17 {i : Int32} (hx : p.tables.exec = Jvm.exec) (hb : c.code = cc) (hE : KK l G s) (hW : Wd G z s.heap H locs) (hi : vp_in i 17) (hdg : decode cc pc = .ok (.iaload, 1)) (kk : W p l e R s m args below meth c H locs cells slots Qg (F0 m (pc + 1) ls (.int (z.1 17 i.toNatClampNeg) :: rest))) : W p l e R s m args below meth c H locs cells slots Qg (F0 m pc ls (.int i :: .ref (ha G 17) :: rest)) := yaI hx hb hE hW (by decide) rfl hi hdg kk
theorem ya_18 {i : Int32} (hx : p.tables.exec = Jvm.exec) (hb : c.code = cc) (hE : KK l G s) (hW : Wd G z s.heap H locs) (hi : vp_in i 369) (hdg : decode cc pc = .ok (.iaload, 1)) (kk : W p l e R s m args below meth c H locs cells slots Qg (F0 m (pc + 1) ls (.int (z.1 18 i.toNatClampNeg) :: rest))) : W p l e R s m args below meth c H locs cells slots Qg (F0 m pc ls (.int i :: .ref (ha G 18) :: rest)) := yaI hx hb hE hW (by decide) rfl hi hdg kk
theorem ya_22 {i : Int32} (hx : p.tables.exec = Jvm.exec) (hb : c.code = cc) (hE : KK l G s) (hW : Wd G z s.heap H locs) (hi : vp_in i 12) (hdg : decode cc pc = .ok (.iaload, 1)) (kk : W p l e R s m args below meth c H locs cells slots Qg (F0 m (pc + 1) ls (.int (z.1 22 i.toNatClampNeg) :: rest))) : W p l e R s m args below meth c H locs cells slots Qg (F0 m pc ls (.int i :: .ref (ha G 22) :: rest)) := yaI hx hb hE hW (by decide) rfl hi hdg kk
theorem ya_23 {i : Int32} (hx : p.tables.exec = Jvm.exec) (hb : c.code = cc) (hE : KK l G s) (hW : Wd G z s.heap H locs) (hi : vp_in i 12) (hdg : decode cc pc = .ok (.iaload, 1)) (kk : W p l e R s m args below meth c H locs cells slots Qg (F0 m (pc + 1) ls (.int (z.1 23 i.toNatClampNeg) :: rest))) : W p l e R s m args below meth c H locs cells slots Qg (F0 m pc ls (.int i :: .ref (ha G 23) :: rest)) := yaI hx hb hE hW (by decide) rfl hi hdg kk
theorem ya_24 {i : Int32} (hx : p.tables.exec = Jvm.exec) (hb : c.code = cc) (hE : KK l G s) (hW : Wd G z s.heap H locs) (hi : vp_in i 12) (hdg : decode cc pc = .ok (.iaload, 1)) (kk : W p l e R s m args below meth c H locs cells slots Qg (F0 m (pc + 1) ls (.int (z.1 24 i.toNatClampNeg) :: rest))) : W p l e R s m args below meth c H locs cells slots Qg (F0 m pc ls (.int i :: .ref (ha G 24) :: rest)) := yaI hx hb hE hW (by decide) rfl hi hdg kk
theorem ya_27 {i : Int32} (hx : p.tables.exec = Jvm.exec) (hb : c.code = cc) (hE : KK l G s) (hW : Wd G z s.heap H locs) (hi : vp_in i 8) (hdg : decode cc pc = .ok (.iaload, 1)) (kk : W p l e R s m args below meth c H locs cells slots Qg (F0 m (pc + 1) ls (.int (z.1 27 i.toNatClampNeg) :: rest))) : W p l e R s m args below meth c H locs cells slots Qg (F0 m pc ls (.int i :: .ref (ha G 27) :: rest)) := yaI hx hb hE hW (by decide) rfl hi hdg kk
theorem ya_28 {i : Int32} (hx : p.tables.exec = Jvm.exec) (hb : c.code = cc) (hE : KK l G s) (hW : Wd G z s.heap H locs) (hi : vp_in i 12) (hdg : decode cc pc = .ok (.iaload, 1)) (kk : W p l e R s m args below meth c H locs cells slots Qg (F0 m (pc + 1) ls (.int (z.1 28 i.toNatClampNeg) :: rest))) : W p l e R s m args below meth c H locs cells slots Qg (F0 m pc ls (.int i :: .ref (ha G 28) :: rest)) := yaI hx hb hE hW (by decide) rfl hi hdg kk
theorem ya_29 {i : Int32} (hx : p.tables.exec = Jvm.exec) (hb : c.code = cc) (hE : KK l G s) (hW : Wd G z s.heap H locs) (hi : vp_in i 40) (hdg : decode cc pc = .ok (.iaload, 1)) (kk : W p l e R s m args below meth c H locs cells slots Qg (F0 m (pc + 1) ls (.int (z.1 29 i.toNatClampNeg) :: rest))) : W p l e R s m args below meth c H locs cells slots Qg (F0 m pc ls (.int i :: .ref (ha G 29) :: rest)) := yaI hx hb hE hW (by decide) rfl hi hdg kk
theorem ya_30 {i : Int32} (hx : p.tables.exec = Jvm.exec) (hb : c.code = cc) (hE : KK l G s) (hW : Wd G z s.heap H locs) (hi : vp_in i 8) (hdg : decode cc pc = .ok (.iaload, 1)) (kk : W p l e R s m args below meth c H locs cells slots Qg (F0 m (pc + 1) ls (.int (z.1 30 i.toNatClampNeg) :: rest))) : W p l e R s m args below meth c H locs cells slots Qg (F0 m pc ls (.int i :: .ref (ha G 30) :: rest)) := yaI hx hb hE hW (by decide) rfl hi hdg kk
theorem ya_32 {i : Int32} (hx : p.tables.exec = Jvm.exec) (hb : c.code = cc) (hE : KK l G s) (hW : Wd G z s.heap H locs) (hi : vp_in i 120) (hdg : decode cc pc = .ok (.iaload, 1)) (kk : W p l e R s m args below meth c H locs cells slots Qg (F0 m (pc + 1) ls (.int (z.1 32 i.toNatClampNeg) :: rest))) : W p l e R s m args below meth c H locs cells slots Qg (F0 m pc ls (.int i :: .ref (ha G 32) :: rest)) := yaI hx hb hE hW (by decide) rfl hi hdg kk
theorem ya_33 {i : Int32} (hx : p.tables.exec = Jvm.exec) (hb : c.code = cc) (hE : KK l G s) (hW : Wd G z s.heap H locs) (hi : vp_in i 40) (hdg : decode cc pc = .ok (.baload, 1)) (kk : W p l e R s m args below meth c H locs cells slots Qg (F0 m (pc + 1) ls (.int (z.1 33 i.toNatClampNeg) :: rest))) : W p l e R s m args below meth c H locs cells slots Qg (F0 m pc ls (.int i :: .ref (ha G 33) :: rest)) := yaZ hx hb hE hW (by decide) rfl hi hdg kk
theorem ya_34 {i : Int32} (hx : p.tables.exec = Jvm.exec) (hb : c.code = cc) (hE : KK l G s) (hW : Wd G z s.heap H locs) (hi : vp_in i 3) (hdg : decode cc pc = .ok (.iaload, 1)) (kk : W p l e R s m args below meth c H locs cells slots Qg (F0 m (pc + 1) ls (.int (z.1 34 i.toNatClampNeg) :: rest))) : W p l e R s m args below meth c H locs cells slots Qg (F0 m pc ls (.int i :: .ref (ha G 34) :: rest)) := yaI hx hb hE hW (by decide) rfl hi hdg kk
theorem ya_35 {i : Int32} (hx : p.tables.exec = Jvm.exec) (hb : c.code = cc) (hE : KK l G s) (hW : Wd G z s.heap H locs) (hi : vp_in i 12) (hdg : decode cc pc = .ok (.iaload, 1)) (kk : W p l e R s m args below meth c H locs cells slots Qg (F0 m (pc + 1) ls (.int (z.1 35 i.toNatClampNeg) :: rest))) : W p l e R s m args below meth c H locs cells slots Qg (F0 m pc ls (.int i :: .ref (ha G 35) :: rest)) := yaI hx hb hE hW (by decide) rfl hi hdg kk
theorem ya_36 {i : Int32} (hx : p.tables.exec = Jvm.exec) (hb : c.code = cc) (hE : KK l G s) (hW : Wd G z s.heap H locs) (hi : vp_in i 12) (hdg : decode cc pc = .ok (.iaload, 1)) (kk : W p l e R s m args below meth c H locs cells slots Qg (F0 m (pc + 1) ls (.int (z.1 36 i.toNatClampNeg) :: rest))) : W p l e R s m args below meth c H locs cells slots Qg (F0 m pc ls (.int i :: .ref (ha G 36) :: rest)) := yaI hx hb hE hW (by decide) rfl hi hdg kk
theorem ya_37 {i : Int32} (hx : p.tables.exec = Jvm.exec) (hb : c.code = cc) (hE : KK l G s) (hW : Wd G z s.heap H locs) (hi : vp_in i 17) (hdg : decode cc pc = .ok (.iaload, 1)) (kk : W p l e R s m args below meth c H locs cells slots Qg (F0 m (pc + 1) ls (.int (z.1 37 i.toNatClampNeg) :: rest))) : W p l e R s m args below meth c H locs cells slots Qg (F0 m pc ls (.int i :: .ref (ha G 37) :: rest)) := yaI hx hb hE hW (by decide) rfl hi hdg kk
theorem ya_38 {i : Int32} (hx : p.tables.exec = Jvm.exec) (hb : c.code = cc) (hE : KK l G s) (hW : Wd G z s.heap H locs) (hi : vp_in i 17) (hdg : decode cc pc = .ok (.iaload, 1)) (kk : W p l e R s m args below meth c H locs cells slots Qg (F0 m (pc + 1) ls (.int (z.1 38 i.toNatClampNeg) :: rest))) : W p l e R s m args below meth c H locs cells slots Qg (F0 m pc ls (.int i :: .ref (ha G 38) :: rest)) := yaI hx hb hE hW (by decide) rfl hi hdg kk
theorem ya_39 {i : Int32} (hx : p.tables.exec = Jvm.exec) (hb : c.code = cc) (hE : KK l G s) (hW : Wd G z s.heap H locs) (hi : vp_in i 18) (hdg : decode cc pc = .ok (.iaload, 1)) (kk : W p l e R s m args below meth c H locs cells slots Qg (F0 m (pc + 1) ls (.int (z.1 39 i.toNatClampNeg) :: rest))) : W p l e R s m args below meth c H locs cells slots Qg (F0 m pc ls (.int i :: .ref (ha G 39) :: rest)) := yaI hx hb hE hW (by decide) rfl hi hdg kk
theorem ya_40 {i : Int32} (hx : p.tables.exec = Jvm.exec) (hb : c.code = cc) (hE : KK l G s) (hW : Wd G z s.heap H locs) (hi : vp_in i 1010) (hdg : decode cc pc = .ok (.laload, 1)) (kk : W p l e R s m args below meth c H locs cells slots Qg (F0 m (pc + 1) ls (.long (z.2 40 i.toNatClampNeg) :: rest))) : W p l e R s m args below meth c H locs cells slots Qg (F0 m pc ls (.int i :: .ref (ha G 40) :: rest)) := yaJ hx hb hE hW (by decide) rfl hi hdg kk
theorem ya_41 {i : Int32} (hx : p.tables.exec = Jvm.exec) (hb : c.code = cc) (hE : KK l G s) (hW : Wd G z s.heap H locs) (hi : vp_in i 1010) (hdg : decode cc pc = .ok (.laload, 1)) (kk : W p l e R s m args below meth c H locs cells slots Qg (F0 m (pc + 1) ls (.long (z.2 41 i.toNatClampNeg) :: rest))) : W p l e R s m args below meth c H locs cells slots Qg (F0 m pc ls (.int i :: .ref (ha G 41) :: rest)) := yaJ hx hb hE hW (by decide) rfl hi hdg kk
theorem ya_42 {i : Int32} (hx : p.tables.exec = Jvm.exec) (hb : c.code = cc) (hE : KK l G s) (hW : Wd G z s.heap H locs) (hi : vp_in i 1010) (hdg : decode cc pc = .ok (.iaload, 1)) (kk : W p l e R s m args below meth c H locs cells slots Qg (F0 m (pc + 1) ls (.int (z.1 42 i.toNatClampNeg) :: rest))) : W p l e R s m args below meth c H locs cells slots Qg (F0 m pc ls (.int i :: .ref (ha G 42) :: rest)) := yaI hx hb hE hW (by decide) rfl hi hdg kk
theorem ya_43 {i : Int32} (hx : p.tables.exec = Jvm.exec) (hb : c.code = cc) (hE : KK l G s) (hW : Wd G z s.heap H locs) (hi : vp_in i 4096) (hdg : decode cc pc = .ok (.iaload, 1)) (kk : W p l e R s m args below meth c H locs cells slots Qg (F0 m (pc + 1) ls (.int (z.1 43 i.toNatClampNeg) :: rest))) : W p l e R s m args below meth c H locs cells slots Qg (F0 m pc ls (.int i :: .ref (ha G 43) :: rest)) := yaI hx hb hE hW (by decide) rfl hi hdg kk
theorem ya_44 {i : Int32} (hx : p.tables.exec = Jvm.exec) (hb : c.code = cc) (hE : KK l G s) (hW : Wd G z s.heap H locs) (hi : vp_in i 8) (hdg : decode cc pc = .ok (.iaload, 1)) (kk : W p l e R s m args below meth c H locs cells slots Qg (F0 m (pc + 1) ls (.int (z.1 44 i.toNatClampNeg) :: rest))) : W p l e R s m args below meth c H locs cells slots Qg (F0 m pc ls (.int i :: .ref (ha G 44) :: rest)) := yaI hx hb hE hW (by decide) rfl hi hdg kk
theorem ya_45 {i : Int32} (hx : p.tables.exec = Jvm.exec) (hb : c.code = cc) (hE : KK l G s) (hW : Wd G z s.heap H locs) (hi : vp_in i 40) (hdg : decode cc pc = .ok (.baload, 1)) (kk : W p l e R s m args below meth c H locs cells slots Qg (F0 m (pc + 1) ls (.int (z.1 45 i.toNatClampNeg) :: rest))) : W p l e R s m args below meth c H locs cells slots Qg (F0 m pc ls (.int i :: .ref (ha G 45) :: rest)) := yaZ hx hb hE hW (by decide) rfl hi hdg kk
theorem ya_46 {i : Int32} (hx : p.tables.exec = Jvm.exec) (hb : c.code = cc) (hE : KK l G s) (hW : Wd G z s.heap H locs) (hi : vp_in i 12) (hdg : decode cc pc = .ok (.iaload, 1)) (kk : W p l e R s m args below meth c H locs cells slots Qg (F0 m (pc + 1) ls (.int (z.1 46 i.toNatClampNeg) :: rest))) : W p l e R s m args below meth c H locs cells slots Qg (F0 m pc ls (.int i :: .ref (ha G 46) :: rest)) := yaI hx hb hE hW (by decide) rfl hi hdg kk
theorem ya_47 {i : Int32} (hx : p.tables.exec = Jvm.exec) (hb : c.code = cc) (hE : KK l G s) (hW : Wd G z s.heap H locs) (hi : vp_in i 12) (hdg : decode cc pc = .ok (.iaload, 1)) (kk : W p l e R s m args below meth c H locs cells slots Qg (F0 m (pc + 1) ls (.int (z.1 47 i.toNatClampNeg) :: rest))) : W p l e R s m args below meth c H locs cells slots Qg (F0 m pc ls (.int i :: .ref (ha G 47) :: rest)) := yaI hx hb hE hW (by decide) rfl hi hdg kk
theorem ya_48 {i : Int32} (hx : p.tables.exec = Jvm.exec) (hb : c.code = cc) (hE : KK l G s) (hW : Wd G z s.heap H locs) (hi : vp_in i 8) (hdg : decode cc pc = .ok (.iaload, 1)) (kk : W p l e R s m args below meth c H locs cells slots Qg (F0 m (pc + 1) ls (.int (z.1 48 i.toNatClampNeg) :: rest))) : W p l e R s m args below meth c H locs cells slots Qg (F0 m pc ls (.int i :: .ref (ha G 48) :: rest)) := yaI hx hb hE hW (by decide) rfl hi hdg kk
theorem ys_2 {i : Int32} {v : Int32} (hx : p.tables.exec = Jvm.exec) (hb : c.code = cc) (hE : KK l G s) (hW : Wd G z s.heap H locs) (hi : vp_in i 3) (hdg : decode cc pc = .ok (.iastore, 1)) (kk : ∀ (z' : St) (H : Heap) (locs : List Loc), z' = wI z 2 i.toNatClampNeg v → Wd G z' s.heap H locs → W p l e R s m args below meth c H locs cells slots Qg (F0 m (pc + 1) ls rest)) : W p l e R s m args below meth c H locs cells slots Qg (F0 m pc ls (.int v :: .int i :: .ref (ha G 2) :: rest)) := ysI hx hb hE hW (by decide) (fun _ _ => rfl) hi hdg kk
theorem ys_3 {i : Int32} {v : Int32} (hx : p.tables.exec = Jvm.exec) (hb : c.code = cc) (hE : KK l G s) (hW : Wd G z s.heap H locs) (hi : vp_in i 40) (hdg : decode cc pc = .ok (.iastore, 1)) (kk : ∀ (z' : St) (H : Heap) (locs : List Loc), z' = wI z 3 i.toNatClampNeg v → Wd G z' s.heap H locs → W p l e R s m args below meth c H locs cells slots Qg (F0 m (pc + 1) ls rest)) : W p l e R s m args below meth c H locs cells slots Qg (F0 m pc ls (.int v :: .int i :: .ref (ha G 3) :: rest)) := ysI hx hb hE hW (by decide) (fun _ _ => rfl) hi hdg kk
theorem ys_4 {i : Int32} {v : Int32} (hx : p.tables.exec = Jvm.exec) (hb : c.code = cc) (hE : KK l G s) (hW : Wd G z s.heap H locs) (hi : vp_in i 16) (hdg : decode cc pc = .ok (.iastore, 1)) (kk : ∀ (z' : St) (H : Heap) (locs : List Loc), z' = wI z 4 i.toNatClampNeg v → Wd G z' s.heap H locs → W p l e R s m args below meth c H locs cells slots Qg (F0 m (pc + 1) ls rest)) : W p l e R s m args below meth c H locs cells slots Qg (F0 m pc ls (.int v :: .int i :: .ref (ha G 4) :: rest)) := ysI hx hb hE hW (by decide) (fun _ _ => rfl) hi hdg kk
theorem ys_5 {i : Int32} {v : Int32} (hx : p.tables.exec = Jvm.exec) (hb : c.code = cc) (hE : KK l G s) (hW : Wd G z s.heap H locs) (hi : vp_in i 16) (hdg : decode cc pc = .ok (.iastore, 1)) (kk : ∀ (z' : St) (H : Heap) (locs : List Loc), z' = wI z 5 i.toNatClampNeg v → Wd G z' s.heap H locs → W p l e R s m args below meth c H locs cells slots Qg (F0 m (pc + 1) ls rest)) : W p l e R s m args below meth c H locs cells slots Qg (F0 m pc ls (.int v :: .int i :: .ref (ha G 5) :: rest)) := ysI hx hb hE hW (by decide) (fun _ _ => rfl) hi hdg kk
theorem ys_7 {i : Int32} {v : Int32} (hx : p.tables.exec = Jvm.exec) (hb : c.code = cc) (hE : KK l G s) (hW : Wd G z s.heap H locs) (hi : vp_in i 12) (hdg : decode cc pc = .ok (.iastore, 1)) (kk : ∀ (z' : St) (H : Heap) (locs : List Loc), z' = wI z 7 i.toNatClampNeg v → Wd G z' s.heap H locs → W p l e R s m args below meth c H locs cells slots Qg (F0 m (pc + 1) ls rest)) : W p l e R s m args below meth c H locs cells slots Qg (F0 m pc ls (.int v :: .int i :: .ref (ha G 7) :: rest)) := ysI hx hb hE hW (by decide) (fun _ _ => rfl) hi hdg kk
theorem ys_8 {i : Int32} {v : Int32} (hx : p.tables.exec = Jvm.exec) (hb : c.code = cc) (hE : KK l G s) (hW : Wd G z s.heap H locs) (hi : vp_in i 12) (hdg : decode cc pc = .ok (.iastore, 1)) (kk : ∀ (z' : St) (H : Heap) (locs : List Loc), z' = wI z 8 i.toNatClampNeg v → Wd G z' s.heap H locs → W p l e R s m args below meth c H locs cells slots Qg (F0 m (pc + 1) ls rest)) : W p l e R s m args below meth c H locs cells slots Qg (F0 m pc ls (.int v :: .int i :: .ref (ha G 8) :: rest)) := ysI hx hb hE hW (by decide) (fun _ _ => rfl) hi hdg kk
theorem ys_10 {i : Int32} {v : Int64} (hx : p.tables.exec = Jvm.exec) (hb : c.code = cc) (hE : KK l G s) (hW : Wd G z s.heap H locs) (hi : vp_in i 1001) (hdg : decode cc pc = .ok (.lastore, 1)) (kk : ∀ (z' : St) (H : Heap) (locs : List Loc), z' = wL z 10 i.toNatClampNeg v → Wd G z' s.heap H locs → W p l e R s m args below meth c H locs cells slots Qg (F0 m (pc + 1) ls rest)) : W p l e R s m args below meth c H locs cells slots Qg (F0 m pc ls (.long v :: .int i :: .ref (ha G 10) :: rest)) := ysJ hx hb hE hW (by decide) (fun _ _ => rfl) hi hdg kk
theorem ys_11 {i : Int32} {v : Int32} (hx : p.tables.exec = Jvm.exec) (hb : c.code = cc) (hE : KK l G s) (hW : Wd G z s.heap H locs) (hi : vp_in i 1001) (hdg : decode cc pc = .ok (.iastore, 1)) (kk : ∀ (z' : St) (H : Heap) (locs : List Loc), z' = wI z 11 i.toNatClampNeg v → Wd G z' s.heap H locs → W p l e R s m args below meth c H locs cells slots Qg (F0 m (pc + 1) ls rest)) : W p l e R s m args below meth c H locs cells slots Qg (F0 m pc ls (.int v :: .int i :: .ref (ha G 11) :: rest)) := ysI hx hb hE hW (by decide) (fun _ _ => rfl) hi hdg kk
theorem ys_12 {i : Int32} {v : Int32} (hx : p.tables.exec = Jvm.exec) (hb : c.code = cc) (hE : KK l G s) (hW : Wd G z s.heap H locs) (hi : vp_in i 1001) (hdg : decode cc pc = .ok (.iastore, 1)) (kk : ∀ (z' : St) (H : Heap) (locs : List Loc), z' = wI z 12 i.toNatClampNeg v → Wd G z' s.heap H locs → W p l e R s m args below meth c H locs cells slots Qg (F0 m (pc + 1) ls rest)) : W p l e R s m args below meth c H locs cells slots Qg (F0 m pc ls (.int v :: .int i :: .ref (ha G 12) :: rest)) := ysI hx hb hE hW (by decide) (fun _ _ => rfl) hi hdg kk
theorem ys_13 {i : Int32} {v : Int32} (hx : p.tables.exec = Jvm.exec) (hb : c.code = cc) (hE : KK l G s) (hW : Wd G z s.heap H locs) (hi : vp_in i 1001) (hdg : decode cc pc = .ok (.iastore, 1)) (kk : ∀ (z' : St) (H : Heap) (locs : List Loc), z' = wI z 13 i.toNatClampNeg v → Wd G z' s.heap H locs → W p l e R s m args below meth c H locs cells slots Qg (F0 m (pc + 1) ls rest)) : W p l e R s m args below meth c H locs cells slots Qg (F0 m pc ls (.int v :: .int i :: .ref (ha G 13) :: rest)) := ysI hx hb hE hW (by decide) (fun _ _ => rfl) hi hdg kk
theorem ys_14 {i : Int32} {v : Int64} (hx : p.tables.exec = Jvm.exec) (hb : c.code = cc) (hE : KK l G s) (hW : Wd G z s.heap H locs) (hi : vp_in i 1001) (hdg : decode cc pc = .ok (.lastore, 1)) (kk : ∀ (z' : St) (H : Heap) (locs : List Loc), z' = wL z 14 i.toNatClampNeg v → Wd G z' s.heap H locs → W p l e R s m args below meth c H locs cells slots Qg (F0 m (pc + 1) ls rest)) : W p l e R s m args below meth c H locs cells slots Qg (F0 m pc ls (.long v :: .int i :: .ref (ha G 14) :: rest)) := ysJ hx hb hE hW (by decide) (fun _ _ => rfl) hi hdg kk
theorem ys_15 {i : Int32} {v : Int64} (hx : p.tables.exec = Jvm.exec) (hb : c.code = cc) (hE : KK l G s) (hW : Wd G z s.heap H locs) (hi : vp_in i 1001) (hdg : decode cc pc = .ok (.lastore, 1)) (kk : ∀ (z' : St) (H : Heap) (locs : List Loc), z' = wL z 15 i.toNatClampNeg v → Wd G z' s.heap H locs → W p l e R s m args below meth c H locs cells slots Qg (F0 m (pc + 1) ls rest)) : W p l e R s m args below meth c H locs cells slots Qg (F0 m pc ls (.long v :: .int i :: .ref (ha G 15) :: rest)) := ysJ hx hb hE hW (by decide) (fun _ _ => rfl) hi hdg kk
theorem ys_16 {i : Int32} {v : Int32} (hx : p.tables.exec = Jvm.exec) (hb : c.code = cc) (hE : KK l G s) (hW : Wd G z s.heap H locs) (hi : vp_in i 2048) (hdg : decode cc pc = .ok (.iastore, 1)) (kk : ∀ (z' : St) (H : Heap) (locs : List Loc), z' = wI z 16 i.toNatClampNeg v → Wd G z' s.heap H locs → W p l e R s m args below meth c H locs cells slots Qg (F0 m (pc + 1) ls rest)) : W p l e R s m args below meth c H locs cells slots Qg (F0 m pc ls (.int v :: .int i :: .ref (ha G 16) :: rest)) := ysI hx hb hE hW (by decide) (fun _ _ => rfl) hi hdg kk
theorem ys_17 {i : Int32} {v : Int32} (hx : p.tables.exec = Jvm.exec) (hb : c.code = cc) (hE : KK l G s) (hW : Wd G z s.heap H locs) (hi : vp_in i 17) (hdg : decode cc pc = .ok (.iastore, 1)) (kk : ∀ (z' : St) (H : Heap) (locs : List Loc), z' = wI z 17 i.toNatClampNeg v → Wd G z' s.heap H locs → W p l e R s m args below meth c H locs cells slots Qg (F0 m (pc + 1) ls rest)) : W p l e R s m args below meth c H locs cells slots Qg (F0 m pc ls (.int v :: .int i :: .ref (ha G 17) :: rest)) := ysI hx hb hE hW (by decide) (fun _ _ => rfl) hi hdg kk
theorem ys_22 {i : Int32} {v : Int32} (hx : p.tables.exec = Jvm.exec) (hb : c.code = cc) (hE : KK l G s) (hW : Wd G z s.heap H locs) (hi : vp_in i 12) (hdg : decode cc pc = .ok (.iastore, 1)) (kk : ∀ (z' : St) (H : Heap) (locs : List Loc), z' = wI z 22 i.toNatClampNeg v → Wd G z' s.heap H locs → W p l e R s m args below meth c H locs cells slots Qg (F0 m (pc + 1) ls rest)) : W p l e R s m args below meth c H locs cells slots Qg (F0 m pc ls (.int v :: .int i :: .ref (ha G 22) :: rest)) := ysI hx hb hE hW (by decide) (fun _ _ => rfl) hi hdg kk
theorem ys_23 {i : Int32} {v : Int32} (hx : p.tables.exec = Jvm.exec) (hb : c.code = cc) (hE : KK l G s) (hW : Wd G z s.heap H locs) (hi : vp_in i 12) (hdg : decode cc pc = .ok (.iastore, 1)) (kk : ∀ (z' : St) (H : Heap) (locs : List Loc), z' = wI z 23 i.toNatClampNeg v → Wd G z' s.heap H locs → W p l e R s m args below meth c H locs cells slots Qg (F0 m (pc + 1) ls rest)) : W p l e R s m args below meth c H locs cells slots Qg (F0 m pc ls (.int v :: .int i :: .ref (ha G 23) :: rest)) := ysI hx hb hE hW (by decide) (fun _ _ => rfl) hi hdg kk
theorem ys_24 {i : Int32} {v : Int32} (hx : p.tables.exec = Jvm.exec) (hb : c.code = cc) (hE : KK l G s) (hW : Wd G z s.heap H locs) (hi : vp_in i 12) (hdg : decode cc pc = .ok (.iastore, 1)) (kk : ∀ (z' : St) (H : Heap) (locs : List Loc), z' = wI z 24 i.toNatClampNeg v → Wd G z' s.heap H locs → W p l e R s m args below meth c H locs cells slots Qg (F0 m (pc + 1) ls rest)) : W p l e R s m args below meth c H locs cells slots Qg (F0 m pc ls (.int v :: .int i :: .ref (ha G 24) :: rest)) := ysI hx hb hE hW (by decide) (fun _ _ => rfl) hi hdg kk
theorem ys_27 {i : Int32} {v : Int32} (hx : p.tables.exec = Jvm.exec) (hb : c.code = cc) (hE : KK l G s) (hW : Wd G z s.heap H locs) (hi : vp_in i 8) (hdg : decode cc pc = .ok (.iastore, 1)) (kk : ∀ (z' : St) (H : Heap) (locs : List Loc), z' = wI z 27 i.toNatClampNeg v → Wd G z' s.heap H locs → W p l e R s m args below meth c H locs cells slots Qg (F0 m (pc + 1) ls rest)) : W p l e R s m args below meth c H locs cells slots Qg (F0 m pc ls (.int v :: .int i :: .ref (ha G 27) :: rest)) := ysI hx hb hE hW (by decide) (fun _ _ => rfl) hi hdg kk
theorem ys_28 {i : Int32} {v : Int32} (hx : p.tables.exec = Jvm.exec) (hb : c.code = cc) (hE : KK l G s) (hW : Wd G z s.heap H locs) (hi : vp_in i 12) (hdg : decode cc pc = .ok (.iastore, 1)) (kk : ∀ (z' : St) (H : Heap) (locs : List Loc), z' = wI z 28 i.toNatClampNeg v → Wd G z' s.heap H locs → W p l e R s m args below meth c H locs cells slots Qg (F0 m (pc + 1) ls rest)) : W p l e R s m args below meth c H locs cells slots Qg (F0 m pc ls (.int v :: .int i :: .ref (ha G 28) :: rest)) := ysI hx hb hE hW (by decide) (fun _ _ => rfl) hi hdg kk
theorem ys_29 {i : Int32} {v : Int32} (hx : p.tables.exec = Jvm.exec) (hb : c.code = cc) (hE : KK l G s) (hW : Wd G z s.heap H locs) (hi : vp_in i 40) (hdg : decode cc pc = .ok (.iastore, 1)) (kk : ∀ (z' : St) (H : Heap) (locs : List Loc), z' = wI z 29 i.toNatClampNeg v → Wd G z' s.heap H locs → W p l e R s m args below meth c H locs cells slots Qg (F0 m (pc + 1) ls rest)) : W p l e R s m args below meth c H locs cells slots Qg (F0 m pc ls (.int v :: .int i :: .ref (ha G 29) :: rest)) := ysI hx hb hE hW (by decide) (fun _ _ => rfl) hi hdg kk
theorem ys_30 {i : Int32} {v : Int32} (hx : p.tables.exec = Jvm.exec) (hb : c.code = cc) (hE : KK l G s) (hW : Wd G z s.heap H locs) (hi : vp_in i 8) (hdg : decode cc pc = .ok (.iastore, 1)) (kk : ∀ (z' : St) (H : Heap) (locs : List Loc), z' = wI z 30 i.toNatClampNeg v → Wd G z' s.heap H locs → W p l e R s m args below meth c H locs cells slots Qg (F0 m (pc + 1) ls rest)) : W p l e R s m args below meth c H locs cells slots Qg (F0 m pc ls (.int v :: .int i :: .ref (ha G 30) :: rest)) := ysI hx hb hE hW (by decide) (fun _ _ => rfl) hi hdg kk
theorem ys_32 {i : Int32} {v : Int32} (hx : p.tables.exec = Jvm.exec) (hb : c.code = cc) (hE : KK l G s) (hW : Wd G z s.heap H locs) (hi : vp_in i 120) (hdg : decode cc pc = .ok (.iastore, 1)) (kk : ∀ (z' : St) (H : Heap) (locs : List Loc), z' = wI z 32 i.toNatClampNeg v → Wd G z' s.heap H locs → W p l e R s m args below meth c H locs cells slots Qg (F0 m (pc + 1) ls rest)) : W p l e R s m args below meth c H locs cells slots Qg (F0 m pc ls (.int v :: .int i :: .ref (ha G 32) :: rest)) := ysI hx hb hE hW (by decide) (fun _ _ => rfl) hi hdg kk
theorem ys_33 {i : Int32} {v : Int32} (hx : p.tables.exec = Jvm.exec) (hb : c.code = cc) (hE : KK l G s) (hW : Wd G z s.heap H locs) (hz : zb v) (hi : vp_in i 40) (hdg : decode cc pc = .ok (.bastore, 1)) (kk : ∀ (z' : St) (H : Heap) (locs : List Loc), z' = wI z 33 i.toNatClampNeg v → Wd G z' s.heap H locs → W p l e R s m args below meth c H locs cells slots Qg (F0 m (pc + 1) ls rest)) : W p l e R s m args below meth c H locs cells slots Qg (F0 m pc ls (.int v :: .int i :: .ref (ha G 33) :: rest)) := ysZ hx hb hE hW hz (by decide) (fun _ _ => rfl) hi hdg kk
theorem ys_34 {i : Int32} {v : Int32} (hx : p.tables.exec = Jvm.exec) (hb : c.code = cc) (hE : KK l G s) (hW : Wd G z s.heap H locs) (hi : vp_in i 3) (hdg : decode cc pc = .ok (.iastore, 1)) (kk : ∀ (z' : St) (H : Heap) (locs : List Loc), z' = wI z 34 i.toNatClampNeg v → Wd G z' s.heap H locs → W p l e R s m args below meth c H locs cells slots Qg (F0 m (pc + 1) ls rest)) : W p l e R s m args below meth c H locs cells slots Qg (F0 m pc ls (.int v :: .int i :: .ref (ha G 34) :: rest)) := ysI hx hb hE hW (by decide) (fun _ _ => rfl) hi hdg kk
theorem ys_35 {i : Int32} {v : Int32} (hx : p.tables.exec = Jvm.exec) (hb : c.code = cc) (hE : KK l G s) (hW : Wd G z s.heap H locs) (hi : vp_in i 12) (hdg : decode cc pc = .ok (.iastore, 1)) (kk : ∀ (z' : St) (H : Heap) (locs : List Loc), z' = wI z 35 i.toNatClampNeg v → Wd G z' s.heap H locs → W p l e R s m args below meth c H locs cells slots Qg (F0 m (pc + 1) ls rest)) : W p l e R s m args below meth c H locs cells slots Qg (F0 m pc ls (.int v :: .int i :: .ref (ha G 35) :: rest)) := ysI hx hb hE hW (by decide) (fun _ _ => rfl) hi hdg kk
theorem ys_36 {i : Int32} {v : Int32} (hx : p.tables.exec = Jvm.exec) (hb : c.code = cc) (hE : KK l G s) (hW : Wd G z s.heap H locs) (hi : vp_in i 12) (hdg : decode cc pc = .ok (.iastore, 1)) (kk : ∀ (z' : St) (H : Heap) (locs : List Loc), z' = wI z 36 i.toNatClampNeg v → Wd G z' s.heap H locs → W p l e R s m args below meth c H locs cells slots Qg (F0 m (pc + 1) ls rest)) : W p l e R s m args below meth c H locs cells slots Qg (F0 m pc ls (.int v :: .int i :: .ref (ha G 36) :: rest)) := ysI hx hb hE hW (by decide) (fun _ _ => rfl) hi hdg kk
theorem ys_37 {i : Int32} {v : Int32} (hx : p.tables.exec = Jvm.exec) (hb : c.code = cc) (hE : KK l G s) (hW : Wd G z s.heap H locs) (hi : vp_in i 17) (hdg : decode cc pc = .ok (.iastore, 1)) (kk : ∀ (z' : St) (H : Heap) (locs : List Loc), z' = wI z 37 i.toNatClampNeg v → Wd G z' s.heap H locs → W p l e R s m args below meth c H locs cells slots Qg (F0 m (pc + 1) ls rest)) : W p l e R s m args below meth c H locs cells slots Qg (F0 m pc ls (.int v :: .int i :: .ref (ha G 37) :: rest)) := ysI hx hb hE hW (by decide) (fun _ _ => rfl) hi hdg kk
theorem ys_38 {i : Int32} {v : Int32} (hx : p.tables.exec = Jvm.exec) (hb : c.code = cc) (hE : KK l G s) (hW : Wd G z s.heap H locs) (hi : vp_in i 17) (hdg : decode cc pc = .ok (.iastore, 1)) (kk : ∀ (z' : St) (H : Heap) (locs : List Loc), z' = wI z 38 i.toNatClampNeg v → Wd G z' s.heap H locs → W p l e R s m args below meth c H locs cells slots Qg (F0 m (pc + 1) ls rest)) : W p l e R s m args below meth c H locs cells slots Qg (F0 m pc ls (.int v :: .int i :: .ref (ha G 38) :: rest)) := ysI hx hb hE hW (by decide) (fun _ _ => rfl) hi hdg kk
theorem ys_39 {i : Int32} {v : Int32} (hx : p.tables.exec = Jvm.exec) (hb : c.code = cc) (hE : KK l G s) (hW : Wd G z s.heap H locs) (hi : vp_in i 18) (hdg : decode cc pc = .ok (.iastore, 1)) (kk : ∀ (z' : St) (H : Heap) (locs : List Loc), z' = wI z 39 i.toNatClampNeg v → Wd G z' s.heap H locs → W p l e R s m args below meth c H locs cells slots Qg (F0 m (pc + 1) ls rest)) : W p l e R s m args below meth c H locs cells slots Qg (F0 m pc ls (.int v :: .int i :: .ref (ha G 39) :: rest)) := ysI hx hb hE hW (by decide) (fun _ _ => rfl) hi hdg kk
theorem ys_40 {i : Int32} {v : Int64} (hx : p.tables.exec = Jvm.exec) (hb : c.code = cc) (hE : KK l G s) (hW : Wd G z s.heap H locs) (hi : vp_in i 1010) (hdg : decode cc pc = .ok (.lastore, 1)) (kk : ∀ (z' : St) (H : Heap) (locs : List Loc), z' = wL z 40 i.toNatClampNeg v → Wd G z' s.heap H locs → W p l e R s m args below meth c H locs cells slots Qg (F0 m (pc + 1) ls rest)) : W p l e R s m args below meth c H locs cells slots Qg (F0 m pc ls (.long v :: .int i :: .ref (ha G 40) :: rest)) := ysJ hx hb hE hW (by decide) (fun _ _ => rfl) hi hdg kk
theorem ys_41 {i : Int32} {v : Int64} (hx : p.tables.exec = Jvm.exec) (hb : c.code = cc) (hE : KK l G s) (hW : Wd G z s.heap H locs) (hi : vp_in i 1010) (hdg : decode cc pc = .ok (.lastore, 1)) (kk : ∀ (z' : St) (H : Heap) (locs : List Loc), z' = wL z 41 i.toNatClampNeg v → Wd G z' s.heap H locs → W p l e R s m args below meth c H locs cells slots Qg (F0 m (pc + 1) ls rest)) : W p l e R s m args below meth c H locs cells slots Qg (F0 m pc ls (.long v :: .int i :: .ref (ha G 41) :: rest)) := ysJ hx hb hE hW (by decide) (fun _ _ => rfl) hi hdg kk
theorem ys_42 {i : Int32} {v : Int32} (hx : p.tables.exec = Jvm.exec) (hb : c.code = cc) (hE : KK l G s) (hW : Wd G z s.heap H locs) (hi : vp_in i 1010) (hdg : decode cc pc = .ok (.iastore, 1)) (kk : ∀ (z' : St) (H : Heap) (locs : List Loc), z' = wI z 42 i.toNatClampNeg v → Wd G z' s.heap H locs → W p l e R s m args below meth c H locs cells slots Qg (F0 m (pc + 1) ls rest)) : W p l e R s m args below meth c H locs cells slots Qg (F0 m pc ls (.int v :: .int i :: .ref (ha G 42) :: rest)) := ysI hx hb hE hW (by decide) (fun _ _ => rfl) hi hdg kk
theorem ys_43 {i : Int32} {v : Int32} (hx : p.tables.exec = Jvm.exec) (hb : c.code = cc) (hE : KK l G s) (hW : Wd G z s.heap H locs) (hi : vp_in i 4096) (hdg : decode cc pc = .ok (.iastore, 1)) (kk : ∀ (z' : St) (H : Heap) (locs : List Loc), z' = wI z 43 i.toNatClampNeg v → Wd G z' s.heap H locs → W p l e R s m args below meth c H locs cells slots Qg (F0 m (pc + 1) ls rest)) : W p l e R s m args below meth c H locs cells slots Qg (F0 m pc ls (.int v :: .int i :: .ref (ha G 43) :: rest)) := ysI hx hb hE hW (by decide) (fun _ _ => rfl) hi hdg kk
theorem ys_44 {i : Int32} {v : Int32} (hx : p.tables.exec = Jvm.exec) (hb : c.code = cc) (hE : KK l G s) (hW : Wd G z s.heap H locs) (hi : vp_in i 8) (hdg : decode cc pc = .ok (.iastore, 1)) (kk : ∀ (z' : St) (H : Heap) (locs : List Loc), z' = wI z 44 i.toNatClampNeg v → Wd G z' s.heap H locs → W p l e R s m args below meth c H locs cells slots Qg (F0 m (pc + 1) ls rest)) : W p l e R s m args below meth c H locs cells slots Qg (F0 m pc ls (.int v :: .int i :: .ref (ha G 44) :: rest)) := ysI hx hb hE hW (by decide) (fun _ _ => rfl) hi hdg kk
theorem ys_45 {i : Int32} {v : Int32} (hx : p.tables.exec = Jvm.exec) (hb : c.code = cc) (hE : KK l G s) (hW : Wd G z s.heap H locs) (hz : zb v) (hi : vp_in i 40) (hdg : decode cc pc = .ok (.bastore, 1)) (kk : ∀ (z' : St) (H : Heap) (locs : List Loc), z' = wI z 45 i.toNatClampNeg v → Wd G z' s.heap H locs → W p l e R s m args below meth c H locs cells slots Qg (F0 m (pc + 1) ls rest)) : W p l e R s m args below meth c H locs cells slots Qg (F0 m pc ls (.int v :: .int i :: .ref (ha G 45) :: rest)) := ysZ hx hb hE hW hz (by decide) (fun _ _ => rfl) hi hdg kk
theorem ys_46 {i : Int32} {v : Int32} (hx : p.tables.exec = Jvm.exec) (hb : c.code = cc) (hE : KK l G s) (hW : Wd G z s.heap H locs) (hi : vp_in i 12) (hdg : decode cc pc = .ok (.iastore, 1)) (kk : ∀ (z' : St) (H : Heap) (locs : List Loc), z' = wI z 46 i.toNatClampNeg v → Wd G z' s.heap H locs → W p l e R s m args below meth c H locs cells slots Qg (F0 m (pc + 1) ls rest)) : W p l e R s m args below meth c H locs cells slots Qg (F0 m pc ls (.int v :: .int i :: .ref (ha G 46) :: rest)) := ysI hx hb hE hW (by decide) (fun _ _ => rfl) hi hdg kk
theorem ys_47 {i : Int32} {v : Int32} (hx : p.tables.exec = Jvm.exec) (hb : c.code = cc) (hE : KK l G s) (hW : Wd G z s.heap H locs) (hi : vp_in i 12) (hdg : decode cc pc = .ok (.iastore, 1)) (kk : ∀ (z' : St) (H : Heap) (locs : List Loc), z' = wI z 47 i.toNatClampNeg v → Wd G z' s.heap H locs → W p l e R s m args below meth c H locs cells slots Qg (F0 m (pc + 1) ls rest)) : W p l e R s m args below meth c H locs cells slots Qg (F0 m pc ls (.int v :: .int i :: .ref (ha G 47) :: rest)) := ysI hx hb hE hW (by decide) (fun _ _ => rfl) hi hdg kk
theorem ys_48 {i : Int32} {v : Int32} (hx : p.tables.exec = Jvm.exec) (hb : c.code = cc) (hE : KK l G s) (hW : Wd G z s.heap H locs) (hi : vp_in i 8) (hdg : decode cc pc = .ok (.iastore, 1)) (kk : ∀ (z' : St) (H : Heap) (locs : List Loc), z' = wI z 48 i.toNatClampNeg v → Wd G z' s.heap H locs → W p l e R s m args below meth c H locs cells slots Qg (F0 m (pc + 1) ls rest)) : W p l e R s m args below meth c H locs cells slots Qg (F0 m pc ls (.int v :: .int i :: .ref (ha G 48) :: rest)) := ysI hx hb hE hW (by decide) (fun _ _ => rfl) hi hdg kk
theorem ys_49 {i : Int32} {v : Int64} (hx : p.tables.exec = Jvm.exec) (hb : c.code = cc) (hE : KK l G s) (hW : Wd G z s.heap H locs) (hi : vp_in i 1) (hdg : decode cc pc = .ok (.lastore, 1)) (kk : ∀ (z' : St) (H : Heap) (locs : List Loc), z' = wL z 49 i.toNatClampNeg v → Wd G z' s.heap H locs → W p l e R s m args below meth c H locs cells slots Qg (F0 m (pc + 1) ls rest)) : W p l e R s m args below meth c H locs cells slots Qg (F0 m pc ls (.long v :: .int i :: .ref (ha G 49) :: rest)) := ysJ hx hb hE hW (by decide) (fun _ _ => rfl) hi hdg kk
theorem yn_2 (hx : p.tables.exec = Jvm.exec) (hb : c.code = cc) (hE : KK l G s) (hW : Wd G z s.heap H locs) (hdg : decode cc pc = .ok (.arraylength, 1)) (kk : W p l e R s m args below meth c H locs cells slots Qg (F0 m (pc + 1) ls (.int (3 : Int32) :: rest))) : W p l e R s m args below meth c H locs cells slots Qg (F0 m pc ls (.ref (ha G 2) :: rest)) := ylen hx hb hE hW (t0 := 0) (by decide) rfl rfl rfl hdg kk
theorem yn_7 (hx : p.tables.exec = Jvm.exec) (hb : c.code = cc) (hE : KK l G s) (hW : Wd G z s.heap H locs) (hdg : decode cc pc = .ok (.arraylength, 1)) (kk : W p l e R s m args below meth c H locs cells slots Qg (F0 m (pc + 1) ls (.int (12 : Int32) :: rest))) : W p l e R s m args below meth c H locs cells slots Qg (F0 m pc ls (.ref (ha G 7) :: rest)) := ylen hx hb hE hW (t0 := 0) (by decide) rfl rfl rfl hdg kk
theorem yn_8 (hx : p.tables.exec = Jvm.exec) (hb : c.code = cc) (hE : KK l G s) (hW : Wd G z s.heap H locs) (hdg : decode cc pc = .ok (.arraylength, 1)) (kk : W p l e R s m args below meth c H locs cells slots Qg (F0 m (pc + 1) ls (.int (12 : Int32) :: rest))) : W p l e R s m args below meth c H locs cells slots Qg (F0 m pc ls (.ref (ha G 8) :: rest)) := ylen hx hb hE hW (t0 := 0) (by decide) rfl rfl rfl hdg kk
theorem yn_15 (hx : p.tables.exec = Jvm.exec) (hb : c.code = cc) (hE : KK l G s) (hW : Wd G z s.heap H locs) (hdg : decode cc pc = .ok (.arraylength, 1)) (kk : W p l e R s m args below meth c H locs cells slots Qg (F0 m (pc + 1) ls (.int (1001 : Int32) :: rest))) : W p l e R s m args below meth c H locs cells slots Qg (F0 m pc ls (.ref (ha G 15) :: rest)) := ylen hx hb hE hW (t0 := 1) (by decide) rfl rfl rfl hdg kk
theorem yn_16 (hx : p.tables.exec = Jvm.exec) (hb : c.code = cc) (hE : KK l G s) (hW : Wd G z s.heap H locs) (hdg : decode cc pc = .ok (.arraylength, 1)) (kk : W p l e R s m args below meth c H locs cells slots Qg (F0 m (pc + 1) ls (.int (2048 : Int32) :: rest))) : W p l e R s m args below meth c H locs cells slots Qg (F0 m pc ls (.ref (ha G 16) :: rest)) := ylen hx hb hE hW (t0 := 0) (by decide) rfl rfl rfl hdg kk
theorem yn_28 (hx : p.tables.exec = Jvm.exec) (hb : c.code = cc) (hE : KK l G s) (hW : Wd G z s.heap H locs) (hdg : decode cc pc = .ok (.arraylength, 1)) (kk : W p l e R s m args below meth c H locs cells slots Qg (F0 m (pc + 1) ls (.int (12 : Int32) :: rest))) : W p l e R s m args below meth c H locs cells slots Qg (F0 m pc ls (.ref (ha G 28) :: rest)) := ylen hx hb hE hW (t0 := 0) (by decide) rfl rfl rfl hdg kk
theorem yrv_0 (hE : KK l G s) (hW : Wd G z s.heap H locs) : ∃ cellB : Cell, H[ha G 0]? = some cellB ∧ cellB.vm.isStatics = false ∧ s.vm.findClass R_O = some cellB.cls := yrecv hE hW (by decide) rfl rfl
theorem yrv_1 (hE : KK l G s) (hW : Wd G z s.heap H locs) : ∃ cellB : Cell, H[ha G 1]? = some cellB ∧ cellB.vm.isStatics = false ∧ s.vm.findClass R_P = some cellB.cls := yrecv hE hW (by decide) rfl rfl
theorem yrv_6 (hE : KK l G s) (hW : Wd G z s.heap H locs) : ∃ cellB : Cell, H[ha G 6]? = some cellB ∧ cellB.vm.isStatics = false ∧ s.vm.findClass R_Q = some cellB.cls := yrecv hE hW (by decide) rfl rfl
theorem yrv_9 (hE : KK l G s) (hW : Wd G z s.heap H locs) : ∃ cellB : Cell, H[ha G 9]? = some cellB ∧ cellB.vm.isStatics = false ∧ s.vm.findClass R_T = some cellB.cls := yrecv hE hW (by decide) rfl rfl
theorem yrv_19 (hE : KK l G s) (hW : Wd G z s.heap H locs) : ∃ cellB : Cell, H[ha G 19]? = some cellB ∧ cellB.vm.isStatics = false ∧ s.vm.findClass R_R = some cellB.cls := yrecv hE hW (by decide) rfl rfl
theorem yrv_20 (hE : KK l G s) (hW : Wd G z s.heap H locs) : ∃ cellB : Cell, H[ha G 20]? = some cellB ∧ cellB.vm.isStatics = false ∧ s.vm.findClass R_C = some cellB.cls := yrecv hE hW (by decide) rfl rfl
theorem yrv_21 (hE : KK l G s) (hW : Wd G z s.heap H locs) : ∃ cellB : Cell, H[ha G 21]? = some cellB ∧ cellB.vm.isStatics = false ∧ s.vm.findClass R_Q = some cellB.cls := yrecv hE hW (by decide) rfl rfl
theorem yrv_25 (hE : KK l G s) (hW : Wd G z s.heap H locs) : ∃ cellB : Cell, H[ha G 25]? = some cellB ∧ cellB.vm.isStatics = false ∧ s.vm.findClass R_D = some cellB.cls := yrecv hE hW (by decide) rfl rfl
theorem yrv_26 (hE : KK l G s) (hW : Wd G z s.heap H locs) : ∃ cellB : Cell, H[ha G 26]? = some cellB ∧ cellB.vm.isStatics = false ∧ s.vm.findClass R_S = some cellB.cls := yrecv hE hW (by decide) rfl rfl
theorem yrv_31 (hE : KK l G s) (hW : Wd G z s.heap H locs) : ∃ cellB : Cell, H[ha G 31]? = some cellB ∧ cellB.vm.isStatics = false ∧ s.vm.findClass R_M = some cellB.cls := yrecv hE hW (by decide) rfl rfl
end Fields
end
section
/-! The words of every link of the code. Printed by wip/whole/emit.py. -/
section Links
variable {l : Launch} {G : GG} {s : State} {args : Array Value}
theorem lk_C_12 (h : KK l G s) : (Cond.fieldLink R_C 12 "PanelOffice$Clash" "trial" "LPanelOffice$Quotas;").before args s = true := h.w (List.mem_append_right _ (List.mem_append_left _ (List.mem_of_getElem? (i := 164) rfl))) rfl
theorem lk_C_18 (h : KK l G s) : (Cond.fieldLink R_C 18 "PanelOffice$Clash" "names" "[I").before args s = true := h.w (List.mem_append_right _ (List.mem_append_left _ (List.mem_of_getElem? (i := 165) rfl))) rfl
theorem lk_C_22 (h : KK l G s) : (Cond.fieldLink R_C 22 "PanelOffice$Clash" "found" "I").before args s = true := h.w (List.mem_append_right _ (List.mem_append_left _ (List.mem_of_getElem? (i := 166) rfl))) rfl
theorem lk_C_26 (h : KK l G s) : (Cond.fieldLink R_C 26 "PanelOffice$Clash" "refused" "Z").before args s = true := h.w (List.mem_append_right _ (List.mem_append_left _ (List.mem_of_getElem? (i := 167) rfl))) rfl
theorem lk_C_30 (h : KK l G s) : (Cond.fieldLink R_C 30 "PanelOffice$Clash" "pool" "LPanelOffice$Pool;").before args s = true := h.w (List.mem_append_right _ (List.mem_append_left _ (List.mem_of_getElem? (i := 162) rfl))) rfl
theorem lk_C_34 (h : KK l G s) : (Cond.fieldLink R_C 34 "PanelOffice$Clash" "tally" "LPanelOffice$Tally;").before args s = true := h.w (List.mem_append_right _ (List.mem_append_left _ (List.mem_of_getElem? (i := 163) rfl))) rfl
theorem lk_C_42 (h : KK l G s) : (Cond.fieldLinkNest R_C 42 "PanelOffice$Pool" "values" "[I" "PanelOffice").before args s = true := h.w (List.mem_append_right _ (List.mem_append_left _ (List.mem_of_getElem? (i := 35) rfl))) rfl
theorem lk_D_9 (h : KK l G s) : (Cond.fieldLink R_D 9 "PanelOffice$Dice" "begun" "Z").before args s = true := h.w (List.mem_append_right _ (List.mem_append_left _ (List.mem_of_getElem? (i := 187) rfl))) rfl
theorem lk_D_15 (h : KK l G s) : (Cond.fieldLink R_D 15 "PanelOffice$Dice" "done" "Z").before args s = true := h.w (List.mem_append_right _ (List.mem_append_left _ (List.mem_of_getElem? (i := 188) rfl))) rfl
theorem lk_D_18 (h : KK l G s) : (Cond.fieldLink R_D 18 "PanelOffice$Dice" "sides" "I").before args s = true := h.w (List.mem_append_right _ (List.mem_append_left _ (List.mem_of_getElem? (i := 189) rfl))) rfl
theorem lk_D_22 (h : KK l G s) : (Cond.fieldLink R_D 22 "PanelOffice$Dice" "goal" "J").before args s = true := h.w (List.mem_append_right _ (List.mem_append_left _ (List.mem_of_getElem? (i := 190) rfl))) rfl
theorem lk_D_26 (h : KK l G s) : (Cond.fieldLink R_D 26 "PanelOffice$Dice" "outcomes" "J").before args s = true := h.w (List.mem_append_right _ (List.mem_append_left _ (List.mem_of_getElem? (i := 191) rfl))) rfl
theorem lk_D_29 (h : KK l G s) : (Cond.fieldLink R_D 29 "PanelOffice$Dice" "needed" "I").before args s = true := h.w (List.mem_append_right _ (List.mem_append_left _ (List.mem_of_getElem? (i := 192) rfl))) rfl
theorem lk_D_32 (h : KK l G s) : (Cond.fieldLink R_D 32 "PanelOffice$Dice" "thrown" "I").before args s = true := h.w (List.mem_append_right _ (List.mem_append_left _ (List.mem_of_getElem? (i := 193) rfl))) rfl
theorem lk_D_35 (h : KK l G s) : (Cond.fieldLink R_D 35 "PanelOffice$Dice" "value" "J").before args s = true := h.w (List.mem_append_right _ (List.mem_append_left _ (List.mem_of_getElem? (i := 194) rfl))) rfl
theorem lk_M_7 (h : KK l G s) : (Cond.fieldLink R_M 7 "PanelOfficeModel" "value" "[I").before args s = true := h.w (List.mem_append_right _ (List.mem_append_right _ (List.mem_append_right _ (List.mem_append_right _ (List.mem_append_left _ (List.mem_of_getElem? (i := 190) rfl)))))) rfl
theorem lk_M_13 (h : KK l G s) : (Cond.fieldLink R_M 13 "PanelOfficeModel" "marked" "[Z").before args s = true := h.w (List.mem_append_right _ (List.mem_append_right _ (List.mem_append_right _ (List.mem_append_right _ (List.mem_append_left _ (List.mem_of_getElem? (i := 191) rfl)))))) rfl
theorem lk_M_17 (h : KK l G s) : (Cond.fieldLink R_M 17 "PanelOfficeModel" "values" "[I").before args s = true := h.w (List.mem_append_right _ (List.mem_append_right _ (List.mem_append_right _ (List.mem_append_right _ (List.mem_append_left _ (List.mem_of_getElem? (i := 192) rfl)))))) rfl
theorem lk_M_20 (h : KK l G s) : (Cond.fieldLink R_M 20 "PanelOfficeModel" "least" "[I").before args s = true := h.w (List.mem_append_right _ (List.mem_append_right _ (List.mem_append_right _ (List.mem_append_right _ (List.mem_append_left _ (List.mem_of_getElem? (i := 193) rfl)))))) rfl
theorem lk_M_23 (h : KK l G s) : (Cond.fieldLink R_M 23 "PanelOfficeModel" "most" "[I").before args s = true := h.w (List.mem_append_right _ (List.mem_append_right _ (List.mem_append_right _ (List.mem_append_right _ (List.mem_append_left _ (List.mem_of_getElem? (i := 194) rfl)))))) rfl
theorem lk_M_26 (h : KK l G s) : (Cond.fieldLink R_M 26 "PanelOfficeModel" "size" "I").before args s = true := h.w (List.mem_append_right _ (List.mem_append_right _ (List.mem_append_right _ (List.mem_append_right _ (List.mem_append_left _ (List.mem_of_getElem? (i := 195) rfl)))))) rfl
theorem lk_M_30 (h : KK l G s) : (Cond.fieldLink R_M 30 "PanelOfficeModel" "kindIs" "[I").before args s = true := h.w (List.mem_append_right _ (List.mem_append_right _ (List.mem_append_right _ (List.mem_append_right _ (List.mem_append_left _ (List.mem_of_getElem? (i := 197) rfl)))))) rfl
theorem lk_M_33 (h : KK l G s) : (Cond.fieldLink R_M 33 "PanelOfficeModel" "kindHas" "[I").before args s = true := h.w (List.mem_append_right _ (List.mem_append_right _ (List.mem_append_right _ (List.mem_append_right _ (List.mem_append_left _ (List.mem_of_getElem? (i := 198) rfl)))))) rfl
theorem lk_M_36 (h : KK l G s) : (Cond.fieldLink R_M 36 "PanelOfficeModel" "begins" "[I").before args s = true := h.w (List.mem_append_right _ (List.mem_append_right _ (List.mem_append_right _ (List.mem_append_right _ (List.mem_append_left _ (List.mem_of_getElem? (i := 202) rfl)))))) rfl
theorem lk_M_39 (h : KK l G s) : (Cond.fieldLink R_M 39 "PanelOfficeModel" "counts" "[J").before args s = true := h.w (List.mem_append_right _ (List.mem_append_right _ (List.mem_append_right _ (List.mem_append_right _ (List.mem_append_left _ (List.mem_of_getElem? (i := 203) rfl)))))) rfl
theorem lk_M_43 (h : KK l G s) : (Cond.fieldLink R_M 43 "PanelOfficeModel" "ways" "[J").before args s = true := h.w (List.mem_append_right _ (List.mem_append_right _ (List.mem_append_right _ (List.mem_append_right _ (List.mem_append_left _ (List.mem_of_getElem? (i := 204) rfl)))))) rfl
theorem lk_M_46 (h : KK l G s) : (Cond.fieldLink R_M 46 "PanelOfficeModel" "chain" "[I").before args s = true := h.w (List.mem_append_right _ (List.mem_append_right _ (List.mem_append_right _ (List.mem_append_right _ (List.mem_append_left _ (List.mem_of_getElem? (i := 205) rfl)))))) rfl
theorem lk_M_49 (h : KK l G s) : (Cond.fieldLink R_M 49 "PanelOfficeModel" "heads" "[I").before args s = true := h.w (List.mem_append_right _ (List.mem_append_right _ (List.mem_append_right _ (List.mem_append_right _ (List.mem_append_left _ (List.mem_of_getElem? (i := 206) rfl)))))) rfl
theorem lk_M_52 (h : KK l G s) : (Cond.fieldLink R_M 52 "PanelOfficeModel" "member" "[I").before args s = true := h.w (List.mem_append_right _ (List.mem_append_right _ (List.mem_append_right _ (List.mem_append_right _ (List.mem_append_left _ (List.mem_of_getElem? (i := 208) rfl)))))) rfl
theorem lk_M_55 (h : KK l G s) : (Cond.fieldLink R_M 55 "PanelOfficeModel" "emptyPlace" "I").before args s = true := h.w (List.mem_append_right _ (List.mem_append_right _ (List.mem_append_right _ (List.mem_append_right _ (List.mem_append_left _ (List.mem_of_getElem? (i := 209) rfl)))))) rfl
theorem lk_M_58 (h : KK l G s) : (Cond.fieldLink R_M 58 "PanelOfficeModel" "dropped" "[Z").before args s = true := h.w (List.mem_append_right _ (List.mem_append_right _ (List.mem_append_right _ (List.mem_append_right _ (List.mem_append_left _ (List.mem_of_getElem? (i := 210) rfl)))))) rfl
theorem lk_M_61 (h : KK l G s) : (Cond.fieldLink R_M 61 "PanelOfficeModel" "lowWas" "[I").before args s = true := h.w (List.mem_append_right _ (List.mem_append_right _ (List.mem_append_right _ (List.mem_append_right _ (List.mem_append_left _ (List.mem_of_getElem? (i := 219) rfl)))))) rfl
theorem lk_M_64 (h : KK l G s) : (Cond.fieldLink R_M 64 "PanelOfficeModel" "highWas" "[I").before args s = true := h.w (List.mem_append_right _ (List.mem_append_right _ (List.mem_append_right _ (List.mem_append_right _ (List.mem_append_left _ (List.mem_of_getElem? (i := 220) rfl)))))) rfl
theorem lk_M_67 (h : KK l G s) : (Cond.fieldLink R_M 67 "PanelOfficeModel" "taken" "[I").before args s = true := h.w (List.mem_append_right _ (List.mem_append_right _ (List.mem_append_right _ (List.mem_append_right _ (List.mem_append_left _ (List.mem_of_getElem? (i := 221) rfl)))))) rfl
theorem lk_M_70 (h : KK l G s) : (Cond.fieldLink R_M 70 "PanelOfficeModel" "code" "I").before args s = true := h.w (List.mem_append_right _ (List.mem_append_right _ (List.mem_append_right _ (List.mem_append_right _ (List.mem_append_left _ (List.mem_of_getElem? (i := 188) rfl)))))) rfl
theorem lk_M_73 (h : KK l G s) : (Cond.fieldLink R_M 73 "PanelOfficeModel" "kinds" "I").before args s = true := h.w (List.mem_append_right _ (List.mem_append_right _ (List.mem_append_right _ (List.mem_append_right _ (List.mem_append_left _ (List.mem_of_getElem? (i := 196) rfl)))))) rfl
theorem lk_M_76 (h : KK l G s) : (Cond.fieldLink R_M 76 "PanelOfficeModel" "persons" "I").before args s = true := h.w (List.mem_append_right _ (List.mem_append_right _ (List.mem_append_right _ (List.mem_append_right _ (List.mem_append_left _ (List.mem_of_getElem? (i := 189) rfl)))))) rfl
theorem lk_M_83 (h : KK l G s) : (Cond.fieldLink R_M 83 "PanelOfficeModel" "known" "Z").before args s = true := h.w (List.mem_append_right _ (List.mem_append_right _ (List.mem_append_right _ (List.mem_append_right _ (List.mem_append_left _ (List.mem_of_getElem? (i := 199) rfl)))))) rfl
theorem lk_M_87 (h : KK l G s) : (Cond.fieldLink R_M 87 "PanelOfficeModel" "sides" "I").before args s = true := h.w (List.mem_append_right _ (List.mem_append_right _ (List.mem_append_right _ (List.mem_append_right _ (List.mem_append_left _ (List.mem_of_getElem? (i := 211) rfl)))))) rfl
theorem lk_M_90 (h : KK l G s) : (Cond.fieldLink R_M 90 "PanelOfficeModel" "there" "Z").before args s = true := h.w (List.mem_append_right _ (List.mem_append_right _ (List.mem_append_right _ (List.mem_append_right _ (List.mem_append_left _ (List.mem_of_getElem? (i := 217) rfl)))))) rfl
theorem lk_M_100 (h : KK l G s) : (Cond.fieldLink R_M 100 "PanelOfficeModel" "drawn" "Z").before args s = true := h.w (List.mem_append_right _ (List.mem_append_right _ (List.mem_append_right _ (List.mem_append_right _ (List.mem_append_left _ (List.mem_of_getElem? (i := 207) rfl)))))) rfl
theorem lk_M_123 (h : KK l G s) : (Cond.fieldLink R_M 123 "PanelOfficeModel" "tooMany" "Z").before args s = true := h.w (List.mem_append_right _ (List.mem_append_right _ (List.mem_append_right _ (List.mem_append_right _ (List.mem_append_left _ (List.mem_of_getElem? (i := 200) rfl)))))) rfl
theorem lk_M_126 (h : KK l G s) : (Cond.fieldLink R_M 126 "PanelOfficeModel" "states" "I").before args s = true := h.w (List.mem_append_right _ (List.mem_append_right _ (List.mem_append_right _ (List.mem_append_right _ (List.mem_append_left _ (List.mem_of_getElem? (i := 201) rfl)))))) rfl
theorem lk_M_167 (h : KK l G s) : (Cond.fieldLink R_M 167 "PanelOfficeModel" "takenCount" "I").before args s = true := h.w (List.mem_append_right _ (List.mem_append_right _ (List.mem_append_right _ (List.mem_append_right _ (List.mem_append_left _ (List.mem_of_getElem? (i := 222) rfl)))))) rfl
theorem lk_M_193 (h : KK l G s) : (Cond.fieldLink R_M 193 "PanelOfficeModel" "goal" "J").before args s = true := h.w (List.mem_append_right _ (List.mem_append_right _ (List.mem_append_right _ (List.mem_append_right _ (List.mem_append_left _ (List.mem_of_getElem? (i := 214) rfl)))))) rfl
theorem lk_M_197 (h : KK l G s) : (Cond.fieldLink R_M 197 "PanelOfficeModel" "needed" "I").before args s = true := h.w (List.mem_append_right _ (List.mem_append_right _ (List.mem_append_right _ (List.mem_append_right _ (List.mem_append_left _ (List.mem_of_getElem? (i := 213) rfl)))))) rfl
theorem lk_M_200 (h : KK l G s) : (Cond.fieldLink R_M 200 "PanelOfficeModel" "outcomes" "J").before args s = true := h.w (List.mem_append_right _ (List.mem_append_right _ (List.mem_append_right _ (List.mem_append_right _ (List.mem_append_left _ (List.mem_of_getElem? (i := 216) rfl)))))) rfl
theorem lk_M_203 (h : KK l G s) : (Cond.fieldLink R_M 203 "PanelOfficeModel" "digits" "J").before args s = true := h.w (List.mem_append_right _ (List.mem_append_right _ (List.mem_append_right _ (List.mem_append_right _ (List.mem_append_left _ (List.mem_of_getElem? (i := 215) rfl)))))) rfl
theorem lk_M_206 (h : KK l G s) : (Cond.fieldLink R_M 206 "PanelOfficeModel" "thrownSoFar" "I").before args s = true := h.w (List.mem_append_right _ (List.mem_append_right _ (List.mem_append_right _ (List.mem_append_right _ (List.mem_append_left _ (List.mem_of_getElem? (i := 212) rfl)))))) rfl
theorem lk_M_209 (h : KK l G s) : (Cond.fieldLink R_M 209 "PanelOfficeModel" "number" "J").before args s = true := h.w (List.mem_append_right _ (List.mem_append_right _ (List.mem_append_right _ (List.mem_append_right _ (List.mem_append_left _ (List.mem_of_getElem? (i := 218) rfl)))))) rfl
theorem lk_O_12 (h : KK l G s) : (Cond.fieldLink R_O 12 "PanelOffice" "pool" "LPanelOffice$Pool;").before args s = true := h.w (List.mem_append_right _ (List.mem_append_right _ (List.mem_append_left _ (List.mem_of_getElem? (i := 6) rfl)))) rfl
theorem lk_O_19 (h : KK l G s) : (Cond.fieldLink R_O 19 "PanelOffice" "quotas" "LPanelOffice$Quotas;").before args s = true := h.w (List.mem_append_right _ (List.mem_append_right _ (List.mem_append_left _ (List.mem_of_getElem? (i := 7) rfl)))) rfl
theorem lk_O_28 (h : KK l G s) : (Cond.fieldLink R_O 28 "PanelOffice" "tally" "LPanelOffice$Tally;").before args s = true := h.w (List.mem_append_right _ (List.mem_append_right _ (List.mem_append_left _ (List.mem_of_getElem? (i := 8) rfl)))) rfl
theorem lk_O_37 (h : KK l G s) : (Cond.fieldLink R_O 37 "PanelOffice" "ranking" "LPanelOffice$Ranking;").before args s = true := h.w (List.mem_append_right _ (List.mem_append_right _ (List.mem_append_left _ (List.mem_of_getElem? (i := 9) rfl)))) rfl
theorem lk_O_44 (h : KK l G s) : (Cond.fieldLink R_O 44 "PanelOffice" "clash" "LPanelOffice$Clash;").before args s = true := h.w (List.mem_append_right _ (List.mem_append_right _ (List.mem_append_left _ (List.mem_of_getElem? (i := 10) rfl)))) rfl
theorem lk_O_51 (h : KK l G s) : (Cond.fieldLink R_O 51 "PanelOffice" "dice" "LPanelOffice$Dice;").before args s = true := h.w (List.mem_append_right _ (List.mem_append_right _ (List.mem_append_left _ (List.mem_of_getElem? (i := 11) rfl)))) rfl
theorem lk_O_60 (h : KK l G s) : (Cond.fieldLink R_O 60 "PanelOffice" "seats" "LPanelOffice$Seats;").before args s = true := h.w (List.mem_append_right _ (List.mem_append_right _ (List.mem_append_left _ (List.mem_of_getElem? (i := 12) rfl)))) rfl
theorem lk_O_64 (h : KK l G s) : (Cond.fieldLink R_O 64 "PanelOffice" "told" "[I").before args s = true := h.w (List.mem_append_right _ (List.mem_append_right _ (List.mem_append_left _ (List.mem_of_getElem? (i := 13) rfl)))) rfl
theorem lk_O_68 (h : KK l G s) : (Cond.fieldLink R_O 68 "PanelOffice" "size" "I").before args s = true := h.w (List.mem_append_right _ (List.mem_append_right _ (List.mem_append_left _ (List.mem_of_getElem? (i := 14) rfl)))) rfl
theorem lk_O_72 (h : KK l G s) : (Cond.fieldLink R_O 72 "PanelOffice" "marks" "J").before args s = true := h.w (List.mem_append_right _ (List.mem_append_right _ (List.mem_append_left _ (List.mem_of_getElem? (i := 15) rfl)))) rfl
theorem lk_O_76 (h : KK l G s) : (Cond.fieldLink R_O 76 "PanelOffice" "tallyIsFresh" "Z").before args s = true := h.w (List.mem_append_right _ (List.mem_append_right _ (List.mem_append_left _ (List.mem_of_getElem? (i := 16) rfl)))) rfl
theorem lk_O_80 (h : KK l G s) : (Cond.fieldLink R_O 80 "PanelOffice" "clashIsFresh" "Z").before args s = true := h.w (List.mem_append_right _ (List.mem_append_right _ (List.mem_append_left _ (List.mem_of_getElem? (i := 17) rfl)))) rfl
theorem lk_O_97 (h : KK l G s) : (Cond.fieldLinkNest R_O 97 "PanelOffice$Pool" "values" "[I" "PanelOffice").before args s = true := h.w (List.mem_append_right _ (List.mem_append_left _ (List.mem_of_getElem? (i := 34) rfl))) rfl
theorem lk_O_166 (h : KK l G s) : (Cond.fieldLinkNest R_O 166 "PanelOffice$Pool" "kinds" "I" "PanelOffice").before args s = true := h.w (List.mem_append_right _ (List.mem_append_left _ (List.mem_of_getElem? (i := 54) rfl))) rfl
theorem lk_O_300 (h : KK l G s) : (Cond.fieldLinkNest R_O 300 "PanelOffice$Pool" "persons" "I" "PanelOffice").before args s = true := h.w (List.mem_append_right _ (List.mem_append_left _ (List.mem_of_getElem? (i := 50) rfl))) rfl
theorem lk_P_9 (h : KK l G s) : (Cond.fieldLink R_P 9 "PanelOffice$Pool" "values" "[I").before args s = true := h.w (List.mem_append_right _ (List.mem_append_left _ (List.mem_of_getElem? (i := 33) rfl))) rfl
theorem lk_P_15 (h : KK l G s) : (Cond.fieldLink R_P 15 "PanelOffice$Pool" "codes" "[I").before args s = true := h.w (List.mem_append_right _ (List.mem_append_left _ (List.mem_of_getElem? (i := 38) rfl))) rfl
theorem lk_P_18 (h : KK l G s) : (Cond.fieldLink R_P 18 "PanelOffice$Pool" "kindCodes" "[I").before args s = true := h.w (List.mem_append_right _ (List.mem_append_left _ (List.mem_of_getElem? (i := 41) rfl))) rfl
theorem lk_P_21 (h : KK l G s) : (Cond.fieldLink R_P 21 "PanelOffice$Pool" "kindSizes" "[I").before args s = true := h.w (List.mem_append_right _ (List.mem_append_left _ (List.mem_of_getElem? (i := 44) rfl))) rfl
theorem lk_P_24 (h : KK l G s) : (Cond.fieldLink R_P 24 "PanelOffice$Pool" "persons" "I").before args s = true := h.w (List.mem_append_right _ (List.mem_append_left _ (List.mem_of_getElem? (i := 47) rfl))) rfl
theorem lk_P_28 (h : KK l G s) : (Cond.fieldLink R_P 28 "PanelOffice$Pool" "kinds" "I").before args s = true := h.w (List.mem_append_right _ (List.mem_append_left _ (List.mem_of_getElem? (i := 51) rfl))) rfl
theorem lk_Q_9 (h : KK l G s) : (Cond.fieldLink R_Q 9 "PanelOffice$Quotas" "least" "[I").before args s = true := h.w (List.mem_append_right _ (List.mem_append_left _ (List.mem_of_getElem? (i := 78) rfl))) rfl
theorem lk_Q_15 (h : KK l G s) : (Cond.fieldLink R_Q 15 "PanelOffice$Quotas" "most" "[I").before args s = true := h.w (List.mem_append_right _ (List.mem_append_left _ (List.mem_of_getElem? (i := 80) rfl))) rfl
theorem lk_R_7 (h : KK l G s) : (Cond.fieldLink R_R 7 "PanelOffice$Ranking" "pool" "LPanelOffice$Pool;").before args s = true := h.w (List.mem_append_right _ (List.mem_append_left _ (List.mem_of_getElem? (i := 147) rfl))) rfl
theorem lk_R_13 (h : KK l G s) : (Cond.fieldLink R_R 13 "PanelOffice$Ranking" "tally" "LPanelOffice$Tally;").before args s = true := h.w (List.mem_append_right _ (List.mem_append_left _ (List.mem_of_getElem? (i := 148) rfl))) rfl
theorem lk_R_17 (h : KK l G s) : (Cond.fieldLinkNest R_R 17 "PanelOffice$Pool" "kinds" "I" "PanelOffice").before args s = true := h.w (List.mem_append_right _ (List.mem_append_left _ (List.mem_of_getElem? (i := 52) rfl))) rfl
theorem lk_R_23 (h : KK l G s) : (Cond.fieldLinkNest R_R 23 "PanelOffice$Tally" "stay" "[I" "PanelOffice").before args s = true := h.w (List.mem_append_right _ (List.mem_append_left _ (List.mem_of_getElem? (i := 101) rfl))) rfl
theorem lk_R_29 (h : KK l G s) : (Cond.fieldLinkNest R_R 29 "PanelOffice$Tally" "ahead" "[J" "PanelOffice").before args s = true := h.w (List.mem_append_right _ (List.mem_append_left _ (List.mem_of_getElem? (i := 105) rfl))) rfl
theorem lk_R_33 (h : KK l G s) : (Cond.fieldLinkNest R_R 33 "PanelOffice$Tally" "takes" "[I" "PanelOffice").before args s = true := h.w (List.mem_append_right _ (List.mem_append_left _ (List.mem_of_getElem? (i := 99) rfl))) rfl
theorem lk_R_36 (h : KK l G s) : (Cond.fieldLinkNest R_R 36 "PanelOffice$Tally" "more" "[I" "PanelOffice").before args s = true := h.w (List.mem_append_right _ (List.mem_append_left _ (List.mem_of_getElem? (i := 103) rfl))) rfl
theorem lk_R_39 (h : KK l G s) : (Cond.fieldLinkNest R_R 39 "PanelOffice$Pool" "kindSizes" "[I" "PanelOffice").before args s = true := h.w (List.mem_append_right _ (List.mem_append_left _ (List.mem_of_getElem? (i := 45) rfl))) rfl
theorem lk_R_56 (h : KK l G s) : (Cond.fieldLinkNest R_R 56 "PanelOffice$Pool" "persons" "I" "PanelOffice").before args s = true := h.w (List.mem_append_right _ (List.mem_append_left _ (List.mem_of_getElem? (i := 48) rfl))) rfl
theorem lk_R_59 (h : KK l G s) : (Cond.fieldLinkNest R_R 59 "PanelOffice$Pool" "codes" "[I" "PanelOffice").before args s = true := h.w (List.mem_append_right _ (List.mem_append_left _ (List.mem_of_getElem? (i := 39) rfl))) rfl
theorem lk_R_62 (h : KK l G s) : (Cond.fieldLinkNest R_R 62 "PanelOffice$Pool" "kindCodes" "[I" "PanelOffice").before args s = true := h.w (List.mem_append_right _ (List.mem_append_left _ (List.mem_of_getElem? (i := 42) rfl))) rfl
theorem lk_S_9 (h : KK l G s) : (Cond.fieldLink R_S 9 "PanelOffice$Seats" "members" "[I").before args s = true := h.w (List.mem_append_right _ (List.mem_append_left _ (List.mem_of_getElem? (i := 220) rfl))) rfl
theorem lk_S_15 (h : KK l G s) : (Cond.fieldLink R_S 15 "PanelOffice$Seats" "numbers" "[I").before args s = true := h.w (List.mem_append_right _ (List.mem_append_left _ (List.mem_of_getElem? (i := 221) rfl))) rfl
theorem lk_S_18 (h : KK l G s) : (Cond.fieldLink R_S 18 "PanelOffice$Seats" "candidates" "[I").before args s = true := h.w (List.mem_append_right _ (List.mem_append_left _ (List.mem_of_getElem? (i := 222) rfl))) rfl
theorem lk_S_21 (h : KK l G s) : (Cond.fieldLink R_S 21 "PanelOffice$Seats" "places" "I").before args s = true := h.w (List.mem_append_right _ (List.mem_append_left _ (List.mem_of_getElem? (i := 223) rfl))) rfl
theorem lk_S_25 (h : KK l G s) : (Cond.fieldLink R_S 25 "PanelOffice$Seats" "seated" "J").before args s = true := h.w (List.mem_append_right _ (List.mem_append_left _ (List.mem_of_getElem? (i := 224) rfl))) rfl
theorem lk_S_29 (h : KK l G s) : (Cond.fieldLink R_S 29 "PanelOffice$Seats" "gone" "J").before args s = true := h.w (List.mem_append_right _ (List.mem_append_left _ (List.mem_of_getElem? (i := 225) rfl))) rfl
theorem lk_S_32 (h : KK l G s) : (Cond.fieldLink R_S 32 "PanelOffice$Seats" "emptyPlace" "I").before args s = true := h.w (List.mem_append_right _ (List.mem_append_left _ (List.mem_of_getElem? (i := 226) rfl))) rfl
theorem lk_S_35 (h : KK l G s) : (Cond.fieldLink R_S 35 "PanelOffice$Seats" "pool" "LPanelOffice$Pool;").before args s = true := h.w (List.mem_append_right _ (List.mem_append_left _ (List.mem_of_getElem? (i := 218) rfl))) rfl
theorem lk_S_39 (h : KK l G s) : (Cond.fieldLink R_S 39 "PanelOffice$Seats" "quotas" "LPanelOffice$Quotas;").before args s = true := h.w (List.mem_append_right _ (List.mem_append_left _ (List.mem_of_getElem? (i := 219) rfl))) rfl
theorem lk_S_49 (h : KK l G s) : (Cond.fieldLinkNest R_S 49 "PanelOffice$Pool" "persons" "I" "PanelOffice").before args s = true := h.w (List.mem_append_right _ (List.mem_append_left _ (List.mem_of_getElem? (i := 49) rfl))) rfl
theorem lk_S_88 (h : KK l G s) : (Cond.fieldLinkNest R_S 88 "PanelOffice$Pool" "values" "[I" "PanelOffice").before args s = true := h.w (List.mem_append_right _ (List.mem_append_left _ (List.mem_of_getElem? (i := 36) rfl))) rfl
theorem lk_S_99 (h : KK l G s) : (Cond.fieldLinkNest R_S 99 "PanelOffice$Pool" "codes" "[I" "PanelOffice").before args s = true := h.w (List.mem_append_right _ (List.mem_append_left _ (List.mem_of_getElem? (i := 40) rfl))) rfl
theorem lk_T_11 (h : KK l G s) : (Cond.fieldLink R_T 11 "PanelOffice$Tally" "rows" "[J").before args s = true := h.w (List.mem_append_right _ (List.mem_append_left _ (List.mem_of_getElem? (i := 97) rfl))) rfl
theorem lk_T_15 (h : KK l G s) : (Cond.fieldLink R_T 15 "PanelOffice$Tally" "takes" "[I").before args s = true := h.w (List.mem_append_right _ (List.mem_append_left _ (List.mem_of_getElem? (i := 98) rfl))) rfl
theorem lk_T_19 (h : KK l G s) : (Cond.fieldLink R_T 19 "PanelOffice$Tally" "stay" "[I").before args s = true := h.w (List.mem_append_right _ (List.mem_append_left _ (List.mem_of_getElem? (i := 100) rfl))) rfl
theorem lk_T_22 (h : KK l G s) : (Cond.fieldLink R_T 22 "PanelOffice$Tally" "more" "[I").before args s = true := h.w (List.mem_append_right _ (List.mem_append_left _ (List.mem_of_getElem? (i := 102) rfl))) rfl
theorem lk_T_25 (h : KK l G s) : (Cond.fieldLink R_T 25 "PanelOffice$Tally" "ahead" "[J").before args s = true := h.w (List.mem_append_right _ (List.mem_append_left _ (List.mem_of_getElem? (i := 104) rfl))) rfl
theorem lk_T_28 (h : KK l G s) : (Cond.fieldLink R_T 28 "PanelOffice$Tally" "behind" "[J").before args s = true := h.w (List.mem_append_right _ (List.mem_append_left _ (List.mem_of_getElem? (i := 106) rfl))) rfl
theorem lk_T_31 (h : KK l G s) : (Cond.fieldLink R_T 31 "PanelOffice$Tally" "slots" "[I").before args s = true := h.w (List.mem_append_right _ (List.mem_append_left _ (List.mem_of_getElem? (i := 107) rfl))) rfl
theorem lk_T_34 (h : KK l G s) : (Cond.fieldLink R_T 34 "PanelOffice$Tally" "layers" "[I").before args s = true := h.w (List.mem_append_right _ (List.mem_append_left _ (List.mem_of_getElem? (i := 108) rfl))) rfl
theorem lk_T_37 (h : KK l G s) : (Cond.fieldLink R_T 37 "PanelOffice$Tally" "chooses" "[I").before args s = true := h.w (List.mem_append_right _ (List.mem_append_left _ (List.mem_of_getElem? (i := 109) rfl))) rfl
theorem lk_T_40 (h : KK l G s) : (Cond.fieldLink R_T 40 "PanelOffice$Tally" "found" "I").before args s = true := h.w (List.mem_append_right _ (List.mem_append_left _ (List.mem_of_getElem? (i := 110) rfl))) rfl
theorem lk_T_44 (h : KK l G s) : (Cond.fieldLink R_T 44 "PanelOffice$Tally" "refused" "Z").before args s = true := h.w (List.mem_append_right _ (List.mem_append_left _ (List.mem_of_getElem? (i := 111) rfl))) rfl
theorem lk_T_48 (h : KK l G s) : (Cond.fieldLink R_T 48 "PanelOffice$Tally" "behindIsFresh" "Z").before args s = true := h.w (List.mem_append_right _ (List.mem_append_left _ (List.mem_of_getElem? (i := 112) rfl))) rfl
theorem lk_T_51 (h : KK l G s) : (Cond.fieldLink R_T 51 "PanelOffice$Tally" "pool" "LPanelOffice$Pool;").before args s = true := h.w (List.mem_append_right _ (List.mem_append_left _ (List.mem_of_getElem? (i := 96) rfl))) rfl
theorem lk_T_71 (h : KK l G s) : (Cond.fieldLinkNest R_T 71 "PanelOffice$Pool" "kinds" "I" "PanelOffice").before args s = true := h.w (List.mem_append_right _ (List.mem_append_left _ (List.mem_of_getElem? (i := 53) rfl))) rfl
theorem lk_T_87 (h : KK l G s) : (Cond.fieldLinkNest R_T 87 "PanelOffice$Pool" "kindSizes" "[I" "PanelOffice").before args s = true := h.w (List.mem_append_right _ (List.mem_append_left _ (List.mem_of_getElem? (i := 46) rfl))) rfl
theorem lk_T_94 (h : KK l G s) : (Cond.fieldLinkNest R_T 94 "PanelOffice$Pool" "kindCodes" "[I" "PanelOffice").before args s = true := h.w (List.mem_append_right _ (List.mem_append_left _ (List.mem_of_getElem? (i := 43) rfl))) rfl
theorem lk_T_117 (h : KK l G s) : (Cond.fieldLinkNest R_T 117 "PanelOffice$Quotas" "most" "[I" "PanelOffice").before args s = true := h.w (List.mem_append_right _ (List.mem_append_left _ (List.mem_of_getElem? (i := 81) rfl))) rfl
theorem lk_T_136 (h : KK l G s) : (Cond.fieldLinkNest R_T 136 "PanelOffice$Pool" "values" "[I" "PanelOffice").before args s = true := h.w (List.mem_append_right _ (List.mem_append_left _ (List.mem_of_getElem? (i := 37) rfl))) rfl
theorem lk_T_139 (h : KK l G s) : (Cond.fieldLinkNest R_T 139 "PanelOffice$Quotas" "least" "[I" "PanelOffice").before args s = true := h.w (List.mem_append_right _ (List.mem_append_left _ (List.mem_of_getElem? (i := 79) rfl))) rfl
theorem lk_M_106 (h : KK l G s) : (Cond.constantLong R_M 106 (977)).before args s = true := h.w (List.mem_append_right _ (List.mem_append_right _ (List.mem_append_right _ (List.mem_append_right _ (List.mem_append_right _ (List.mem_append_left _ (List.mem_of_getElem? (i := 128) rfl))))))) rfl
theorem lk_R_69 (h : KK l G s) : (Cond.constantLong R_R 69 (-1)).before args s = true := h.w (List.mem_append_right _ (List.mem_append_right _ (List.mem_append_right _ (List.mem_append_left _ (List.mem_of_getElem? (i := 234) rfl))))) rfl
theorem lk_S_58 (h : KK l G s) : (Cond.constantLong R_S 58 (-1)).before args s = true := h.w (List.mem_append_right _ (List.mem_append_right _ (List.mem_append_right _ (List.mem_append_right _ (List.mem_append_left _ (List.mem_of_getElem? (i := 145) rfl)))))) rfl
theorem lk_T_105 (h : KK l G s) : (Cond.constantLong R_T 105 (4503599627370496)).before args s = true := h.w (List.mem_append_right _ (List.mem_append_right _ (List.mem_append_left _ (List.mem_of_getElem? (i := 86) rfl)))) rfl
theorem lk_T_122 (h : KK l G s) : (Cond.constantLong R_T 122 (281474976710656)).before args s = true := h.w (List.mem_append_right _ (List.mem_append_right _ (List.mem_append_left _ (List.mem_of_getElem? (i := 72) rfl)))) rfl
theorem lk_T_124 (h : KK l G s) : (Cond.constantLong R_T 124 (-7046029254386353131)).before args s = true := h.w (List.mem_append_right _ (List.mem_append_right _ (List.mem_append_left _ (List.mem_of_getElem? (i := 60) rfl)))) rfl
end Links
end
section
section Links
variable {l : Launch} {G : GG} {s : State} {args : Array Value}
theorem cw_C_38 (h : KK l G s) : LkV s args R_C R_Q 38 y_Q_copyOneFrom cc_Q_copyOneFrom 3 none 2 := ⟨⟨by decide +kernel, by decide +kernel, by decide +kernel⟩, h.w (List.mem_append_right _ (List.mem_append_right _ (List.mem_append_right _ (List.mem_append_left _ (List.mem_of_getElem? (i := 152) rfl))))) rfl, h.w (List.mem_append_right _ (List.mem_append_right _ (List.mem_append_right _ (List.mem_append_left _ (List.mem_of_getElem? (i := 153) rfl))))) rfl, (h.w (List.mem_append_right _ (List.mem_append_right _ (List.mem_append_right _ (List.mem_append_left _ (List.mem_of_getElem? (i := 154) rfl))))) rfl), h.w (List.mem_append_right _ (List.mem_append_left _ (List.mem_of_getElem? (i := 3) rfl))) rfl, fun a U hW => wk_at hW rfl (h.w (a := #[]) (List.mem_append_right _ (List.mem_append_right _ (List.mem_append_right _ (List.mem_append_left _ (List.mem_of_getElem? (i := 155) rfl))))) rfl)⟩
theorem cw_C_47 (h : KK l G s) : LkSN s args R_C "PanelOffice" 47 y_O_quotaOf cc_O_quotaOf 2 (some .int) 2 := ⟨⟨by decide +kernel, by decide +kernel, by decide +kernel⟩, h.w (List.mem_append_right _ (List.mem_append_right _ (List.mem_append_right _ (List.mem_append_left _ (List.mem_of_getElem? (i := 157) rfl))))) rfl, h.w (List.mem_append_right _ (List.mem_append_right _ (List.mem_append_left _ (List.mem_of_getElem? (i := 77) rfl)))) rfl, h.w (List.mem_append_right _ (List.mem_append_left _ (List.mem_of_getElem? (i := 1) rfl))) rfl, fun a U hW => wk_at hW rfl (h.w (a := #[]) (List.mem_append_right _ (List.mem_append_right _ (List.mem_append_left _ (List.mem_of_getElem? (i := 78) rfl)))) rfl)⟩
theorem cw_C_51 (h : KK l G s) : LkV s args R_C R_Q 51 y_Q_isLeftOut cc_Q_isLeftOut 2 (some .boolean) 1 := ⟨⟨by decide +kernel, by decide +kernel, by decide +kernel⟩, h.w (List.mem_append_right _ (List.mem_append_right _ (List.mem_append_right _ (List.mem_append_left _ (List.mem_of_getElem? (i := 158) rfl))))) rfl, h.w (List.mem_append_right _ (List.mem_append_right _ (List.mem_append_right _ (List.mem_append_left _ (List.mem_of_getElem? (i := 159) rfl))))) rfl, (h.w (List.mem_append_right _ (List.mem_append_right _ (List.mem_append_right _ (List.mem_append_left _ (List.mem_of_getElem? (i := 160) rfl))))) rfl), h.w (List.mem_append_right _ (List.mem_append_left _ (List.mem_of_getElem? (i := 3) rfl))) rfl, fun a U hW => wk_at hW rfl (h.w (a := #[]) (List.mem_append_right _ (List.mem_append_right _ (List.mem_append_right _ (List.mem_append_left _ (List.mem_of_getElem? (i := 161) rfl))))) rfl)⟩
theorem cw_C_55 (h : KK l G s) : LkV s args R_C R_C 55 y_C_tryWithout cc_C_tryWithout 6 none 4 := ⟨⟨by decide +kernel, by decide +kernel, by decide +kernel⟩, h.w (List.mem_append_right _ (List.mem_append_right _ (List.mem_append_right _ (List.mem_append_left _ (List.mem_of_getElem? (i := 162) rfl))))) rfl, h.w (List.mem_append_right _ (List.mem_append_right _ (List.mem_append_right _ (List.mem_append_left _ (List.mem_of_getElem? (i := 164) rfl))))) rfl, (h.w (List.mem_append_left _ (List.mem_of_getElem? (i := 19) (by decide +kernel))) rfl), h.w (List.mem_append_right _ (List.mem_append_left _ (List.mem_of_getElem? (i := 8) rfl))) rfl, fun a U hW => wk_at hW rfl (h.w (a := #[]) (List.mem_append_right _ (List.mem_append_right _ (List.mem_append_right _ (List.mem_append_left _ (List.mem_of_getElem? (i := 165) rfl))))) rfl)⟩
theorem cw_C_59 (h : KK l G s) : LkV s args R_C R_Q 59 y_Q_leaveOut cc_Q_leaveOut 2 none 1 := ⟨⟨by decide +kernel, by decide +kernel, by decide +kernel⟩, h.w (List.mem_append_right _ (List.mem_append_right _ (List.mem_append_right _ (List.mem_append_left _ (List.mem_of_getElem? (i := 166) rfl))))) rfl, h.w (List.mem_append_right _ (List.mem_append_right _ (List.mem_append_right _ (List.mem_append_left _ (List.mem_of_getElem? (i := 167) rfl))))) rfl, (h.w (List.mem_append_right _ (List.mem_append_right _ (List.mem_append_right _ (List.mem_append_left _ (List.mem_of_getElem? (i := 168) rfl))))) rfl), h.w (List.mem_append_right _ (List.mem_append_left _ (List.mem_of_getElem? (i := 3) rfl))) rfl, fun a U hW => wk_at hW rfl (h.w (a := #[]) (List.mem_append_right _ (List.mem_append_right _ (List.mem_append_right _ (List.mem_append_left _ (List.mem_of_getElem? (i := 169) rfl))))) rfl)⟩
theorem cw_C_63 (h : KK l G s) : LkV s args R_C R_T 63 y_T_build cc_T_build 4 none 2 := ⟨⟨by decide +kernel, by decide +kernel, by decide +kernel⟩, h.w (List.mem_append_right _ (List.mem_append_right _ (List.mem_append_right _ (List.mem_append_left _ (List.mem_of_getElem? (i := 170) rfl))))) rfl, h.w (List.mem_append_right _ (List.mem_append_right _ (List.mem_append_left _ (List.mem_of_getElem? (i := 52) rfl)))) rfl, (h.w (List.mem_append_right _ (List.mem_append_right _ (List.mem_append_left _ (List.mem_of_getElem? (i := 53) rfl)))) rfl), h.w (List.mem_append_right _ (List.mem_append_left _ (List.mem_of_getElem? (i := 5) rfl))) rfl, fun a U hW => wk_at hW rfl (h.w (a := #[]) (List.mem_append_right _ (List.mem_append_right _ (List.mem_append_left _ (List.mem_of_getElem? (i := 54) rfl)))) rfl)⟩
theorem cw_C_68 (h : KK l G s) : LkV s args R_C R_T 68 y_T_isRefused cc_T_isRefused 1 (some .boolean) 0 := ⟨⟨by decide +kernel, by decide +kernel, by decide +kernel⟩, h.w (List.mem_append_right _ (List.mem_append_right _ (List.mem_append_right _ (List.mem_append_left _ (List.mem_of_getElem? (i := 171) rfl))))) rfl, h.w (List.mem_append_right _ (List.mem_append_right _ (List.mem_append_left _ (List.mem_of_getElem? (i := 104) rfl)))) rfl, (h.w (List.mem_append_right _ (List.mem_append_right _ (List.mem_append_left _ (List.mem_of_getElem? (i := 105) rfl)))) rfl), h.w (List.mem_append_right _ (List.mem_append_left _ (List.mem_of_getElem? (i := 5) rfl))) rfl, fun a U hW => wk_at hW rfl (h.w (a := #[]) (List.mem_append_right _ (List.mem_append_right _ (List.mem_append_left _ (List.mem_of_getElem? (i := 106) rfl)))) rfl)⟩
theorem cw_C_72 (h : KK l G s) : LkV s args R_C R_T 72 y_T_panels cc_T_panels 1 (some .long) 0 := ⟨⟨by decide +kernel, by decide +kernel, by decide +kernel⟩, h.w (List.mem_append_right _ (List.mem_append_right _ (List.mem_append_right _ (List.mem_append_left _ (List.mem_of_getElem? (i := 172) rfl))))) rfl, h.w (List.mem_append_right _ (List.mem_append_right _ (List.mem_append_right _ (List.mem_append_left _ (List.mem_of_getElem? (i := 92) rfl))))) rfl, (h.w (List.mem_append_right _ (List.mem_append_right _ (List.mem_append_right _ (List.mem_append_left _ (List.mem_of_getElem? (i := 93) rfl))))) rfl), h.w (List.mem_append_right _ (List.mem_append_left _ (List.mem_of_getElem? (i := 5) rfl))) rfl, fun a U hW => wk_at hW rfl (h.w (a := #[]) (List.mem_append_right _ (List.mem_append_right _ (List.mem_append_right _ (List.mem_append_left _ (List.mem_of_getElem? (i := 94) rfl))))) rfl)⟩
theorem cw_L_7 (h : KK l G s) : LkV s args R_L R_O 7 y_O_trait cc_O_trait 3 none 2 := ⟨⟨by decide +kernel, by decide +kernel, by decide +kernel⟩, h.w (List.mem_append_right _ (List.mem_append_right _ (List.mem_append_left _ (List.mem_of_getElem? (i := 141) rfl)))) rfl, h.w (List.mem_append_right _ (List.mem_append_right _ (List.mem_append_left _ (List.mem_of_getElem? (i := 142) rfl)))) rfl, (h.w (List.mem_append_right _ (List.mem_append_right _ (List.mem_append_left _ (List.mem_of_getElem? (i := 143) rfl)))) rfl), h.w (List.mem_append_right _ (List.mem_append_left _ (List.mem_of_getElem? (i := 1) rfl))) rfl, fun a U hW => wk_at hW rfl (h.w (a := #[]) (List.mem_append_right _ (List.mem_append_right _ (List.mem_append_left _ (List.mem_of_getElem? (i := 144) rfl)))) rfl)⟩
theorem cw_L_17 (h : KK l G s) : LkV s args R_L R_O 17 y_O_person cc_O_person 5 (some .int) 3 := ⟨⟨by decide +kernel, by decide +kernel, by decide +kernel⟩, h.w (List.mem_append_right _ (List.mem_append_right _ (List.mem_append_right _ (List.mem_append_left _ (List.mem_of_getElem? (i := 9) rfl))))) rfl, h.w (List.mem_append_right _ (List.mem_append_right _ (List.mem_append_right _ (List.mem_append_left _ (List.mem_of_getElem? (i := 10) rfl))))) rfl, (h.w (List.mem_append_right _ (List.mem_append_right _ (List.mem_append_right _ (List.mem_append_left _ (List.mem_of_getElem? (i := 11) rfl))))) rfl), h.w (List.mem_append_right _ (List.mem_append_left _ (List.mem_of_getElem? (i := 1) rfl))) rfl, fun a U hW => wk_at hW rfl (h.w (a := #[]) (List.mem_append_right _ (List.mem_append_right _ (List.mem_append_right _ (List.mem_append_left _ (List.mem_of_getElem? (i := 12) rfl))))) rfl)⟩
theorem cw_L_21 (h : KK l G s) : LkV s args R_L R_O 21 y_O_quota cc_O_quota 5 none 4 := ⟨⟨by decide +kernel, by decide +kernel, by decide +kernel⟩, h.w (List.mem_append_right _ (List.mem_append_right _ (List.mem_append_right _ (List.mem_append_left _ (List.mem_of_getElem? (i := 45) rfl))))) rfl, h.w (List.mem_append_right _ (List.mem_append_right _ (List.mem_append_right _ (List.mem_append_left _ (List.mem_of_getElem? (i := 46) rfl))))) rfl, (h.w (List.mem_append_right _ (List.mem_append_right _ (List.mem_append_right _ (List.mem_append_left _ (List.mem_of_getElem? (i := 47) rfl))))) rfl), h.w (List.mem_append_right _ (List.mem_append_left _ (List.mem_of_getElem? (i := 1) rfl))) rfl, fun a U hW => wk_at hW rfl (h.w (a := #[]) (List.mem_append_right _ (List.mem_append_right _ (List.mem_append_right _ (List.mem_append_left _ (List.mem_of_getElem? (i := 48) rfl))))) rfl)⟩
theorem cw_L_25 (h : KK l G s) : LkV s args R_L R_O 25 y_O_size cc_O_size 2 none 1 := ⟨⟨by decide +kernel, by decide +kernel, by decide +kernel⟩, h.w (List.mem_append_right _ (List.mem_append_right _ (List.mem_append_right _ (List.mem_append_left _ (List.mem_of_getElem? (i := 58) rfl))))) rfl, h.w (List.mem_append_right _ (List.mem_append_right _ (List.mem_append_right _ (List.mem_append_left _ (List.mem_of_getElem? (i := 59) rfl))))) rfl, (h.w (List.mem_append_right _ (List.mem_append_right _ (List.mem_append_right _ (List.mem_append_left _ (List.mem_of_getElem? (i := 60) rfl))))) rfl), h.w (List.mem_append_right _ (List.mem_append_left _ (List.mem_of_getElem? (i := 1) rfl))) rfl, fun a U hW => wk_at hW rfl (h.w (a := #[]) (List.mem_append_right _ (List.mem_append_right _ (List.mem_append_right _ (List.mem_append_left _ (List.mem_of_getElem? (i := 61) rfl))))) rfl)⟩
theorem cw_L_29 (h : KK l G s) : LkV s args R_L R_O 29 y_O_count cc_O_count 1 (some .long) 0 := ⟨⟨by decide +kernel, by decide +kernel, by decide +kernel⟩, h.w (List.mem_append_right _ (List.mem_append_right _ (List.mem_append_right _ (List.mem_append_left _ (List.mem_of_getElem? (i := 67) rfl))))) rfl, h.w (List.mem_append_right _ (List.mem_append_right _ (List.mem_append_right _ (List.mem_append_left _ (List.mem_of_getElem? (i := 68) rfl))))) rfl, (h.w (List.mem_append_right _ (List.mem_append_right _ (List.mem_append_right _ (List.mem_append_left _ (List.mem_of_getElem? (i := 69) rfl))))) rfl), h.w (List.mem_append_right _ (List.mem_append_left _ (List.mem_of_getElem? (i := 1) rfl))) rfl, fun a U hW => wk_at hW rfl (h.w (a := #[]) (List.mem_append_right _ (List.mem_append_right _ (List.mem_append_right _ (List.mem_append_left _ (List.mem_of_getElem? (i := 70) rfl))))) rfl)⟩
theorem cw_L_35 (h : KK l G s) : LkV s args R_L R_O 35 y_O_chance cc_O_chance 2 (some .long) 1 := ⟨⟨by decide +kernel, by decide +kernel, by decide +kernel⟩, h.w (List.mem_append_right _ (List.mem_append_right _ (List.mem_append_right _ (List.mem_append_left _ (List.mem_of_getElem? (i := 98) rfl))))) rfl, h.w (List.mem_append_right _ (List.mem_append_right _ (List.mem_append_right _ (List.mem_append_left _ (List.mem_of_getElem? (i := 99) rfl))))) rfl, (h.w (List.mem_append_right _ (List.mem_append_right _ (List.mem_append_right _ (List.mem_append_left _ (List.mem_of_getElem? (i := 100) rfl))))) rfl), h.w (List.mem_append_right _ (List.mem_append_left _ (List.mem_of_getElem? (i := 1) rfl))) rfl, fun a U hW => wk_at hW rfl (h.w (a := #[]) (List.mem_append_right _ (List.mem_append_right _ (List.mem_append_right _ (List.mem_append_left _ (List.mem_of_getElem? (i := 101) rfl))))) rfl)⟩
theorem cw_L_39 (h : KK l G s) : LkV s args R_L R_O 39 y_O_kind cc_O_kind 2 (some .int) 1 := ⟨⟨by decide +kernel, by decide +kernel, by decide +kernel⟩, h.w (List.mem_append_right _ (List.mem_append_right _ (List.mem_append_right _ (List.mem_append_left _ (List.mem_of_getElem? (i := 133) rfl))))) rfl, h.w (List.mem_append_right _ (List.mem_append_right _ (List.mem_append_right _ (List.mem_append_left _ (List.mem_of_getElem? (i := 134) rfl))))) rfl, (h.w (List.mem_append_right _ (List.mem_append_right _ (List.mem_append_right _ (List.mem_append_left _ (List.mem_of_getElem? (i := 135) rfl))))) rfl), h.w (List.mem_append_right _ (List.mem_append_left _ (List.mem_of_getElem? (i := 1) rfl))) rfl, fun a U hW => wk_at hW rfl (h.w (a := #[]) (List.mem_append_right _ (List.mem_append_right _ (List.mem_append_right _ (List.mem_append_left _ (List.mem_of_getElem? (i := 136) rfl))))) rfl)⟩
theorem cw_L_43 (h : KK l G s) : LkV s args R_L R_O 43 y_O_blocked cc_O_blocked 2 (some .int) 1 := ⟨⟨by decide +kernel, by decide +kernel, by decide +kernel⟩, h.w (List.mem_append_right _ (List.mem_append_right _ (List.mem_append_right _ (List.mem_append_left _ (List.mem_of_getElem? (i := 140) rfl))))) rfl, h.w (List.mem_append_right _ (List.mem_append_right _ (List.mem_append_right _ (List.mem_append_left _ (List.mem_of_getElem? (i := 141) rfl))))) rfl, (h.w (List.mem_append_right _ (List.mem_append_right _ (List.mem_append_right _ (List.mem_append_left _ (List.mem_of_getElem? (i := 142) rfl))))) rfl), h.w (List.mem_append_right _ (List.mem_append_left _ (List.mem_of_getElem? (i := 1) rfl))) rfl, fun a U hW => wk_at hW rfl (h.w (a := #[]) (List.mem_append_right _ (List.mem_append_right _ (List.mem_append_right _ (List.mem_append_left _ (List.mem_of_getElem? (i := 143) rfl))))) rfl)⟩
theorem cw_L_46 (h : KK l G s) : LkV s args R_L R_O 46 y_O_panel cc_O_panel 4 (some .int) 2 := ⟨⟨by decide +kernel, by decide +kernel, by decide +kernel⟩, h.w (List.mem_append_right _ (List.mem_append_right _ (List.mem_append_right _ (List.mem_append_left _ (List.mem_of_getElem? (i := 185) rfl))))) rfl, h.w (List.mem_append_right _ (List.mem_append_right _ (List.mem_append_right _ (List.mem_append_left _ (List.mem_of_getElem? (i := 186) rfl))))) rfl, (h.w (List.mem_append_right _ (List.mem_append_right _ (List.mem_append_right _ (List.mem_append_left _ (List.mem_of_getElem? (i := 187) rfl))))) rfl), h.w (List.mem_append_right _ (List.mem_append_left _ (List.mem_of_getElem? (i := 1) rfl))) rfl, fun a U hW => wk_at hW rfl (h.w (a := #[]) (List.mem_append_right _ (List.mem_append_right _ (List.mem_append_right _ (List.mem_append_left _ (List.mem_of_getElem? (i := 188) rfl))))) rfl)⟩
theorem cw_L_50 (h : KK l G s) : LkV s args R_L R_O 50 y_O_mark cc_O_mark 2 (some .boolean) 1 := ⟨⟨by decide +kernel, by decide +kernel, by decide +kernel⟩, h.w (List.mem_append_right _ (List.mem_append_right _ (List.mem_append_right _ (List.mem_append_left _ (List.mem_of_getElem? (i := 210) rfl))))) rfl, h.w (List.mem_append_right _ (List.mem_append_right _ (List.mem_append_right _ (List.mem_append_left _ (List.mem_of_getElem? (i := 211) rfl))))) rfl, (h.w (List.mem_append_right _ (List.mem_append_right _ (List.mem_append_right _ (List.mem_append_left _ (List.mem_of_getElem? (i := 212) rfl))))) rfl), h.w (List.mem_append_right _ (List.mem_append_left _ (List.mem_of_getElem? (i := 1) rfl))) rfl, fun a U hW => wk_at hW rfl (h.w (a := #[]) (List.mem_append_right _ (List.mem_append_right _ (List.mem_append_right _ (List.mem_append_left _ (List.mem_of_getElem? (i := 213) rfl))))) rfl)⟩
theorem cw_L_54 (h : KK l G s) : LkV s args R_L R_O 54 y_O_rank cc_O_rank 3 (some .long) 0 := ⟨⟨by decide +kernel, by decide +kernel, by decide +kernel⟩, h.w (List.mem_append_right _ (List.mem_append_right _ (List.mem_append_right _ (List.mem_append_left _ (List.mem_of_getElem? (i := 221) rfl))))) rfl, h.w (List.mem_append_right _ (List.mem_append_right _ (List.mem_append_right _ (List.mem_append_left _ (List.mem_of_getElem? (i := 222) rfl))))) rfl, (h.w (List.mem_append_right _ (List.mem_append_right _ (List.mem_append_right _ (List.mem_append_left _ (List.mem_of_getElem? (i := 223) rfl))))) rfl), h.w (List.mem_append_right _ (List.mem_append_left _ (List.mem_of_getElem? (i := 1) rfl))) rfl, fun a U hW => wk_at hW rfl (h.w (a := #[]) (List.mem_append_right _ (List.mem_append_right _ (List.mem_append_right _ (List.mem_append_left _ (List.mem_of_getElem? (i := 224) rfl))))) rfl)⟩
theorem cw_L_59 (h : KK l G s) : LkV s args R_L R_O 59 y_O_dice cc_O_dice 4 (some .int) 1 := ⟨⟨by decide +kernel, by decide +kernel, by decide +kernel⟩, h.w (List.mem_append_right _ (List.mem_append_right _ (List.mem_append_right _ (List.mem_append_right _ (List.mem_append_left _ (List.mem_of_getElem? (i := 18) rfl)))))) rfl, h.w (List.mem_append_right _ (List.mem_append_right _ (List.mem_append_right _ (List.mem_append_right _ (List.mem_append_left _ (List.mem_of_getElem? (i := 19) rfl)))))) rfl, (h.w (List.mem_append_right _ (List.mem_append_right _ (List.mem_append_right _ (List.mem_append_right _ (List.mem_append_left _ (List.mem_of_getElem? (i := 20) rfl)))))) rfl), h.w (List.mem_append_right _ (List.mem_append_left _ (List.mem_of_getElem? (i := 1) rfl))) rfl, fun a U hW => wk_at hW rfl (h.w (a := #[]) (List.mem_append_right _ (List.mem_append_right _ (List.mem_append_right _ (List.mem_append_right _ (List.mem_append_left _ (List.mem_of_getElem? (i := 21) rfl)))))) rfl)⟩
theorem cw_L_62 (h : KK l G s) : LkV s args R_L R_O 62 y_O_roll cc_O_roll 2 (some .int) 1 := ⟨⟨by decide +kernel, by decide +kernel, by decide +kernel⟩, h.w (List.mem_append_right _ (List.mem_append_right _ (List.mem_append_right _ (List.mem_append_right _ (List.mem_append_left _ (List.mem_of_getElem? (i := 61) rfl)))))) rfl, h.w (List.mem_append_right _ (List.mem_append_right _ (List.mem_append_right _ (List.mem_append_right _ (List.mem_append_left _ (List.mem_of_getElem? (i := 62) rfl)))))) rfl, (h.w (List.mem_append_right _ (List.mem_append_right _ (List.mem_append_right _ (List.mem_append_right _ (List.mem_append_left _ (List.mem_of_getElem? (i := 63) rfl)))))) rfl), h.w (List.mem_append_right _ (List.mem_append_left _ (List.mem_of_getElem? (i := 1) rfl))) rfl, fun a U hW => wk_at hW rfl (h.w (a := #[]) (List.mem_append_right _ (List.mem_append_right _ (List.mem_append_right _ (List.mem_append_right _ (List.mem_append_left _ (List.mem_of_getElem? (i := 64) rfl)))))) rfl)⟩
theorem cw_L_65 (h : KK l G s) : LkV s args R_L R_O 65 y_O_number cc_O_number 1 (some .long) 0 := ⟨⟨by decide +kernel, by decide +kernel, by decide +kernel⟩, h.w (List.mem_append_right _ (List.mem_append_right _ (List.mem_append_right _ (List.mem_append_right _ (List.mem_append_left _ (List.mem_of_getElem? (i := 82) rfl)))))) rfl, h.w (List.mem_append_right _ (List.mem_append_right _ (List.mem_append_right _ (List.mem_append_right _ (List.mem_append_left _ (List.mem_of_getElem? (i := 83) rfl)))))) rfl, (h.w (List.mem_append_right _ (List.mem_append_right _ (List.mem_append_right _ (List.mem_append_right _ (List.mem_append_left _ (List.mem_of_getElem? (i := 84) rfl)))))) rfl), h.w (List.mem_append_right _ (List.mem_append_left _ (List.mem_of_getElem? (i := 1) rfl))) rfl, fun a U hW => wk_at hW rfl (h.w (a := #[]) (List.mem_append_right _ (List.mem_append_right _ (List.mem_append_right _ (List.mem_append_right _ (List.mem_append_left _ (List.mem_of_getElem? (i := 85) rfl)))))) rfl)⟩
theorem cw_L_68 (h : KK l G s) : LkV s args R_L R_O 68 y_O_draw cc_O_draw 1 none 0 := ⟨⟨by decide +kernel, by decide +kernel, by decide +kernel⟩, h.w (List.mem_append_right _ (List.mem_append_right _ (List.mem_append_right _ (List.mem_append_right _ (List.mem_append_left _ (List.mem_of_getElem? (i := 98) rfl)))))) rfl, h.w (List.mem_append_right _ (List.mem_append_right _ (List.mem_append_right _ (List.mem_append_right _ (List.mem_append_left _ (List.mem_of_getElem? (i := 99) rfl)))))) rfl, (h.w (List.mem_append_right _ (List.mem_append_right _ (List.mem_append_right _ (List.mem_append_right _ (List.mem_append_left _ (List.mem_of_getElem? (i := 100) rfl)))))) rfl), h.w (List.mem_append_right _ (List.mem_append_left _ (List.mem_of_getElem? (i := 1) rfl))) rfl, fun a U hW => wk_at hW rfl (h.w (a := #[]) (List.mem_append_right _ (List.mem_append_right _ (List.mem_append_right _ (List.mem_append_right _ (List.mem_append_left _ (List.mem_of_getElem? (i := 101) rfl)))))) rfl)⟩
theorem cw_L_71 (h : KK l G s) : LkV s args R_L R_O 71 y_O_member cc_O_member 2 (some .int) 1 := ⟨⟨by decide +kernel, by decide +kernel, by decide +kernel⟩, h.w (List.mem_append_right _ (List.mem_append_right _ (List.mem_append_right _ (List.mem_append_right _ (List.mem_append_left _ (List.mem_of_getElem? (i := 114) rfl)))))) rfl, h.w (List.mem_append_right _ (List.mem_append_right _ (List.mem_append_right _ (List.mem_append_right _ (List.mem_append_left _ (List.mem_of_getElem? (i := 115) rfl)))))) rfl, (h.w (List.mem_append_right _ (List.mem_append_right _ (List.mem_append_right _ (List.mem_append_right _ (List.mem_append_left _ (List.mem_of_getElem? (i := 116) rfl)))))) rfl), h.w (List.mem_append_right _ (List.mem_append_left _ (List.mem_of_getElem? (i := 1) rfl))) rfl, fun a U hW => wk_at hW rfl (h.w (a := #[]) (List.mem_append_right _ (List.mem_append_right _ (List.mem_append_right _ (List.mem_append_right _ (List.mem_append_left _ (List.mem_of_getElem? (i := 117) rfl)))))) rfl)⟩
theorem cw_L_74 (h : KK l G s) : LkV s args R_L R_O 74 y_O_dropOut cc_O_dropOut 2 none 1 := ⟨⟨by decide +kernel, by decide +kernel, by decide +kernel⟩, h.w (List.mem_append_right _ (List.mem_append_right _ (List.mem_append_right _ (List.mem_append_right _ (List.mem_append_left _ (List.mem_of_getElem? (i := 130) rfl)))))) rfl, h.w (List.mem_append_right _ (List.mem_append_right _ (List.mem_append_right _ (List.mem_append_right _ (List.mem_append_left _ (List.mem_of_getElem? (i := 131) rfl)))))) rfl, (h.w (List.mem_append_right _ (List.mem_append_right _ (List.mem_append_right _ (List.mem_append_right _ (List.mem_append_left _ (List.mem_of_getElem? (i := 132) rfl)))))) rfl), h.w (List.mem_append_right _ (List.mem_append_left _ (List.mem_of_getElem? (i := 1) rfl))) rfl, fun a U hW => wk_at hW rfl (h.w (a := #[]) (List.mem_append_right _ (List.mem_append_right _ (List.mem_append_right _ (List.mem_append_right _ (List.mem_append_left _ (List.mem_of_getElem? (i := 133) rfl)))))) rfl)⟩
theorem cw_L_77 (h : KK l G s) : LkV s args R_L R_O 77 y_O_candidate cc_O_candidate 2 (some .int) 1 := ⟨⟨by decide +kernel, by decide +kernel, by decide +kernel⟩, h.w (List.mem_append_right _ (List.mem_append_right _ (List.mem_append_right _ (List.mem_append_right _ (List.mem_append_left _ (List.mem_of_getElem? (i := 149) rfl)))))) rfl, h.w (List.mem_append_right _ (List.mem_append_right _ (List.mem_append_right _ (List.mem_append_right _ (List.mem_append_left _ (List.mem_of_getElem? (i := 150) rfl)))))) rfl, (h.w (List.mem_append_right _ (List.mem_append_right _ (List.mem_append_right _ (List.mem_append_right _ (List.mem_append_left _ (List.mem_of_getElem? (i := 151) rfl)))))) rfl), h.w (List.mem_append_right _ (List.mem_append_left _ (List.mem_of_getElem? (i := 1) rfl))) rfl, fun a U hW => wk_at hW rfl (h.w (a := #[]) (List.mem_append_right _ (List.mem_append_right _ (List.mem_append_right _ (List.mem_append_right _ (List.mem_append_left _ (List.mem_of_getElem? (i := 152) rfl)))))) rfl)⟩
theorem cw_L_80 (h : KK l G s) : LkV s args R_L R_O 80 y_O_replace cc_O_replace 2 (some .int) 0 := ⟨⟨by decide +kernel, by decide +kernel, by decide +kernel⟩, h.w (List.mem_append_right _ (List.mem_append_right _ (List.mem_append_right _ (List.mem_append_right _ (List.mem_append_left _ (List.mem_of_getElem? (i := 160) rfl)))))) rfl, h.w (List.mem_append_right _ (List.mem_append_right _ (List.mem_append_right _ (List.mem_append_right _ (List.mem_append_left _ (List.mem_of_getElem? (i := 161) rfl)))))) rfl, (h.w (List.mem_append_right _ (List.mem_append_right _ (List.mem_append_right _ (List.mem_append_right _ (List.mem_append_left _ (List.mem_of_getElem? (i := 162) rfl)))))) rfl), h.w (List.mem_append_right _ (List.mem_append_left _ (List.mem_of_getElem? (i := 1) rfl))) rfl, fun a U hW => wk_at hW rfl (h.w (a := #[]) (List.mem_append_right _ (List.mem_append_right _ (List.mem_append_right _ (List.mem_append_right _ (List.mem_append_left _ (List.mem_of_getElem? (i := 163) rfl)))))) rfl)⟩
theorem cw_L_84 (h : KK l G s) : LkV s args R_L R_O 84 y_O_breach cc_O_breach 1 (some .int) 0 := ⟨⟨by decide +kernel, by decide +kernel, by decide +kernel⟩, h.w (List.mem_append_right _ (List.mem_append_right _ (List.mem_append_right _ (List.mem_append_right _ (List.mem_append_left _ (List.mem_of_getElem? (i := 177) rfl)))))) rfl, h.w (List.mem_append_right _ (List.mem_append_right _ (List.mem_append_right _ (List.mem_append_right _ (List.mem_append_left _ (List.mem_of_getElem? (i := 178) rfl)))))) rfl, (h.w (List.mem_append_right _ (List.mem_append_right _ (List.mem_append_right _ (List.mem_append_right _ (List.mem_append_left _ (List.mem_of_getElem? (i := 179) rfl)))))) rfl), h.w (List.mem_append_right _ (List.mem_append_left _ (List.mem_of_getElem? (i := 1) rfl))) rfl, fun a U hW => wk_at hW rfl (h.w (a := #[]) (List.mem_append_right _ (List.mem_append_right _ (List.mem_append_right _ (List.mem_append_right _ (List.mem_append_left _ (List.mem_of_getElem? (i := 180) rfl)))))) rfl)⟩
theorem cw_M_79 (h : KK l G s) : LkV s args R_M R_M 79 y_M_is cc_M_is 2 (some .int) 1 := ⟨⟨by decide +kernel, by decide +kernel, by decide +kernel⟩, h.w (List.mem_append_right _ (List.mem_append_right _ (List.mem_append_right _ (List.mem_append_right _ (List.mem_append_right _ (List.mem_append_left _ (List.mem_of_getElem? (i := 74) rfl))))))) rfl, h.w (List.mem_append_right _ (List.mem_append_right _ (List.mem_append_right _ (List.mem_append_right _ (List.mem_append_right _ (List.mem_append_left _ (List.mem_of_getElem? (i := 76) rfl))))))) rfl, (h.w (List.mem_append_left _ (List.mem_of_getElem? (i := 30) (by decide +kernel))) rfl), h.w (List.mem_append_right _ (List.mem_append_left _ (List.mem_of_getElem? (i := 11) rfl))) rfl, fun a U hW => wk_at hW rfl (h.w (a := #[]) (List.mem_append_right _ (List.mem_append_right _ (List.mem_append_right _ (List.mem_append_right _ (List.mem_append_right _ (List.mem_append_left _ (List.mem_of_getElem? (i := 77) rfl))))))) rfl)⟩
theorem cw_M_93 (h : KK l G s) : LkV s args R_M R_M 93 y_M_gather cc_M_gather 4 none 0 := ⟨⟨by decide +kernel, by decide +kernel, by decide +kernel⟩, h.w (List.mem_append_right _ (List.mem_append_right _ (List.mem_append_right _ (List.mem_append_right _ (List.mem_append_right _ (List.mem_append_left _ (List.mem_of_getElem? (i := 70) rfl))))))) rfl, h.w (List.mem_append_right _ (List.mem_append_right _ (List.mem_append_right _ (List.mem_append_right _ (List.mem_append_right _ (List.mem_append_left _ (List.mem_of_getElem? (i := 72) rfl))))))) rfl, (h.w (List.mem_append_left _ (List.mem_of_getElem? (i := 29) (by decide +kernel))) rfl), h.w (List.mem_append_right _ (List.mem_append_left _ (List.mem_of_getElem? (i := 11) rfl))) rfl, fun a U hW => wk_at hW rfl (h.w (a := #[]) (List.mem_append_right _ (List.mem_append_right _ (List.mem_append_right _ (List.mem_append_right _ (List.mem_append_right _ (List.mem_append_left _ (List.mem_of_getElem? (i := 73) rfl))))))) rfl)⟩
theorem cw_M_96 (h : KK l G s) : LkS s args R_M 96 y_M_isTrait cc_M_isTrait 1 (some .boolean) 1 := ⟨⟨by decide +kernel, by decide +kernel, by decide +kernel⟩, h.w (List.mem_append_right _ (List.mem_append_right _ (List.mem_append_right _ (List.mem_append_right _ (List.mem_append_right _ (List.mem_append_left _ (List.mem_of_getElem? (i := 63) rfl))))))) rfl, h.w (List.mem_append_right _ (List.mem_append_right _ (List.mem_append_right _ (List.mem_append_right _ (List.mem_append_right _ (List.mem_append_left _ (List.mem_of_getElem? (i := 64) rfl))))))) rfl, h.w (List.mem_append_right _ (List.mem_append_left _ (List.mem_of_getElem? (i := 11) rfl))) rfl, fun a U hW => wk_at hW rfl (h.w (a := #[]) (List.mem_append_right _ (List.mem_append_right _ (List.mem_append_right _ (List.mem_append_right _ (List.mem_append_right _ (List.mem_append_left _ (List.mem_of_getElem? (i := 65) rfl))))))) rfl)⟩
theorem cw_M_103 (h : KK l G s) : LkV s args R_M R_M 103 y_M_changed cc_M_changed 1 none 0 := ⟨⟨by decide +kernel, by decide +kernel, by decide +kernel⟩, h.w (List.mem_append_right _ (List.mem_append_right _ (List.mem_append_right _ (List.mem_append_right _ (List.mem_append_right _ (List.mem_append_left _ (List.mem_of_getElem? (i := 66) rfl))))))) rfl, h.w (List.mem_append_right _ (List.mem_append_right _ (List.mem_append_right _ (List.mem_append_right _ (List.mem_append_right _ (List.mem_append_left _ (List.mem_of_getElem? (i := 68) rfl))))))) rfl, (h.w (List.mem_append_left _ (List.mem_of_getElem? (i := 28) (by decide +kernel))) rfl), h.w (List.mem_append_right _ (List.mem_append_left _ (List.mem_of_getElem? (i := 11) rfl))) rfl, fun a U hW => wk_at hW rfl (h.w (a := #[]) (List.mem_append_right _ (List.mem_append_right _ (List.mem_append_right _ (List.mem_append_right _ (List.mem_append_right _ (List.mem_append_left _ (List.mem_of_getElem? (i := 69) rfl))))))) rfl)⟩
theorem cw_M_108 (h : KK l G s) : LkS s args R_M 108 y_M_place cc_M_place 2 (some .int) 1 := ⟨⟨by decide +kernel, by decide +kernel, by decide +kernel⟩, h.w (List.mem_append_right _ (List.mem_append_right _ (List.mem_append_right _ (List.mem_append_right _ (List.mem_append_right _ (List.mem_append_left _ (List.mem_of_getElem? (i := 129) rfl))))))) rfl, h.w (List.mem_append_right _ (List.mem_append_right _ (List.mem_append_right _ (List.mem_append_right _ (List.mem_append_right _ (List.mem_append_left _ (List.mem_of_getElem? (i := 130) rfl))))))) rfl, h.w (List.mem_append_right _ (List.mem_append_left _ (List.mem_of_getElem? (i := 11) rfl))) rfl, fun a U hW => wk_at hW rfl (h.w (a := #[]) (List.mem_append_right _ (List.mem_append_right _ (List.mem_append_right _ (List.mem_append_right _ (List.mem_append_right _ (List.mem_append_left _ (List.mem_of_getElem? (i := 131) rfl))))))) rfl)⟩
theorem cw_M_112 (h : KK l G s) : LkS s args R_M 112 y_M_had cc_M_had 4 (some .int) 3 := ⟨⟨by decide +kernel, by decide +kernel, by decide +kernel⟩, h.w (List.mem_append_right _ (List.mem_append_right _ (List.mem_append_right _ (List.mem_append_right _ (List.mem_append_right _ (List.mem_append_left _ (List.mem_of_getElem? (i := 121) rfl))))))) rfl, h.w (List.mem_append_right _ (List.mem_append_right _ (List.mem_append_right _ (List.mem_append_right _ (List.mem_append_right _ (List.mem_append_left _ (List.mem_of_getElem? (i := 122) rfl))))))) rfl, h.w (List.mem_append_right _ (List.mem_append_left _ (List.mem_of_getElem? (i := 11) rfl))) rfl, fun a U hW => wk_at hW rfl (h.w (a := #[]) (List.mem_append_right _ (List.mem_append_right _ (List.mem_append_right _ (List.mem_append_right _ (List.mem_append_right _ (List.mem_append_left _ (List.mem_of_getElem? (i := 123) rfl))))))) rfl)⟩
theorem cw_M_116 (h : KK l G s) : LkS s args R_M 116 y_M_all cc_M_all 2 (some .int) 1 := ⟨⟨by decide +kernel, by decide +kernel, by decide +kernel⟩, h.w (List.mem_append_right _ (List.mem_append_right _ (List.mem_append_right _ (List.mem_append_right _ (List.mem_append_right _ (List.mem_append_left _ (List.mem_of_getElem? (i := 118) rfl))))))) rfl, h.w (List.mem_append_right _ (List.mem_append_right _ (List.mem_append_right _ (List.mem_append_right _ (List.mem_append_right _ (List.mem_append_left _ (List.mem_of_getElem? (i := 119) rfl))))))) rfl, h.w (List.mem_append_right _ (List.mem_append_left _ (List.mem_of_getElem? (i := 11) rfl))) rfl, fun a U hW => wk_at hW rfl (h.w (a := #[]) (List.mem_append_right _ (List.mem_append_right _ (List.mem_append_right _ (List.mem_append_right _ (List.mem_append_right _ (List.mem_append_left _ (List.mem_of_getElem? (i := 120) rfl))))))) rfl)⟩
theorem cw_M_119 (h : KK l G s) : LkV s args R_M R_M 119 y_M_isAllowed cc_M_isAllowed 6 (some .boolean) 1 := ⟨⟨by decide +kernel, by decide +kernel, by decide +kernel⟩, h.w (List.mem_append_right _ (List.mem_append_right _ (List.mem_append_right _ (List.mem_append_right _ (List.mem_append_right _ (List.mem_append_left _ (List.mem_of_getElem? (i := 114) rfl))))))) rfl, h.w (List.mem_append_right _ (List.mem_append_right _ (List.mem_append_right _ (List.mem_append_right _ (List.mem_append_right _ (List.mem_append_left _ (List.mem_of_getElem? (i := 116) rfl))))))) rfl, (h.w (List.mem_append_left _ (List.mem_of_getElem? (i := 36) (by decide +kernel))) rfl), h.w (List.mem_append_right _ (List.mem_append_left _ (List.mem_of_getElem? (i := 11) rfl))) rfl, fun a U hW => wk_at hW rfl (h.w (a := #[]) (List.mem_append_right _ (List.mem_append_right _ (List.mem_append_right _ (List.mem_append_right _ (List.mem_append_right _ (List.mem_append_left _ (List.mem_of_getElem? (i := 117) rfl))))))) rfl)⟩
theorem cw_M_129 (h : KK l G s) : LkV s args R_M R_M 129 y_M_spread cc_M_spread 9 none 2 := ⟨⟨by decide +kernel, by decide +kernel, by decide +kernel⟩, h.w (List.mem_append_right _ (List.mem_append_right _ (List.mem_append_right _ (List.mem_append_right _ (List.mem_append_right _ (List.mem_append_left _ (List.mem_of_getElem? (i := 106) rfl))))))) rfl, h.w (List.mem_append_right _ (List.mem_append_right _ (List.mem_append_right _ (List.mem_append_right _ (List.mem_append_right _ (List.mem_append_left _ (List.mem_of_getElem? (i := 108) rfl))))))) rfl, (h.w (List.mem_append_left _ (List.mem_of_getElem? (i := 34) (by decide +kernel))) rfl), h.w (List.mem_append_right _ (List.mem_append_left _ (List.mem_of_getElem? (i := 11) rfl))) rfl, fun a U hW => wk_at hW rfl (h.w (a := #[]) (List.mem_append_right _ (List.mem_append_right _ (List.mem_append_right _ (List.mem_append_right _ (List.mem_append_right _ (List.mem_append_left _ (List.mem_of_getElem? (i := 109) rfl))))))) rfl)⟩
theorem cw_M_133 (h : KK l G s) : LkV s args R_M R_M 133 y_M_adds cc_M_adds 3 (some .long) 1 := ⟨⟨by decide +kernel, by decide +kernel, by decide +kernel⟩, h.w (List.mem_append_right _ (List.mem_append_right _ (List.mem_append_right _ (List.mem_append_right _ (List.mem_append_right _ (List.mem_append_left _ (List.mem_of_getElem? (i := 110) rfl))))))) rfl, h.w (List.mem_append_right _ (List.mem_append_right _ (List.mem_append_right _ (List.mem_append_right _ (List.mem_append_right _ (List.mem_append_left _ (List.mem_of_getElem? (i := 112) rfl))))))) rfl, (h.w (List.mem_append_left _ (List.mem_of_getElem? (i := 35) (by decide +kernel))) rfl), h.w (List.mem_append_right _ (List.mem_append_left _ (List.mem_of_getElem? (i := 11) rfl))) rfl, fun a U hW => wk_at hW rfl (h.w (a := #[]) (List.mem_append_right _ (List.mem_append_right _ (List.mem_append_right _ (List.mem_append_right _ (List.mem_append_right _ (List.mem_append_left _ (List.mem_of_getElem? (i := 113) rfl))))))) rfl)⟩
theorem cw_M_137 (h : KK l G s) : LkV s args R_M R_M 137 y_M_find cc_M_find 5 (some .int) 2 := ⟨⟨by decide +kernel, by decide +kernel, by decide +kernel⟩, h.w (List.mem_append_right _ (List.mem_append_right _ (List.mem_append_right _ (List.mem_append_right _ (List.mem_append_right _ (List.mem_append_left _ (List.mem_of_getElem? (i := 124) rfl))))))) rfl, h.w (List.mem_append_right _ (List.mem_append_right _ (List.mem_append_right _ (List.mem_append_right _ (List.mem_append_right _ (List.mem_append_left _ (List.mem_of_getElem? (i := 126) rfl))))))) rfl, (h.w (List.mem_append_left _ (List.mem_of_getElem? (i := 37) (by decide +kernel))) rfl), h.w (List.mem_append_right _ (List.mem_append_left _ (List.mem_of_getElem? (i := 11) rfl))) rfl, fun a U hW => wk_at hW rfl (h.w (a := #[]) (List.mem_append_right _ (List.mem_append_right _ (List.mem_append_right _ (List.mem_append_right _ (List.mem_append_right _ (List.mem_append_left _ (List.mem_of_getElem? (i := 127) rfl))))))) rfl)⟩
theorem cw_M_141 (h : KK l G s) : LkV s args R_M R_M 141 y_M_list cc_M_list 3 none 0 := ⟨⟨by decide +kernel, by decide +kernel, by decide +kernel⟩, h.w (List.mem_append_right _ (List.mem_append_right _ (List.mem_append_right _ (List.mem_append_right _ (List.mem_append_right _ (List.mem_append_left _ (List.mem_of_getElem? (i := 102) rfl))))))) rfl, h.w (List.mem_append_right _ (List.mem_append_right _ (List.mem_append_right _ (List.mem_append_right _ (List.mem_append_right _ (List.mem_append_left _ (List.mem_of_getElem? (i := 104) rfl))))))) rfl, (h.w (List.mem_append_left _ (List.mem_of_getElem? (i := 33) (by decide +kernel))) rfl), h.w (List.mem_append_right _ (List.mem_append_left _ (List.mem_of_getElem? (i := 11) rfl))) rfl, fun a U hW => wk_at hW rfl (h.w (a := #[]) (List.mem_append_right _ (List.mem_append_right _ (List.mem_append_right _ (List.mem_append_right _ (List.mem_append_right _ (List.mem_append_left _ (List.mem_of_getElem? (i := 105) rfl))))))) rfl)⟩
theorem cw_M_144 (h : KK l G s) : LkV s args R_M R_M 144 y_M_isPanel cc_M_isPanel 6 (some .boolean) 1 := ⟨⟨by decide +kernel, by decide +kernel, by decide +kernel⟩, h.w (List.mem_append_right _ (List.mem_append_right _ (List.mem_append_right _ (List.mem_append_right _ (List.mem_append_right _ (List.mem_append_left _ (List.mem_of_getElem? (i := 132) rfl))))))) rfl, h.w (List.mem_append_right _ (List.mem_append_right _ (List.mem_append_right _ (List.mem_append_right _ (List.mem_append_right _ (List.mem_append_left _ (List.mem_of_getElem? (i := 134) rfl))))))) rfl, (h.w (List.mem_append_left _ (List.mem_of_getElem? (i := 38) (by decide +kernel))) rfl), h.w (List.mem_append_right _ (List.mem_append_left _ (List.mem_of_getElem? (i := 11) rfl))) rfl, fun a U hW => wk_at hW rfl (h.w (a := #[]) (List.mem_append_right _ (List.mem_append_right _ (List.mem_append_right _ (List.mem_append_right _ (List.mem_append_right _ (List.mem_append_left _ (List.mem_of_getElem? (i := 135) rfl))))))) rfl)⟩
theorem cw_M_147 (h : KK l G s) : LkS s args R_M 147 y_M_choose cc_M_choose 5 (some .long) 2 := ⟨⟨by decide +kernel, by decide +kernel, by decide +kernel⟩, h.w (List.mem_append_right _ (List.mem_append_right _ (List.mem_append_right _ (List.mem_append_right _ (List.mem_append_right _ (List.mem_append_left _ (List.mem_of_getElem? (i := 136) rfl))))))) rfl, h.w (List.mem_append_right _ (List.mem_append_right _ (List.mem_append_right _ (List.mem_append_right _ (List.mem_append_right _ (List.mem_append_left _ (List.mem_of_getElem? (i := 137) rfl))))))) rfl, h.w (List.mem_append_right _ (List.mem_append_left _ (List.mem_of_getElem? (i := 11) rfl))) rfl, fun a U hW => wk_at hW rfl (h.w (a := #[]) (List.mem_append_right _ (List.mem_append_right _ (List.mem_append_right _ (List.mem_append_right _ (List.mem_append_right _ (List.mem_append_left _ (List.mem_of_getElem? (i := 138) rfl))))))) rfl)⟩
theorem cw_M_151 (h : KK l G s) : LkV s args R_M R_M 151 y_M_work cc_M_work 8 none 1 := ⟨⟨by decide +kernel, by decide +kernel, by decide +kernel⟩, h.w (List.mem_append_right _ (List.mem_append_right _ (List.mem_append_right _ (List.mem_append_right _ (List.mem_append_right _ (List.mem_append_left _ (List.mem_of_getElem? (i := 98) rfl))))))) rfl, h.w (List.mem_append_right _ (List.mem_append_right _ (List.mem_append_right _ (List.mem_append_right _ (List.mem_append_right _ (List.mem_append_left _ (List.mem_of_getElem? (i := 100) rfl))))))) rfl, (h.w (List.mem_append_left _ (List.mem_of_getElem? (i := 32) (by decide +kernel))) rfl), h.w (List.mem_append_right _ (List.mem_append_left _ (List.mem_of_getElem? (i := 11) rfl))) rfl, fun a U hW => wk_at hW rfl (h.w (a := #[]) (List.mem_append_right _ (List.mem_append_right _ (List.mem_append_right _ (List.mem_append_right _ (List.mem_append_right _ (List.mem_append_left _ (List.mem_of_getElem? (i := 101) rfl))))))) rfl)⟩
theorem cw_M_155 (h : KK l G s) : LkV s args R_M R_M 155 y_M_counts cc_M_counts 1 (some .boolean) 0 := ⟨⟨by decide +kernel, by decide +kernel, by decide +kernel⟩, h.w (List.mem_append_right _ (List.mem_append_right _ (List.mem_append_right _ (List.mem_append_right _ (List.mem_append_right _ (List.mem_append_left _ (List.mem_of_getElem? (i := 94) rfl))))))) rfl, h.w (List.mem_append_right _ (List.mem_append_right _ (List.mem_append_right _ (List.mem_append_right _ (List.mem_append_right _ (List.mem_append_left _ (List.mem_of_getElem? (i := 96) rfl))))))) rfl, (h.w (List.mem_append_left _ (List.mem_of_getElem? (i := 31) (by decide +kernel))) rfl), h.w (List.mem_append_right _ (List.mem_append_left _ (List.mem_of_getElem? (i := 11) rfl))) rfl, fun a U hW => wk_at hW rfl (h.w (a := #[]) (List.mem_append_right _ (List.mem_append_right _ (List.mem_append_right _ (List.mem_append_right _ (List.mem_append_right _ (List.mem_append_left _ (List.mem_of_getElem? (i := 97) rfl))))))) rfl)⟩
theorem cw_M_158 (h : KK l G s) : LkV s args R_M R_M 158 y_M_isPerson cc_M_isPerson 2 (some .boolean) 1 := ⟨⟨by decide +kernel, by decide +kernel, by decide +kernel⟩, h.w (List.mem_append_right _ (List.mem_append_right _ (List.mem_append_right _ (List.mem_append_right _ (List.mem_append_right _ (List.mem_append_left _ (List.mem_of_getElem? (i := 147) rfl))))))) rfl, h.w (List.mem_append_right _ (List.mem_append_right _ (List.mem_append_right _ (List.mem_append_right _ (List.mem_append_right _ (List.mem_append_left _ (List.mem_of_getElem? (i := 149) rfl))))))) rfl, (h.w (List.mem_append_left _ (List.mem_of_getElem? (i := 39) (by decide +kernel))) rfl), h.w (List.mem_append_right _ (List.mem_append_left _ (List.mem_of_getElem? (i := 11) rfl))) rfl, fun a U hW => wk_at hW rfl (h.w (a := #[]) (List.mem_append_right _ (List.mem_append_right _ (List.mem_append_right _ (List.mem_append_right _ (List.mem_append_right _ (List.mem_append_left _ (List.mem_of_getElem? (i := 150) rfl))))))) rfl)⟩
theorem cw_M_161 (h : KK l G s) : LkV s args R_M R_M 161 y_M_kindOf cc_M_kindOf 3 (some .int) 1 := ⟨⟨by decide +kernel, by decide +kernel, by decide +kernel⟩, h.w (List.mem_append_right _ (List.mem_append_right _ (List.mem_append_right _ (List.mem_append_right _ (List.mem_append_right _ (List.mem_append_left _ (List.mem_of_getElem? (i := 151) rfl))))))) rfl, h.w (List.mem_append_right _ (List.mem_append_right _ (List.mem_append_right _ (List.mem_append_right _ (List.mem_append_right _ (List.mem_append_left _ (List.mem_of_getElem? (i := 153) rfl))))))) rfl, (h.w (List.mem_append_left _ (List.mem_of_getElem? (i := 40) (by decide +kernel))) rfl), h.w (List.mem_append_right _ (List.mem_append_left _ (List.mem_of_getElem? (i := 11) rfl))) rfl, fun a U hW => wk_at hW rfl (h.w (a := #[]) (List.mem_append_right _ (List.mem_append_right _ (List.mem_append_right _ (List.mem_append_right _ (List.mem_append_right _ (List.mem_append_left _ (List.mem_of_getElem? (i := 154) rfl))))))) rfl)⟩
theorem cw_M_164 (h : KK l G s) : LkV s args R_M R_M 164 y_M_left cc_M_left 7 (some .int) 1 := ⟨⟨by decide +kernel, by decide +kernel, by decide +kernel⟩, h.w (List.mem_append_right _ (List.mem_append_right _ (List.mem_append_right _ (List.mem_append_right _ (List.mem_append_right _ (List.mem_append_left _ (List.mem_of_getElem? (i := 163) rfl))))))) rfl, h.w (List.mem_append_right _ (List.mem_append_right _ (List.mem_append_right _ (List.mem_append_right _ (List.mem_append_right _ (List.mem_append_left _ (List.mem_of_getElem? (i := 165) rfl))))))) rfl, (h.w (List.mem_append_left _ (List.mem_of_getElem? (i := 41) (by decide +kernel))) rfl), h.w (List.mem_append_right _ (List.mem_append_left _ (List.mem_of_getElem? (i := 11) rfl))) rfl, fun a U hW => wk_at hW rfl (h.w (a := #[]) (List.mem_append_right _ (List.mem_append_right _ (List.mem_append_right _ (List.mem_append_right _ (List.mem_append_right _ (List.mem_append_left _ (List.mem_of_getElem? (i := 166) rfl))))))) rfl)⟩
theorem cw_M_170 (h : KK l G s) : LkV s args R_M R_M 170 y_M_rows cc_M_rows 9 none 3 := ⟨⟨by decide +kernel, by decide +kernel, by decide +kernel⟩, h.w (List.mem_append_right _ (List.mem_append_right _ (List.mem_append_right _ (List.mem_append_right _ (List.mem_append_right _ (List.mem_append_left _ (List.mem_of_getElem? (i := 175) rfl))))))) rfl, h.w (List.mem_append_right _ (List.mem_append_right _ (List.mem_append_right _ (List.mem_append_right _ (List.mem_append_right _ (List.mem_append_left _ (List.mem_of_getElem? (i := 177) rfl))))))) rfl, (h.w (List.mem_append_left _ (List.mem_of_getElem? (i := 43) (by decide +kernel))) rfl), h.w (List.mem_append_right _ (List.mem_append_left _ (List.mem_of_getElem? (i := 11) rfl))) rfl, fun a U hW => wk_at hW rfl (h.w (a := #[]) (List.mem_append_right _ (List.mem_append_right _ (List.mem_append_right _ (List.mem_append_right _ (List.mem_append_right _ (List.mem_append_left _ (List.mem_of_getElem? (i := 178) rfl))))))) rfl)⟩
theorem cw_M_174 (h : KK l G s) : LkV s args R_M R_M 174 y_M_personOf cc_M_personOf 5 (some .int) 2 := ⟨⟨by decide +kernel, by decide +kernel, by decide +kernel⟩, h.w (List.mem_append_right _ (List.mem_append_right _ (List.mem_append_right _ (List.mem_append_right _ (List.mem_append_right _ (List.mem_append_left _ (List.mem_of_getElem? (i := 179) rfl))))))) rfl, h.w (List.mem_append_right _ (List.mem_append_right _ (List.mem_append_right _ (List.mem_append_right _ (List.mem_append_right _ (List.mem_append_left _ (List.mem_of_getElem? (i := 181) rfl))))))) rfl, (h.w (List.mem_append_left _ (List.mem_of_getElem? (i := 44) (by decide +kernel))) rfl), h.w (List.mem_append_right _ (List.mem_append_left _ (List.mem_of_getElem? (i := 11) rfl))) rfl, fun a U hW => wk_at hW rfl (h.w (a := #[]) (List.mem_append_right _ (List.mem_append_right _ (List.mem_append_right _ (List.mem_append_right _ (List.mem_append_right _ (List.mem_append_left _ (List.mem_of_getElem? (i := 182) rfl))))))) rfl)⟩
theorem cw_M_178 (h : KK l G s) : LkV s args R_M R_M 178 y_M_take cc_M_take 9 none 1 := ⟨⟨by decide +kernel, by decide +kernel, by decide +kernel⟩, h.w (List.mem_append_right _ (List.mem_append_right _ (List.mem_append_right _ (List.mem_append_right _ (List.mem_append_right _ (List.mem_append_left _ (List.mem_of_getElem? (i := 171) rfl))))))) rfl, h.w (List.mem_append_right _ (List.mem_append_right _ (List.mem_append_right _ (List.mem_append_right _ (List.mem_append_right _ (List.mem_append_left _ (List.mem_of_getElem? (i := 173) rfl))))))) rfl, (h.w (List.mem_append_left _ (List.mem_of_getElem? (i := 42) (by decide +kernel))) rfl), h.w (List.mem_append_right _ (List.mem_append_left _ (List.mem_of_getElem? (i := 11) rfl))) rfl, fun a U hW => wk_at hW rfl (h.w (a := #[]) (List.mem_append_right _ (List.mem_append_right _ (List.mem_append_right _ (List.mem_append_right _ (List.mem_append_right _ (List.mem_append_left _ (List.mem_of_getElem? (i := 174) rfl))))))) rfl)⟩
theorem cw_M_182 (h : KK l G s) : LkV s args R_M R_M 182 y_M_index cc_M_index 8 (some .long) 2 := ⟨⟨by decide +kernel, by decide +kernel, by decide +kernel⟩, h.w (List.mem_append_right _ (List.mem_append_right _ (List.mem_append_right _ (List.mem_append_right _ (List.mem_append_right _ (List.mem_append_left _ (List.mem_of_getElem? (i := 191) rfl))))))) rfl, h.w (List.mem_append_right _ (List.mem_append_right _ (List.mem_append_right _ (List.mem_append_right _ (List.mem_append_right _ (List.mem_append_left _ (List.mem_of_getElem? (i := 193) rfl))))))) rfl, (h.w (List.mem_append_left _ (List.mem_of_getElem? (i := 45) (by decide +kernel))) rfl), h.w (List.mem_append_right _ (List.mem_append_left _ (List.mem_of_getElem? (i := 11) rfl))) rfl, fun a U hW => wk_at hW rfl (h.w (a := #[]) (List.mem_append_right _ (List.mem_append_right _ (List.mem_append_right _ (List.mem_append_right _ (List.mem_append_right _ (List.mem_append_left _ (List.mem_of_getElem? (i := 194) rfl))))))) rfl)⟩
theorem cw_M_185 (h : KK l G s) : LkV s args R_M R_M 185 y_M_candidates cc_M_candidates 4 (some .int) 0 := ⟨⟨by decide +kernel, by decide +kernel, by decide +kernel⟩, h.w (List.mem_append_right _ (List.mem_append_right _ (List.mem_append_right _ (List.mem_append_right _ (List.mem_append_right _ (List.mem_append_left _ (List.mem_of_getElem? (i := 203) rfl))))))) rfl, h.w (List.mem_append_right _ (List.mem_append_right _ (List.mem_append_right _ (List.mem_append_right _ (List.mem_append_right _ (List.mem_append_left _ (List.mem_of_getElem? (i := 205) rfl))))))) rfl, (h.w (List.mem_append_left _ (List.mem_of_getElem? (i := 47) (by decide +kernel))) rfl), h.w (List.mem_append_right _ (List.mem_append_left _ (List.mem_of_getElem? (i := 11) rfl))) rfl, fun a U hW => wk_at hW rfl (h.w (a := #[]) (List.mem_append_right _ (List.mem_append_right _ (List.mem_append_right _ (List.mem_append_right _ (List.mem_append_right _ (List.mem_append_left _ (List.mem_of_getElem? (i := 206) rfl))))))) rfl)⟩
theorem cw_M_189 (h : KK l G s) : LkV s args R_M R_M 189 y_M_goalNow cc_M_goalNow 1 (some .long) 0 := ⟨⟨by decide +kernel, by decide +kernel, by decide +kernel⟩, h.w (List.mem_append_right _ (List.mem_append_right _ (List.mem_append_right _ (List.mem_append_right _ (List.mem_append_right _ (List.mem_append_left _ (List.mem_of_getElem? (i := 199) rfl))))))) rfl, h.w (List.mem_append_right _ (List.mem_append_right _ (List.mem_append_right _ (List.mem_append_right _ (List.mem_append_right _ (List.mem_append_left _ (List.mem_of_getElem? (i := 201) rfl))))))) rfl, (h.w (List.mem_append_left _ (List.mem_of_getElem? (i := 46) (by decide +kernel))) rfl), h.w (List.mem_append_right _ (List.mem_append_left _ (List.mem_of_getElem? (i := 11) rfl))) rfl, fun a U hW => wk_at hW rfl (h.w (a := #[]) (List.mem_append_right _ (List.mem_append_right _ (List.mem_append_right _ (List.mem_append_right _ (List.mem_append_right _ (List.mem_append_left _ (List.mem_of_getElem? (i := 202) rfl))))))) rfl)⟩
theorem cw_M_212 (h : KK l G s) : LkV s args R_M R_M 212 y_M_used cc_M_used 1 none 0 := ⟨⟨by decide +kernel, by decide +kernel, by decide +kernel⟩, h.w (List.mem_append_right _ (List.mem_append_right _ (List.mem_append_right _ (List.mem_append_right _ (List.mem_append_right _ (List.mem_append_left _ (List.mem_of_getElem? (i := 235) rfl))))))) rfl, h.w (List.mem_append_right _ (List.mem_append_right _ (List.mem_append_right _ (List.mem_append_right _ (List.mem_append_right _ (List.mem_append_left _ (List.mem_of_getElem? (i := 237) rfl))))))) rfl, (h.w (List.mem_append_left _ (List.mem_of_getElem? (i := 52) (by decide +kernel))) rfl), h.w (List.mem_append_right _ (List.mem_append_left _ (List.mem_of_getElem? (i := 11) rfl))) rfl, fun a U hW => wk_at hW rfl (h.w (a := #[]) (List.mem_append_right _ (List.mem_append_right _ (List.mem_append_right _ (List.mem_append_right _ (List.mem_append_right _ (List.mem_append_left _ (List.mem_of_getElem? (i := 238) rfl))))))) rfl)⟩
theorem cw_M_215 (h : KK l G s) : LkV s args R_M R_M 215 y_M_placeOf cc_M_placeOf 4 (some .int) 1 := ⟨⟨by decide +kernel, by decide +kernel, by decide +kernel⟩, h.w (List.mem_append_right _ (List.mem_append_right _ (List.mem_append_right _ (List.mem_append_right _ (List.mem_append_right _ (List.mem_append_left _ (List.mem_of_getElem? (i := 211) rfl))))))) rfl, h.w (List.mem_append_right _ (List.mem_append_right _ (List.mem_append_right _ (List.mem_append_right _ (List.mem_append_right _ (List.mem_append_left _ (List.mem_of_getElem? (i := 213) rfl))))))) rfl, (h.w (List.mem_append_left _ (List.mem_of_getElem? (i := 49) (by decide +kernel))) rfl), h.w (List.mem_append_right _ (List.mem_append_left _ (List.mem_of_getElem? (i := 11) rfl))) rfl, fun a U hW => wk_at hW rfl (h.w (a := #[]) (List.mem_append_right _ (List.mem_append_right _ (List.mem_append_right _ (List.mem_append_right _ (List.mem_append_right _ (List.mem_append_left _ (List.mem_of_getElem? (i := 214) rfl))))))) rfl)⟩
theorem cw_M_218 (h : KK l G s) : LkV s args R_M R_M 218 y_M_breachWith cc_M_breachWith 7 (some .int) 1 := ⟨⟨by decide +kernel, by decide +kernel, by decide +kernel⟩, h.w (List.mem_append_right _ (List.mem_append_right _ (List.mem_append_right _ (List.mem_append_right _ (List.mem_append_right _ (List.mem_append_left _ (List.mem_of_getElem? (i := 215) rfl))))))) rfl, h.w (List.mem_append_right _ (List.mem_append_right _ (List.mem_append_right _ (List.mem_append_right _ (List.mem_append_right _ (List.mem_append_left _ (List.mem_of_getElem? (i := 217) rfl))))))) rfl, (h.w (List.mem_append_left _ (List.mem_of_getElem? (i := 50) (by decide +kernel))) rfl), h.w (List.mem_append_right _ (List.mem_append_left _ (List.mem_of_getElem? (i := 11) rfl))) rfl, fun a U hW => wk_at hW rfl (h.w (a := #[]) (List.mem_append_right _ (List.mem_append_right _ (List.mem_append_right _ (List.mem_append_right _ (List.mem_append_right _ (List.mem_append_left _ (List.mem_of_getElem? (i := 218) rfl))))))) rfl)⟩
theorem cw_M_221 (h : KK l G s) : LkV s args R_M R_M 221 y_M_leastBreach cc_M_leastBreach 4 (some .int) 0 := ⟨⟨by decide +kernel, by decide +kernel, by decide +kernel⟩, h.w (List.mem_append_right _ (List.mem_append_right _ (List.mem_append_right _ (List.mem_append_right _ (List.mem_append_right _ (List.mem_append_left _ (List.mem_of_getElem? (i := 207) rfl))))))) rfl, h.w (List.mem_append_right _ (List.mem_append_right _ (List.mem_append_right _ (List.mem_append_right _ (List.mem_append_right _ (List.mem_append_left _ (List.mem_of_getElem? (i := 209) rfl))))))) rfl, (h.w (List.mem_append_left _ (List.mem_of_getElem? (i := 48) (by decide +kernel))) rfl), h.w (List.mem_append_right _ (List.mem_append_left _ (List.mem_of_getElem? (i := 11) rfl))) rfl, fun a U hW => wk_at hW rfl (h.w (a := #[]) (List.mem_append_right _ (List.mem_append_right _ (List.mem_append_right _ (List.mem_append_right _ (List.mem_append_right _ (List.mem_append_left _ (List.mem_of_getElem? (i := 210) rfl))))))) rfl)⟩
theorem cw_M_224 (h : KK l G s) : LkV s args R_M R_M 224 y_M_isCandidate cc_M_isCandidate 3 (some .boolean) 2 := ⟨⟨by decide +kernel, by decide +kernel, by decide +kernel⟩, h.w (List.mem_append_right _ (List.mem_append_right _ (List.mem_append_right _ (List.mem_append_right _ (List.mem_append_right _ (List.mem_append_left _ (List.mem_of_getElem? (i := 219) rfl))))))) rfl, h.w (List.mem_append_right _ (List.mem_append_right _ (List.mem_append_right _ (List.mem_append_right _ (List.mem_append_right _ (List.mem_append_left _ (List.mem_of_getElem? (i := 221) rfl))))))) rfl, (h.w (List.mem_append_left _ (List.mem_of_getElem? (i := 51) (by decide +kernel))) rfl), h.w (List.mem_append_right _ (List.mem_append_left _ (List.mem_of_getElem? (i := 11) rfl))) rfl, fun a U hW => wk_at hW rfl (h.w (a := #[]) (List.mem_append_right _ (List.mem_append_right _ (List.mem_append_right _ (List.mem_append_right _ (List.mem_append_right _ (List.mem_append_left _ (List.mem_of_getElem? (i := 222) rfl))))))) rfl)⟩
theorem cw_M_228 (h : KK l G s) : LkV s args R_M R_M 228 y_M_candidateAt cc_M_candidateAt 7 (some .int) 1 := ⟨⟨by decide +kernel, by decide +kernel, by decide +kernel⟩, h.w (List.mem_append_right _ (List.mem_append_right _ (List.mem_append_right _ (List.mem_append_right _ (List.mem_append_right _ (List.mem_append_right _ (List.mem_of_getElem? (i := 11) rfl))))))) rfl, h.w (List.mem_append_right _ (List.mem_append_right _ (List.mem_append_right _ (List.mem_append_right _ (List.mem_append_right _ (List.mem_append_right _ (List.mem_of_getElem? (i := 13) rfl))))))) rfl, (h.w (List.mem_append_left _ (List.mem_of_getElem? (i := 53) (by decide +kernel))) rfl), h.w (List.mem_append_right _ (List.mem_append_left _ (List.mem_of_getElem? (i := 11) rfl))) rfl, fun a U hW => wk_at hW rfl (h.w (a := #[]) (List.mem_append_right _ (List.mem_append_right _ (List.mem_append_right _ (List.mem_append_right _ (List.mem_append_right _ (List.mem_append_right _ (List.mem_of_getElem? (i := 14) rfl))))))) rfl)⟩
theorem cw_O_83 (h : KK l G s) : LkV s args R_O R_P 83 y_P_highestValue cc_P_highestValue 4 (some .int) 1 := ⟨⟨by decide +kernel, by decide +kernel, by decide +kernel⟩, h.w (List.mem_append_right _ (List.mem_append_right _ (List.mem_append_left _ (List.mem_of_getElem? (i := 145) rfl)))) rfl, h.w (List.mem_append_right _ (List.mem_append_right _ (List.mem_append_left _ (List.mem_of_getElem? (i := 146) rfl)))) rfl, (h.w (List.mem_append_right _ (List.mem_append_right _ (List.mem_append_left _ (List.mem_of_getElem? (i := 147) rfl)))) rfl), h.w (List.mem_append_right _ (List.mem_append_left _ (List.mem_of_getElem? (i := 2) rfl))) rfl, fun a U hW => wk_at hW rfl (h.w (a := #[]) (List.mem_append_right _ (List.mem_append_right _ (List.mem_append_left _ (List.mem_of_getElem? (i := 148) rfl)))) rfl)⟩
theorem cw_O_94 (h : KK l G s) : LkV s args R_O R_O 94 y_O_requireOpen cc_O_requireOpen 1 none 0 := ⟨⟨by decide +kernel, by decide +kernel, by decide +kernel⟩, h.w (List.mem_append_right _ (List.mem_append_right _ (List.mem_append_left _ (List.mem_of_getElem? (i := 222) rfl)))) rfl, h.w (List.mem_append_right _ (List.mem_append_right _ (List.mem_append_left _ (List.mem_of_getElem? (i := 224) rfl)))) rfl, (h.w (List.mem_append_left _ (List.mem_of_getElem? (i := 10) (by decide +kernel))) rfl), h.w (List.mem_append_right _ (List.mem_append_left _ (List.mem_of_getElem? (i := 1) rfl))) rfl, fun a U hW => wk_at hW rfl (h.w (a := #[]) (List.mem_append_right _ (List.mem_append_right _ (List.mem_append_left _ (List.mem_of_getElem? (i := 225) rfl)))) rfl)⟩
theorem cw_O_100 (h : KK l G s) : LkV s args R_O R_O 100 y_O_changed cc_O_changed 1 none 0 := ⟨⟨by decide +kernel, by decide +kernel, by decide +kernel⟩, h.w (List.mem_append_right _ (List.mem_append_right _ (List.mem_append_left _ (List.mem_of_getElem? (i := 128) rfl)))) rfl, h.w (List.mem_append_right _ (List.mem_append_right _ (List.mem_append_left _ (List.mem_of_getElem? (i := 130) rfl)))) rfl, (h.w (List.mem_append_left _ (List.mem_of_getElem? (i := 8) (by decide +kernel))) rfl), h.w (List.mem_append_right _ (List.mem_append_left _ (List.mem_of_getElem? (i := 1) rfl))) rfl, fun a U hW => wk_at hW rfl (h.w (a := #[]) (List.mem_append_right _ (List.mem_append_right _ (List.mem_append_left _ (List.mem_of_getElem? (i := 131) rfl)))) rfl)⟩
theorem cw_O_103 (h : KK l G s) : LkV s args R_O R_P 103 y_P_hasValue cc_P_hasValue 3 (some .boolean) 2 := ⟨⟨by decide +kernel, by decide +kernel, by decide +kernel⟩, h.w (List.mem_append_right _ (List.mem_append_right _ (List.mem_append_right _ (List.mem_append_left _ (List.mem_of_getElem? (i := 13) rfl))))) rfl, h.w (List.mem_append_right _ (List.mem_append_right _ (List.mem_append_right _ (List.mem_append_left _ (List.mem_of_getElem? (i := 14) rfl))))) rfl, (h.w (List.mem_append_right _ (List.mem_append_right _ (List.mem_append_right _ (List.mem_append_left _ (List.mem_of_getElem? (i := 15) rfl))))) rfl), h.w (List.mem_append_right _ (List.mem_append_left _ (List.mem_of_getElem? (i := 2) rfl))) rfl, fun a U hW => wk_at hW rfl (h.w (a := #[]) (List.mem_append_right _ (List.mem_append_right _ (List.mem_append_right _ (List.mem_append_left _ (List.mem_of_getElem? (i := 16) rfl))))) rfl)⟩
theorem cw_O_109 (h : KK l G s) : LkS s args R_O 109 y_P_codeOf cc_P_codeOf 3 (some .int) 3 := ⟨⟨by decide +kernel, by decide +kernel, by decide +kernel⟩, h.w (List.mem_append_right _ (List.mem_append_right _ (List.mem_append_right _ (List.mem_append_left _ (List.mem_of_getElem? (i := 18) rfl))))) rfl, h.w (List.mem_append_right _ (List.mem_append_right _ (List.mem_append_right _ (List.mem_append_left _ (List.mem_of_getElem? (i := 19) rfl))))) rfl, h.w (List.mem_append_right _ (List.mem_append_left _ (List.mem_of_getElem? (i := 2) rfl))) rfl, fun a U hW => wk_at hW rfl (h.w (a := #[]) (List.mem_append_right _ (List.mem_append_right _ (List.mem_append_right _ (List.mem_append_left _ (List.mem_of_getElem? (i := 20) rfl))))) rfl)⟩
theorem cw_O_113 (h : KK l G s) : LkV s args R_O R_P 113 y_P_hasRoomFor cc_P_hasRoomFor 2 (some .boolean) 1 := ⟨⟨by decide +kernel, by decide +kernel, by decide +kernel⟩, h.w (List.mem_append_right _ (List.mem_append_right _ (List.mem_append_right _ (List.mem_append_left _ (List.mem_of_getElem? (i := 21) rfl))))) rfl, h.w (List.mem_append_right _ (List.mem_append_right _ (List.mem_append_right _ (List.mem_append_left _ (List.mem_of_getElem? (i := 22) rfl))))) rfl, (h.w (List.mem_append_right _ (List.mem_append_right _ (List.mem_append_right _ (List.mem_append_left _ (List.mem_of_getElem? (i := 23) rfl))))) rfl), h.w (List.mem_append_right _ (List.mem_append_left _ (List.mem_of_getElem? (i := 2) rfl))) rfl, fun a U hW => wk_at hW rfl (h.w (a := #[]) (List.mem_append_right _ (List.mem_append_right _ (List.mem_append_right _ (List.mem_append_left _ (List.mem_of_getElem? (i := 24) rfl))))) rfl)⟩
theorem cw_O_122 (h : KK l G s) : LkV s args R_O R_P 122 y_P_add cc_P_add 2 (some .int) 1 := ⟨⟨by decide +kernel, by decide +kernel, by decide +kernel⟩, h.w (List.mem_append_right _ (List.mem_append_right _ (List.mem_append_right _ (List.mem_append_left _ (List.mem_of_getElem? (i := 34) rfl))))) rfl, h.w (List.mem_append_right _ (List.mem_append_right _ (List.mem_append_right _ (List.mem_append_left _ (List.mem_of_getElem? (i := 35) rfl))))) rfl, (h.w (List.mem_append_right _ (List.mem_append_right _ (List.mem_append_right _ (List.mem_append_left _ (List.mem_of_getElem? (i := 36) rfl))))) rfl), h.w (List.mem_append_right _ (List.mem_append_left _ (List.mem_of_getElem? (i := 2) rfl))) rfl, fun a U hW => wk_at hW rfl (h.w (a := #[]) (List.mem_append_right _ (List.mem_append_right _ (List.mem_append_right _ (List.mem_append_left _ (List.mem_of_getElem? (i := 37) rfl))))) rfl)⟩
theorem cw_O_127 (h : KK l G s) : LkS s args R_O 127 y_O_quotaOf cc_O_quotaOf 2 (some .int) 2 := ⟨⟨by decide +kernel, by decide +kernel, by decide +kernel⟩, h.w (List.mem_append_right _ (List.mem_append_right _ (List.mem_append_right _ (List.mem_append_left _ (List.mem_of_getElem? (i := 50) rfl))))) rfl, h.w (List.mem_append_right _ (List.mem_append_right _ (List.mem_append_left _ (List.mem_of_getElem? (i := 77) rfl)))) rfl, h.w (List.mem_append_right _ (List.mem_append_left _ (List.mem_of_getElem? (i := 1) rfl))) rfl, fun a U hW => wk_at hW rfl (h.w (a := #[]) (List.mem_append_right _ (List.mem_append_right _ (List.mem_append_left _ (List.mem_of_getElem? (i := 78) rfl)))) rfl)⟩
theorem cw_O_131 (h : KK l G s) : LkV s args R_O R_Q 131 y_Q_set cc_Q_set 4 none 3 := ⟨⟨by decide +kernel, by decide +kernel, by decide +kernel⟩, h.w (List.mem_append_right _ (List.mem_append_right _ (List.mem_append_right _ (List.mem_append_left _ (List.mem_of_getElem? (i := 51) rfl))))) rfl, h.w (List.mem_append_right _ (List.mem_append_right _ (List.mem_append_right _ (List.mem_append_left _ (List.mem_of_getElem? (i := 52) rfl))))) rfl, (h.w (List.mem_append_right _ (List.mem_append_right _ (List.mem_append_right _ (List.mem_append_left _ (List.mem_of_getElem? (i := 53) rfl))))) rfl), h.w (List.mem_append_right _ (List.mem_append_left _ (List.mem_of_getElem? (i := 3) rfl))) rfl, fun a U hW => wk_at hW rfl (h.w (a := #[]) (List.mem_append_right _ (List.mem_append_right _ (List.mem_append_right _ (List.mem_append_left _ (List.mem_of_getElem? (i := 54) rfl))))) rfl)⟩
theorem cw_O_137 (h : KK l G s) : LkV s args R_O R_O 137 y_O_requireCountable cc_O_requireCountable 1 none 0 := ⟨⟨by decide +kernel, by decide +kernel, by decide +kernel⟩, h.w (List.mem_append_right _ (List.mem_append_right _ (List.mem_append_right _ (List.mem_append_left _ (List.mem_of_getElem? (i := 71) rfl))))) rfl, h.w (List.mem_append_right _ (List.mem_append_right _ (List.mem_append_right _ (List.mem_append_left _ (List.mem_of_getElem? (i := 73) rfl))))) rfl, (h.w (List.mem_append_left _ (List.mem_of_getElem? (i := 14) (by decide +kernel))) rfl), h.w (List.mem_append_right _ (List.mem_append_left _ (List.mem_of_getElem? (i := 1) rfl))) rfl, fun a U hW => wk_at hW rfl (h.w (a := #[]) (List.mem_append_right _ (List.mem_append_right _ (List.mem_append_right _ (List.mem_append_left _ (List.mem_of_getElem? (i := 74) rfl))))) rfl)⟩
theorem cw_O_140 (h : KK l G s) : LkV s args R_O R_T 140 y_T_panels cc_T_panels 1 (some .long) 0 := ⟨⟨by decide +kernel, by decide +kernel, by decide +kernel⟩, h.w (List.mem_append_right _ (List.mem_append_right _ (List.mem_append_right _ (List.mem_append_left _ (List.mem_of_getElem? (i := 91) rfl))))) rfl, h.w (List.mem_append_right _ (List.mem_append_right _ (List.mem_append_right _ (List.mem_append_left _ (List.mem_of_getElem? (i := 92) rfl))))) rfl, (h.w (List.mem_append_right _ (List.mem_append_right _ (List.mem_append_right _ (List.mem_append_left _ (List.mem_of_getElem? (i := 93) rfl))))) rfl), h.w (List.mem_append_right _ (List.mem_append_left _ (List.mem_of_getElem? (i := 5) rfl))) rfl, fun a U hW => wk_at hW rfl (h.w (a := #[]) (List.mem_append_right _ (List.mem_append_right _ (List.mem_append_right _ (List.mem_append_left _ (List.mem_of_getElem? (i := 94) rfl))))) rfl)⟩
theorem cw_O_144 (h : KK l G s) : LkV s args R_O R_O 144 y_O_refreshTally cc_O_refreshTally 1 none 0 := ⟨⟨by decide +kernel, by decide +kernel, by decide +kernel⟩, h.w (List.mem_append_right _ (List.mem_append_right _ (List.mem_append_left _ (List.mem_of_getElem? (i := 47) rfl)))) rfl, h.w (List.mem_append_right _ (List.mem_append_right _ (List.mem_append_left _ (List.mem_of_getElem? (i := 49) rfl)))) rfl, (h.w (List.mem_append_left _ (List.mem_of_getElem? (i := 0) (by decide +kernel))) rfl), h.w (List.mem_append_right _ (List.mem_append_left _ (List.mem_of_getElem? (i := 1) rfl))) rfl, fun a U hW => wk_at hW rfl (h.w (a := #[]) (List.mem_append_right _ (List.mem_append_right _ (List.mem_append_left _ (List.mem_of_getElem? (i := 50) rfl)))) rfl)⟩
theorem cw_O_147 (h : KK l G s) : LkV s args R_O R_T 147 y_T_isRefused cc_T_isRefused 1 (some .boolean) 0 := ⟨⟨by decide +kernel, by decide +kernel, by decide +kernel⟩, h.w (List.mem_append_right _ (List.mem_append_right _ (List.mem_append_left _ (List.mem_of_getElem? (i := 103) rfl)))) rfl, h.w (List.mem_append_right _ (List.mem_append_right _ (List.mem_append_left _ (List.mem_of_getElem? (i := 104) rfl)))) rfl, (h.w (List.mem_append_right _ (List.mem_append_right _ (List.mem_append_left _ (List.mem_of_getElem? (i := 105) rfl)))) rfl), h.w (List.mem_append_right _ (List.mem_append_left _ (List.mem_of_getElem? (i := 5) rfl))) rfl, fun a U hW => wk_at hW rfl (h.w (a := #[]) (List.mem_append_right _ (List.mem_append_right _ (List.mem_append_left _ (List.mem_of_getElem? (i := 106) rfl)))) rfl)⟩
theorem cw_O_151 (h : KK l G s) : LkV s args R_O R_T 151 y_T_statesFound cc_T_statesFound 1 (some .int) 0 := ⟨⟨by decide +kernel, by decide +kernel, by decide +kernel⟩, h.w (List.mem_append_right _ (List.mem_append_right _ (List.mem_append_left _ (List.mem_of_getElem? (i := 107) rfl)))) rfl, h.w (List.mem_append_right _ (List.mem_append_right _ (List.mem_append_left _ (List.mem_of_getElem? (i := 108) rfl)))) rfl, (h.w (List.mem_append_right _ (List.mem_append_right _ (List.mem_append_left _ (List.mem_of_getElem? (i := 109) rfl)))) rfl), h.w (List.mem_append_right _ (List.mem_append_left _ (List.mem_of_getElem? (i := 5) rfl))) rfl, fun a U hW => wk_at hW rfl (h.w (a := #[]) (List.mem_append_right _ (List.mem_append_right _ (List.mem_append_left _ (List.mem_of_getElem? (i := 110) rfl)))) rfl)⟩
theorem cw_O_155 (h : KK l G s) : LkV s args R_O R_O 155 y_O_requirePerson cc_O_requirePerson 2 none 1 := ⟨⟨by decide +kernel, by decide +kernel, by decide +kernel⟩, h.w (List.mem_append_right _ (List.mem_append_right _ (List.mem_append_right _ (List.mem_append_left _ (List.mem_of_getElem? (i := 102) rfl))))) rfl, h.w (List.mem_append_right _ (List.mem_append_right _ (List.mem_append_right _ (List.mem_append_left _ (List.mem_of_getElem? (i := 104) rfl))))) rfl, (h.w (List.mem_append_left _ (List.mem_of_getElem? (i := 15) (by decide +kernel))) rfl), h.w (List.mem_append_right _ (List.mem_append_left _ (List.mem_of_getElem? (i := 1) rfl))) rfl, fun a U hW => wk_at hW rfl (h.w (a := #[]) (List.mem_append_right _ (List.mem_append_right _ (List.mem_append_right _ (List.mem_append_left _ (List.mem_of_getElem? (i := 105) rfl))))) rfl)⟩
theorem cw_O_159 (h : KK l G s) : LkV s args R_O R_P 159 y_P_kindOf cc_P_kindOf 2 (some .int) 1 := ⟨⟨by decide +kernel, by decide +kernel, by decide +kernel⟩, h.w (List.mem_append_right _ (List.mem_append_right _ (List.mem_append_right _ (List.mem_append_left _ (List.mem_of_getElem? (i := 107) rfl))))) rfl, h.w (List.mem_append_right _ (List.mem_append_right _ (List.mem_append_right _ (List.mem_append_left _ (List.mem_of_getElem? (i := 108) rfl))))) rfl, (h.w (List.mem_append_right _ (List.mem_append_right _ (List.mem_append_right _ (List.mem_append_left _ (List.mem_of_getElem? (i := 109) rfl))))) rfl), h.w (List.mem_append_right _ (List.mem_append_left _ (List.mem_of_getElem? (i := 2) rfl))) rfl, fun a U hW => wk_at hW rfl (h.w (a := #[]) (List.mem_append_right _ (List.mem_append_right _ (List.mem_append_right _ (List.mem_append_left _ (List.mem_of_getElem? (i := 110) rfl))))) rfl)⟩
theorem cw_O_162 (h : KK l G s) : LkV s args R_O R_T 162 y_T_panelsWithOneOf cc_T_panelsWithOneOf 5 (some .long) 1 := ⟨⟨by decide +kernel, by decide +kernel, by decide +kernel⟩, h.w (List.mem_append_right _ (List.mem_append_right _ (List.mem_append_right _ (List.mem_append_left _ (List.mem_of_getElem? (i := 111) rfl))))) rfl, h.w (List.mem_append_right _ (List.mem_append_right _ (List.mem_append_right _ (List.mem_append_left _ (List.mem_of_getElem? (i := 112) rfl))))) rfl, (h.w (List.mem_append_right _ (List.mem_append_right _ (List.mem_append_right _ (List.mem_append_left _ (List.mem_of_getElem? (i := 113) rfl))))) rfl), h.w (List.mem_append_right _ (List.mem_append_left _ (List.mem_of_getElem? (i := 5) rfl))) rfl, fun a U hW => wk_at hW rfl (h.w (a := #[]) (List.mem_append_right _ (List.mem_append_right _ (List.mem_append_right _ (List.mem_append_left _ (List.mem_of_getElem? (i := 114) rfl))))) rfl)⟩
theorem cw_O_169 (h : KK l G s) : LkS s args R_O 169 y_O_requireIndex cc_O_requireIndex 1 none 1 := ⟨⟨by decide +kernel, by decide +kernel, by decide +kernel⟩, h.w (List.mem_append_right _ (List.mem_append_right _ (List.mem_append_right _ (List.mem_append_left _ (List.mem_of_getElem? (i := 144) rfl))))) rfl, h.w (List.mem_append_right _ (List.mem_append_right _ (List.mem_append_right _ (List.mem_append_left _ (List.mem_of_getElem? (i := 145) rfl))))) rfl, h.w (List.mem_append_right _ (List.mem_append_left _ (List.mem_of_getElem? (i := 1) rfl))) rfl, fun a U hW => wk_at hW rfl (h.w (a := #[]) (List.mem_append_right _ (List.mem_append_right _ (List.mem_append_right _ (List.mem_append_left _ (List.mem_of_getElem? (i := 146) rfl))))) rfl)⟩
theorem cw_O_172 (h : KK l G s) : LkV s args R_O R_C 172 y_C_find cc_C_find 5 none 2 := ⟨⟨by decide +kernel, by decide +kernel, by decide +kernel⟩, h.w (List.mem_append_right _ (List.mem_append_right _ (List.mem_append_right _ (List.mem_append_left _ (List.mem_of_getElem? (i := 148) rfl))))) rfl, h.w (List.mem_append_right _ (List.mem_append_right _ (List.mem_append_right _ (List.mem_append_left _ (List.mem_of_getElem? (i := 149) rfl))))) rfl, (h.w (List.mem_append_right _ (List.mem_append_right _ (List.mem_append_right _ (List.mem_append_left _ (List.mem_of_getElem? (i := 150) rfl))))) rfl), h.w (List.mem_append_right _ (List.mem_append_left _ (List.mem_of_getElem? (i := 8) rfl))) rfl, fun a U hW => wk_at hW rfl (h.w (a := #[]) (List.mem_append_right _ (List.mem_append_right _ (List.mem_append_right _ (List.mem_append_left _ (List.mem_of_getElem? (i := 151) rfl))))) rfl)⟩
theorem cw_O_176 (h : KK l G s) : LkV s args R_O R_C 176 y_C_isRefused cc_C_isRefused 1 (some .boolean) 0 := ⟨⟨by decide +kernel, by decide +kernel, by decide +kernel⟩, h.w (List.mem_append_right _ (List.mem_append_right _ (List.mem_append_right _ (List.mem_append_left _ (List.mem_of_getElem? (i := 173) rfl))))) rfl, h.w (List.mem_append_right _ (List.mem_append_right _ (List.mem_append_right _ (List.mem_append_left _ (List.mem_of_getElem? (i := 174) rfl))))) rfl, (h.w (List.mem_append_right _ (List.mem_append_right _ (List.mem_append_right _ (List.mem_append_left _ (List.mem_of_getElem? (i := 175) rfl))))) rfl), h.w (List.mem_append_right _ (List.mem_append_left _ (List.mem_of_getElem? (i := 8) rfl))) rfl, fun a U hW => wk_at hW rfl (h.w (a := #[]) (List.mem_append_right _ (List.mem_append_right _ (List.mem_append_right _ (List.mem_append_left _ (List.mem_of_getElem? (i := 176) rfl))))) rfl)⟩
theorem cw_O_182 (h : KK l G s) : LkV s args R_O R_C 182 y_C_nameOf cc_C_nameOf 2 (some .int) 1 := ⟨⟨by decide +kernel, by decide +kernel, by decide +kernel⟩, h.w (List.mem_append_right _ (List.mem_append_right _ (List.mem_append_right _ (List.mem_append_left _ (List.mem_of_getElem? (i := 178) rfl))))) rfl, h.w (List.mem_append_right _ (List.mem_append_right _ (List.mem_append_right _ (List.mem_append_left _ (List.mem_of_getElem? (i := 179) rfl))))) rfl, (h.w (List.mem_append_right _ (List.mem_append_right _ (List.mem_append_right _ (List.mem_append_left _ (List.mem_of_getElem? (i := 180) rfl))))) rfl), h.w (List.mem_append_right _ (List.mem_append_left _ (List.mem_of_getElem? (i := 8) rfl))) rfl, fun a U hW => wk_at hW rfl (h.w (a := #[]) (List.mem_append_right _ (List.mem_append_right _ (List.mem_append_right _ (List.mem_append_left _ (List.mem_of_getElem? (i := 181) rfl))))) rfl)⟩
theorem cw_O_185 (h : KK l G s) : LkV s args R_O R_O 185 y_O_requirePlace cc_O_requirePlace 2 none 1 := ⟨⟨by decide +kernel, by decide +kernel, by decide +kernel⟩, h.w (List.mem_append_right _ (List.mem_append_right _ (List.mem_append_right _ (List.mem_append_left _ (List.mem_of_getElem? (i := 189) rfl))))) rfl, h.w (List.mem_append_right _ (List.mem_append_right _ (List.mem_append_right _ (List.mem_append_left _ (List.mem_of_getElem? (i := 191) rfl))))) rfl, (h.w (List.mem_append_left _ (List.mem_of_getElem? (i := 20) (by decide +kernel))) rfl), h.w (List.mem_append_right _ (List.mem_append_left _ (List.mem_of_getElem? (i := 1) rfl))) rfl, fun a U hW => wk_at hW rfl (h.w (a := #[]) (List.mem_append_right _ (List.mem_append_right _ (List.mem_append_right _ (List.mem_append_left _ (List.mem_of_getElem? (i := 192) rfl))))) rfl)⟩
theorem cw_O_190 (h : KK l G s) : LkV s args R_O R_R 190 y_R_tell cc_R_tell 15 none 2 := ⟨⟨by decide +kernel, by decide +kernel, by decide +kernel⟩, h.w (List.mem_append_right _ (List.mem_append_right _ (List.mem_append_right _ (List.mem_append_left _ (List.mem_of_getElem? (i := 195) rfl))))) rfl, h.w (List.mem_append_right _ (List.mem_append_right _ (List.mem_append_right _ (List.mem_append_left _ (List.mem_of_getElem? (i := 196) rfl))))) rfl, (h.w (List.mem_append_right _ (List.mem_append_right _ (List.mem_append_right _ (List.mem_append_left _ (List.mem_of_getElem? (i := 197) rfl))))) rfl), h.w (List.mem_append_right _ (List.mem_append_left _ (List.mem_of_getElem? (i := 7) rfl))) rfl, fun a U hW => wk_at hW rfl (h.w (a := #[]) (List.mem_append_right _ (List.mem_append_right _ (List.mem_append_right _ (List.mem_append_left _ (List.mem_of_getElem? (i := 198) rfl))))) rfl)⟩
theorem cw_O_194 (h : KK l G s) : LkS s args R_O 194 y_O_isIn cc_O_isIn 3 (some .boolean) 2 := ⟨⟨by decide +kernel, by decide +kernel, by decide +kernel⟩, h.w (List.mem_append_right _ (List.mem_append_right _ (List.mem_append_right _ (List.mem_append_left _ (List.mem_of_getElem? (i := 214) rfl))))) rfl, h.w (List.mem_append_right _ (List.mem_append_right _ (List.mem_append_right _ (List.mem_append_left _ (List.mem_of_getElem? (i := 215) rfl))))) rfl, h.w (List.mem_append_right _ (List.mem_append_left _ (List.mem_of_getElem? (i := 1) rfl))) rfl, fun a U hW => wk_at hW rfl (h.w (a := #[]) (List.mem_append_right _ (List.mem_append_right _ (List.mem_append_right _ (List.mem_append_left _ (List.mem_of_getElem? (i := 216) rfl))))) rfl)⟩
theorem cw_O_198 (h : KK l G s) : LkV s args R_O R_R 198 y_R_rankOf cc_R_rankOf 10 (some .long) 1 := ⟨⟨by decide +kernel, by decide +kernel, by decide +kernel⟩, h.w (List.mem_append_right _ (List.mem_append_right _ (List.mem_append_right _ (List.mem_append_left _ (List.mem_of_getElem? (i := 225) rfl))))) rfl, h.w (List.mem_append_right _ (List.mem_append_right _ (List.mem_append_right _ (List.mem_append_left _ (List.mem_of_getElem? (i := 226) rfl))))) rfl, (h.w (List.mem_append_right _ (List.mem_append_right _ (List.mem_append_right _ (List.mem_append_left _ (List.mem_of_getElem? (i := 227) rfl))))) rfl), h.w (List.mem_append_right _ (List.mem_append_left _ (List.mem_of_getElem? (i := 7) rfl))) rfl, fun a U hW => wk_at hW rfl (h.w (a := #[]) (List.mem_append_right _ (List.mem_append_right _ (List.mem_append_right _ (List.mem_append_left _ (List.mem_of_getElem? (i := 228) rfl))))) rfl)⟩
theorem cw_O_209 (h : KK l G s) : LkV s args R_O R_O 209 y_O_goalNow cc_O_goalNow 1 (some .long) 0 := ⟨⟨by decide +kernel, by decide +kernel, by decide +kernel⟩, h.w (List.mem_append_right _ (List.mem_append_right _ (List.mem_append_right _ (List.mem_append_right _ (List.mem_append_left _ (List.mem_of_getElem? (i := 23) rfl)))))) rfl, h.w (List.mem_append_right _ (List.mem_append_right _ (List.mem_append_right _ (List.mem_append_right _ (List.mem_append_left _ (List.mem_of_getElem? (i := 25) rfl)))))) rfl, (h.w (List.mem_append_left _ (List.mem_of_getElem? (i := 24) (by decide +kernel))) rfl), h.w (List.mem_append_right _ (List.mem_append_left _ (List.mem_of_getElem? (i := 1) rfl))) rfl, fun a U hW => wk_at hW rfl (h.w (a := #[]) (List.mem_append_right _ (List.mem_append_right _ (List.mem_append_right _ (List.mem_append_right _ (List.mem_append_left _ (List.mem_of_getElem? (i := 26) rfl)))))) rfl)⟩
theorem cw_O_214 (h : KK l G s) : LkV s args R_O R_D 214 y_D_begin cc_D_begin 4 (some .int) 2 := ⟨⟨by decide +kernel, by decide +kernel, by decide +kernel⟩, h.w (List.mem_append_right _ (List.mem_append_right _ (List.mem_append_right _ (List.mem_append_right _ (List.mem_append_left _ (List.mem_of_getElem? (i := 53) rfl)))))) rfl, h.w (List.mem_append_right _ (List.mem_append_right _ (List.mem_append_right _ (List.mem_append_right _ (List.mem_append_left _ (List.mem_of_getElem? (i := 54) rfl)))))) rfl, (h.w (List.mem_append_right _ (List.mem_append_right _ (List.mem_append_right _ (List.mem_append_right _ (List.mem_append_left _ (List.mem_of_getElem? (i := 55) rfl)))))) rfl), h.w (List.mem_append_right _ (List.mem_append_left _ (List.mem_of_getElem? (i := 9) rfl))) rfl, fun a U hW => wk_at hW rfl (h.w (a := #[]) (List.mem_append_right _ (List.mem_append_right _ (List.mem_append_right _ (List.mem_append_right _ (List.mem_append_left _ (List.mem_of_getElem? (i := 56) rfl)))))) rfl)⟩
theorem cw_O_218 (h : KK l G s) : LkV s args R_O R_D 218 y_D_awaitThrow cc_D_awaitThrow 1 (some .boolean) 0 := ⟨⟨by decide +kernel, by decide +kernel, by decide +kernel⟩, h.w (List.mem_append_right _ (List.mem_append_right _ (List.mem_append_right _ (List.mem_append_right _ (List.mem_append_left _ (List.mem_of_getElem? (i := 65) rfl)))))) rfl, h.w (List.mem_append_right _ (List.mem_append_right _ (List.mem_append_right _ (List.mem_append_right _ (List.mem_append_left _ (List.mem_of_getElem? (i := 66) rfl)))))) rfl, (h.w (List.mem_append_right _ (List.mem_append_right _ (List.mem_append_right _ (List.mem_append_right _ (List.mem_append_left _ (List.mem_of_getElem? (i := 67) rfl)))))) rfl), h.w (List.mem_append_right _ (List.mem_append_left _ (List.mem_of_getElem? (i := 9) rfl))) rfl, fun a U hW => wk_at hW rfl (h.w (a := #[]) (List.mem_append_right _ (List.mem_append_right _ (List.mem_append_right _ (List.mem_append_right _ (List.mem_append_left _ (List.mem_of_getElem? (i := 68) rfl)))))) rfl)⟩
theorem cw_O_223 (h : KK l G s) : LkV s args R_O R_D 223 y_D_haveSide cc_D_haveSide 2 (some .boolean) 1 := ⟨⟨by decide +kernel, by decide +kernel, by decide +kernel⟩, h.w (List.mem_append_right _ (List.mem_append_right _ (List.mem_append_right _ (List.mem_append_right _ (List.mem_append_left _ (List.mem_of_getElem? (i := 70) rfl)))))) rfl, h.w (List.mem_append_right _ (List.mem_append_right _ (List.mem_append_right _ (List.mem_append_right _ (List.mem_append_left _ (List.mem_of_getElem? (i := 71) rfl)))))) rfl, (h.w (List.mem_append_right _ (List.mem_append_right _ (List.mem_append_right _ (List.mem_append_right _ (List.mem_append_left _ (List.mem_of_getElem? (i := 72) rfl)))))) rfl), h.w (List.mem_append_right _ (List.mem_append_left _ (List.mem_of_getElem? (i := 9) rfl))) rfl, fun a U hW => wk_at hW rfl (h.w (a := #[]) (List.mem_append_right _ (List.mem_append_right _ (List.mem_append_right _ (List.mem_append_right _ (List.mem_append_left _ (List.mem_of_getElem? (i := 73) rfl)))))) rfl)⟩
theorem cw_O_228 (h : KK l G s) : LkV s args R_O R_D 228 y_D_take cc_D_take 2 (some .int) 1 := ⟨⟨by decide +kernel, by decide +kernel, by decide +kernel⟩, h.w (List.mem_append_right _ (List.mem_append_right _ (List.mem_append_right _ (List.mem_append_right _ (List.mem_append_left _ (List.mem_of_getElem? (i := 75) rfl)))))) rfl, h.w (List.mem_append_right _ (List.mem_append_right _ (List.mem_append_right _ (List.mem_append_right _ (List.mem_append_left _ (List.mem_of_getElem? (i := 76) rfl)))))) rfl, (h.w (List.mem_append_right _ (List.mem_append_right _ (List.mem_append_right _ (List.mem_append_right _ (List.mem_append_left _ (List.mem_of_getElem? (i := 77) rfl)))))) rfl), h.w (List.mem_append_right _ (List.mem_append_left _ (List.mem_of_getElem? (i := 9) rfl))) rfl, fun a U hW => wk_at hW rfl (h.w (a := #[]) (List.mem_append_right _ (List.mem_append_right _ (List.mem_append_right _ (List.mem_append_right _ (List.mem_append_left _ (List.mem_of_getElem? (i := 78) rfl)))))) rfl)⟩
theorem cw_O_231 (h : KK l G s) : LkV s args R_O R_D 231 y_D_haveNumber cc_D_haveNumber 1 (some .boolean) 0 := ⟨⟨by decide +kernel, by decide +kernel, by decide +kernel⟩, h.w (List.mem_append_right _ (List.mem_append_right _ (List.mem_append_right _ (List.mem_append_right _ (List.mem_append_left _ (List.mem_of_getElem? (i := 86) rfl)))))) rfl, h.w (List.mem_append_right _ (List.mem_append_right _ (List.mem_append_right _ (List.mem_append_right _ (List.mem_append_left _ (List.mem_of_getElem? (i := 87) rfl)))))) rfl, (h.w (List.mem_append_right _ (List.mem_append_right _ (List.mem_append_right _ (List.mem_append_right _ (List.mem_append_left _ (List.mem_of_getElem? (i := 88) rfl)))))) rfl), h.w (List.mem_append_right _ (List.mem_append_left _ (List.mem_of_getElem? (i := 9) rfl))) rfl, fun a U hW => wk_at hW rfl (h.w (a := #[]) (List.mem_append_right _ (List.mem_append_right _ (List.mem_append_right _ (List.mem_append_right _ (List.mem_append_left _ (List.mem_of_getElem? (i := 89) rfl)))))) rfl)⟩
theorem cw_O_236 (h : KK l G s) : LkV s args R_O R_D 236 y_D_made cc_D_made 1 (some .long) 0 := ⟨⟨by decide +kernel, by decide +kernel, by decide +kernel⟩, h.w (List.mem_append_right _ (List.mem_append_right _ (List.mem_append_right _ (List.mem_append_right _ (List.mem_append_left _ (List.mem_of_getElem? (i := 91) rfl)))))) rfl, h.w (List.mem_append_right _ (List.mem_append_right _ (List.mem_append_right _ (List.mem_append_right _ (List.mem_append_left _ (List.mem_of_getElem? (i := 92) rfl)))))) rfl, (h.w (List.mem_append_right _ (List.mem_append_right _ (List.mem_append_right _ (List.mem_append_right _ (List.mem_append_left _ (List.mem_of_getElem? (i := 93) rfl)))))) rfl), h.w (List.mem_append_right _ (List.mem_append_left _ (List.mem_of_getElem? (i := 9) rfl))) rfl, fun a U hW => wk_at hW rfl (h.w (a := #[]) (List.mem_append_right _ (List.mem_append_right _ (List.mem_append_right _ (List.mem_append_right _ (List.mem_append_left _ (List.mem_of_getElem? (i := 94) rfl)))))) rfl)⟩
theorem cw_O_239 (h : KK l G s) : LkV s args R_O R_O 239 y_O_requireNumber cc_O_requireNumber 1 none 0 := ⟨⟨by decide +kernel, by decide +kernel, by decide +kernel⟩, h.w (List.mem_append_right _ (List.mem_append_right _ (List.mem_append_right _ (List.mem_append_right _ (List.mem_append_left _ (List.mem_of_getElem? (i := 102) rfl)))))) rfl, h.w (List.mem_append_right _ (List.mem_append_right _ (List.mem_append_right _ (List.mem_append_right _ (List.mem_append_left _ (List.mem_of_getElem? (i := 104) rfl)))))) rfl, (h.w (List.mem_append_left _ (List.mem_of_getElem? (i := 26) (by decide +kernel))) rfl), h.w (List.mem_append_right _ (List.mem_append_left _ (List.mem_of_getElem? (i := 1) rfl))) rfl, fun a U hW => wk_at hW rfl (h.w (a := #[]) (List.mem_append_right _ (List.mem_append_right _ (List.mem_append_right _ (List.mem_append_right _ (List.mem_append_left _ (List.mem_of_getElem? (i := 105) rfl)))))) rfl)⟩
theorem cw_O_242 (h : KK l G s) : LkV s args R_O R_S 242 y_S_fill cc_S_fill 4 none 2 := ⟨⟨by decide +kernel, by decide +kernel, by decide +kernel⟩, h.w (List.mem_append_right _ (List.mem_append_right _ (List.mem_append_right _ (List.mem_append_right _ (List.mem_append_left _ (List.mem_of_getElem? (i := 106) rfl)))))) rfl, h.w (List.mem_append_right _ (List.mem_append_right _ (List.mem_append_right _ (List.mem_append_right _ (List.mem_append_left _ (List.mem_of_getElem? (i := 107) rfl)))))) rfl, (h.w (List.mem_append_right _ (List.mem_append_right _ (List.mem_append_right _ (List.mem_append_right _ (List.mem_append_left _ (List.mem_of_getElem? (i := 108) rfl)))))) rfl), h.w (List.mem_append_right _ (List.mem_append_left _ (List.mem_of_getElem? (i := 10) rfl))) rfl, fun a U hW => wk_at hW rfl (h.w (a := #[]) (List.mem_append_right _ (List.mem_append_right _ (List.mem_append_right _ (List.mem_append_right _ (List.mem_append_left _ (List.mem_of_getElem? (i := 109) rfl)))))) rfl)⟩
theorem cw_O_246 (h : KK l G s) : LkV s args R_O R_D 246 y_D_end cc_D_end 1 none 0 := ⟨⟨by decide +kernel, by decide +kernel, by decide +kernel⟩, h.w (List.mem_append_right _ (List.mem_append_right _ (List.mem_append_left _ (List.mem_of_getElem? (i := 132) rfl)))) rfl, h.w (List.mem_append_right _ (List.mem_append_right _ (List.mem_append_left _ (List.mem_of_getElem? (i := 133) rfl)))) rfl, (h.w (List.mem_append_right _ (List.mem_append_right _ (List.mem_append_left _ (List.mem_of_getElem? (i := 134) rfl)))) rfl), h.w (List.mem_append_right _ (List.mem_append_left _ (List.mem_of_getElem? (i := 9) rfl))) rfl, fun a U hW => wk_at hW rfl (h.w (a := #[]) (List.mem_append_right _ (List.mem_append_right _ (List.mem_append_left _ (List.mem_of_getElem? (i := 135) rfl)))) rfl)⟩
theorem cw_O_249 (h : KK l G s) : LkV s args R_O R_O 249 y_O_requireDrawn cc_O_requireDrawn 1 none 0 := ⟨⟨by decide +kernel, by decide +kernel, by decide +kernel⟩, h.w (List.mem_append_right _ (List.mem_append_right _ (List.mem_append_right _ (List.mem_append_right _ (List.mem_append_left _ (List.mem_of_getElem? (i := 118) rfl)))))) rfl, h.w (List.mem_append_right _ (List.mem_append_right _ (List.mem_append_right _ (List.mem_append_right _ (List.mem_append_left _ (List.mem_of_getElem? (i := 120) rfl)))))) rfl, (h.w (List.mem_append_left _ (List.mem_of_getElem? (i := 27) (by decide +kernel))) rfl), h.w (List.mem_append_right _ (List.mem_append_left _ (List.mem_of_getElem? (i := 1) rfl))) rfl, fun a U hW => wk_at hW rfl (h.w (a := #[]) (List.mem_append_right _ (List.mem_append_right _ (List.mem_append_right _ (List.mem_append_right _ (List.mem_append_left _ (List.mem_of_getElem? (i := 121) rfl)))))) rfl)⟩
theorem cw_O_252 (h : KK l G s) : LkV s args R_O R_S 252 y_S_at cc_S_at 2 (some .int) 1 := ⟨⟨by decide +kernel, by decide +kernel, by decide +kernel⟩, h.w (List.mem_append_right _ (List.mem_append_right _ (List.mem_append_right _ (List.mem_append_right _ (List.mem_append_left _ (List.mem_of_getElem? (i := 123) rfl)))))) rfl, h.w (List.mem_append_right _ (List.mem_append_right _ (List.mem_append_right _ (List.mem_append_right _ (List.mem_append_left _ (List.mem_of_getElem? (i := 124) rfl)))))) rfl, (h.w (List.mem_append_right _ (List.mem_append_right _ (List.mem_append_right _ (List.mem_append_right _ (List.mem_append_left _ (List.mem_of_getElem? (i := 125) rfl)))))) rfl), h.w (List.mem_append_right _ (List.mem_append_left _ (List.mem_of_getElem? (i := 10) rfl))) rfl, fun a U hW => wk_at hW rfl (h.w (a := #[]) (List.mem_append_right _ (List.mem_append_right _ (List.mem_append_right _ (List.mem_append_right _ (List.mem_append_left _ (List.mem_of_getElem? (i := 126) rfl)))))) rfl)⟩
theorem cw_O_255 (h : KK l G s) : LkV s args R_O R_S 255 y_S_hasEmptyPlace cc_S_hasEmptyPlace 1 (some .boolean) 0 := ⟨⟨by decide +kernel, by decide +kernel, by decide +kernel⟩, h.w (List.mem_append_right _ (List.mem_append_right _ (List.mem_append_right _ (List.mem_append_right _ (List.mem_append_left _ (List.mem_of_getElem? (i := 134) rfl)))))) rfl, h.w (List.mem_append_right _ (List.mem_append_right _ (List.mem_append_right _ (List.mem_append_right _ (List.mem_append_left _ (List.mem_of_getElem? (i := 32) rfl)))))) rfl, (h.w (List.mem_append_right _ (List.mem_append_right _ (List.mem_append_right _ (List.mem_append_right _ (List.mem_append_left _ (List.mem_of_getElem? (i := 33) rfl)))))) rfl), h.w (List.mem_append_right _ (List.mem_append_left _ (List.mem_of_getElem? (i := 10) rfl))) rfl, fun a U hW => wk_at hW rfl (h.w (a := #[]) (List.mem_append_right _ (List.mem_append_right _ (List.mem_append_right _ (List.mem_append_right _ (List.mem_append_left _ (List.mem_of_getElem? (i := 34) rfl)))))) rfl)⟩
theorem cw_O_260 (h : KK l G s) : LkV s args R_O R_S 260 y_S_isMember cc_S_isMember 2 (some .boolean) 1 := ⟨⟨by decide +kernel, by decide +kernel, by decide +kernel⟩, h.w (List.mem_append_right _ (List.mem_append_right _ (List.mem_append_right _ (List.mem_append_right _ (List.mem_append_left _ (List.mem_of_getElem? (i := 136) rfl)))))) rfl, h.w (List.mem_append_right _ (List.mem_append_right _ (List.mem_append_right _ (List.mem_append_right _ (List.mem_append_left _ (List.mem_of_getElem? (i := 137) rfl)))))) rfl, (h.w (List.mem_append_right _ (List.mem_append_right _ (List.mem_append_right _ (List.mem_append_right _ (List.mem_append_left _ (List.mem_of_getElem? (i := 138) rfl)))))) rfl), h.w (List.mem_append_right _ (List.mem_append_left _ (List.mem_of_getElem? (i := 10) rfl))) rfl, fun a U hW => wk_at hW rfl (h.w (a := #[]) (List.mem_append_right _ (List.mem_append_right _ (List.mem_append_right _ (List.mem_append_right _ (List.mem_append_left _ (List.mem_of_getElem? (i := 139) rfl)))))) rfl)⟩
theorem cw_O_265 (h : KK l G s) : LkV s args R_O R_S 265 y_S_vacate cc_S_vacate 3 none 1 := ⟨⟨by decide +kernel, by decide +kernel, by decide +kernel⟩, h.w (List.mem_append_right _ (List.mem_append_right _ (List.mem_append_right _ (List.mem_append_right _ (List.mem_append_left _ (List.mem_of_getElem? (i := 141) rfl)))))) rfl, h.w (List.mem_append_right _ (List.mem_append_right _ (List.mem_append_right _ (List.mem_append_right _ (List.mem_append_left _ (List.mem_of_getElem? (i := 142) rfl)))))) rfl, (h.w (List.mem_append_right _ (List.mem_append_right _ (List.mem_append_right _ (List.mem_append_right _ (List.mem_append_left _ (List.mem_of_getElem? (i := 143) rfl)))))) rfl), h.w (List.mem_append_right _ (List.mem_append_left _ (List.mem_of_getElem? (i := 10) rfl))) rfl, fun a U hW => wk_at hW rfl (h.w (a := #[]) (List.mem_append_right _ (List.mem_append_right _ (List.mem_append_right _ (List.mem_append_right _ (List.mem_append_left _ (List.mem_of_getElem? (i := 144) rfl)))))) rfl)⟩
theorem cw_O_268 (h : KK l G s) : LkV s args R_O R_S 268 y_S_listCandidates cc_S_listCandidates 5 (some .int) 0 := ⟨⟨by decide +kernel, by decide +kernel, by decide +kernel⟩, h.w (List.mem_append_right _ (List.mem_append_right _ (List.mem_append_right _ (List.mem_append_right _ (List.mem_append_left _ (List.mem_of_getElem? (i := 27) rfl)))))) rfl, h.w (List.mem_append_right _ (List.mem_append_right _ (List.mem_append_right _ (List.mem_append_right _ (List.mem_append_left _ (List.mem_of_getElem? (i := 28) rfl)))))) rfl, (h.w (List.mem_append_right _ (List.mem_append_right _ (List.mem_append_right _ (List.mem_append_right _ (List.mem_append_left _ (List.mem_of_getElem? (i := 29) rfl)))))) rfl), h.w (List.mem_append_right _ (List.mem_append_left _ (List.mem_of_getElem? (i := 10) rfl))) rfl, fun a U hW => wk_at hW rfl (h.w (a := #[]) (List.mem_append_right _ (List.mem_append_right _ (List.mem_append_right _ (List.mem_append_right _ (List.mem_append_left _ (List.mem_of_getElem? (i := 30) rfl)))))) rfl)⟩
theorem cw_O_271 (h : KK l G s) : LkV s args R_O R_S 271 y_S_candidateAt cc_S_candidateAt 2 (some .int) 1 := ⟨⟨by decide +kernel, by decide +kernel, by decide +kernel⟩, h.w (List.mem_append_right _ (List.mem_append_right _ (List.mem_append_right _ (List.mem_append_right _ (List.mem_append_left _ (List.mem_of_getElem? (i := 153) rfl)))))) rfl, h.w (List.mem_append_right _ (List.mem_append_right _ (List.mem_append_right _ (List.mem_append_right _ (List.mem_append_left _ (List.mem_of_getElem? (i := 154) rfl)))))) rfl, (h.w (List.mem_append_right _ (List.mem_append_right _ (List.mem_append_right _ (List.mem_append_right _ (List.mem_append_left _ (List.mem_of_getElem? (i := 155) rfl)))))) rfl), h.w (List.mem_append_right _ (List.mem_append_left _ (List.mem_of_getElem? (i := 10) rfl))) rfl, fun a U hW => wk_at hW rfl (h.w (a := #[]) (List.mem_append_right _ (List.mem_append_right _ (List.mem_append_right _ (List.mem_append_right _ (List.mem_append_left _ (List.mem_of_getElem? (i := 156) rfl)))))) rfl)⟩
theorem cw_O_276 (h : KK l G s) : LkV s args R_O R_S 276 y_S_admitCandidate cc_S_admitCandidate 6 (some .int) 1 := ⟨⟨by decide +kernel, by decide +kernel, by decide +kernel⟩, h.w (List.mem_append_right _ (List.mem_append_right _ (List.mem_append_right _ (List.mem_append_right _ (List.mem_append_left _ (List.mem_of_getElem? (i := 165) rfl)))))) rfl, h.w (List.mem_append_right _ (List.mem_append_right _ (List.mem_append_right _ (List.mem_append_right _ (List.mem_append_left _ (List.mem_of_getElem? (i := 166) rfl)))))) rfl, (h.w (List.mem_append_right _ (List.mem_append_right _ (List.mem_append_right _ (List.mem_append_right _ (List.mem_append_left _ (List.mem_of_getElem? (i := 167) rfl)))))) rfl), h.w (List.mem_append_right _ (List.mem_append_left _ (List.mem_of_getElem? (i := 10) rfl))) rfl, fun a U hW => wk_at hW rfl (h.w (a := #[]) (List.mem_append_right _ (List.mem_append_right _ (List.mem_append_right _ (List.mem_append_right _ (List.mem_append_left _ (List.mem_of_getElem? (i := 168) rfl)))))) rfl)⟩
theorem cw_O_280 (h : KK l G s) : LkV s args R_O R_S 280 y_S_breachWith cc_S_breachWith 6 (some .int) 1 := ⟨⟨by decide +kernel, by decide +kernel, by decide +kernel⟩, h.w (List.mem_append_right _ (List.mem_append_right _ (List.mem_append_right _ (List.mem_append_right _ (List.mem_append_left _ (List.mem_of_getElem? (i := 181) rfl)))))) rfl, h.w (List.mem_append_right _ (List.mem_append_right _ (List.mem_append_right _ (List.mem_append_right _ (List.mem_append_left _ (List.mem_of_getElem? (i := 37) rfl)))))) rfl, (h.w (List.mem_append_right _ (List.mem_append_right _ (List.mem_append_right _ (List.mem_append_right _ (List.mem_append_left _ (List.mem_of_getElem? (i := 38) rfl)))))) rfl), h.w (List.mem_append_right _ (List.mem_append_left _ (List.mem_of_getElem? (i := 10) rfl))) rfl, fun a U hW => wk_at hW rfl (h.w (a := #[]) (List.mem_append_right _ (List.mem_append_right _ (List.mem_append_right _ (List.mem_append_right _ (List.mem_append_left _ (List.mem_of_getElem? (i := 39) rfl)))))) rfl)⟩
theorem cw_O_283 (h : KK l G s) : LkV s args R_O R_P 283 y_P_clear cc_P_clear 1 none 0 := ⟨⟨by decide +kernel, by decide +kernel, by decide +kernel⟩, h.w (List.mem_append_right _ (List.mem_append_right _ (List.mem_append_left _ (List.mem_of_getElem? (i := 115) rfl)))) rfl, h.w (List.mem_append_right _ (List.mem_append_right _ (List.mem_append_left _ (List.mem_of_getElem? (i := 116) rfl)))) rfl, (h.w (List.mem_append_right _ (List.mem_append_right _ (List.mem_append_left _ (List.mem_of_getElem? (i := 117) rfl)))) rfl), h.w (List.mem_append_right _ (List.mem_append_left _ (List.mem_of_getElem? (i := 2) rfl))) rfl, fun a U hW => wk_at hW rfl (h.w (a := #[]) (List.mem_append_right _ (List.mem_append_right _ (List.mem_append_left _ (List.mem_of_getElem? (i := 118) rfl)))) rfl)⟩
theorem cw_O_286 (h : KK l G s) : LkV s args R_O R_Q 286 y_Q_clear cc_Q_clear 1 none 0 := ⟨⟨by decide +kernel, by decide +kernel, by decide +kernel⟩, h.w (List.mem_append_right _ (List.mem_append_right _ (List.mem_append_left _ (List.mem_of_getElem? (i := 120) rfl)))) rfl, h.w (List.mem_append_right _ (List.mem_append_right _ (List.mem_append_left _ (List.mem_of_getElem? (i := 121) rfl)))) rfl, (h.w (List.mem_append_right _ (List.mem_append_right _ (List.mem_append_left _ (List.mem_of_getElem? (i := 122) rfl)))) rfl), h.w (List.mem_append_right _ (List.mem_append_left _ (List.mem_of_getElem? (i := 3) rfl))) rfl, fun a U hW => wk_at hW rfl (h.w (a := #[]) (List.mem_append_right _ (List.mem_append_right _ (List.mem_append_left _ (List.mem_of_getElem? (i := 123) rfl)))) rfl)⟩
theorem cw_O_287 (h : KK l G s) : LkV s args R_O R_S 287 y_S_clear cc_S_clear 1 none 0 := ⟨⟨by decide +kernel, by decide +kernel, by decide +kernel⟩, h.w (List.mem_append_right _ (List.mem_append_right _ (List.mem_append_left _ (List.mem_of_getElem? (i := 124) rfl)))) rfl, h.w (List.mem_append_right _ (List.mem_append_right _ (List.mem_append_left _ (List.mem_of_getElem? (i := 125) rfl)))) rfl, (h.w (List.mem_append_right _ (List.mem_append_right _ (List.mem_append_left _ (List.mem_of_getElem? (i := 126) rfl)))) rfl), h.w (List.mem_append_right _ (List.mem_append_left _ (List.mem_of_getElem? (i := 10) rfl))) rfl, fun a U hW => wk_at hW rfl (h.w (a := #[]) (List.mem_append_right _ (List.mem_append_right _ (List.mem_append_left _ (List.mem_of_getElem? (i := 127) rfl)))) rfl)⟩
theorem cw_O_288 (h : KK l G s) : LkV s args R_O R_T 288 y_T_build cc_T_build 4 none 2 := ⟨⟨by decide +kernel, by decide +kernel, by decide +kernel⟩, h.w (List.mem_append_right _ (List.mem_append_right _ (List.mem_append_left _ (List.mem_of_getElem? (i := 51) rfl)))) rfl, h.w (List.mem_append_right _ (List.mem_append_right _ (List.mem_append_left _ (List.mem_of_getElem? (i := 52) rfl)))) rfl, (h.w (List.mem_append_right _ (List.mem_append_right _ (List.mem_append_left _ (List.mem_of_getElem? (i := 53) rfl)))) rfl), h.w (List.mem_append_right _ (List.mem_append_left _ (List.mem_of_getElem? (i := 5) rfl))) rfl, fun a U hW => wk_at hW rfl (h.w (a := #[]) (List.mem_append_right _ (List.mem_append_right _ (List.mem_append_left _ (List.mem_of_getElem? (i := 54) rfl)))) rfl)⟩
theorem cw_O_291 (h : KK l G s) : LkV s args R_O R_S 291 y_S_areDrawn cc_S_areDrawn 1 (some .boolean) 0 := ⟨⟨by decide +kernel, by decide +kernel, by decide +kernel⟩, h.w (List.mem_append_right _ (List.mem_append_right _ (List.mem_append_left _ (List.mem_of_getElem? (i := 226) rfl)))) rfl, h.w (List.mem_append_right _ (List.mem_append_right _ (List.mem_append_left _ (List.mem_of_getElem? (i := 227) rfl)))) rfl, (h.w (List.mem_append_right _ (List.mem_append_right _ (List.mem_append_left _ (List.mem_of_getElem? (i := 228) rfl)))) rfl), h.w (List.mem_append_right _ (List.mem_append_left _ (List.mem_of_getElem? (i := 10) rfl))) rfl, fun a U hW => wk_at hW rfl (h.w (a := #[]) (List.mem_append_right _ (List.mem_append_right _ (List.mem_append_left _ (List.mem_of_getElem? (i := 229) rfl)))) rfl)⟩
theorem cw_P_31 (h : KK l G s) : LkS s args R_P 31 y_A_fill2 cc_A_fill2 4 none 2 := ⟨⟨by decide +kernel, by decide +kernel, by decide +kernel⟩, h.w (List.mem_append_right _ (List.mem_append_right _ (List.mem_append_left _ (List.mem_of_getElem? (i := 119) rfl)))) rfl, h.w (List.mem_append_right _ (List.mem_append_left _ (List.mem_of_getElem? (i := 76) rfl))) rfl, h.w (List.mem_append_right _ (List.mem_append_left _ (List.mem_of_getElem? (i := 4) rfl))) rfl, fun a U hW => wk_at hW rfl (h.w (a := #[]) (List.mem_append_right _ (List.mem_append_left _ (List.mem_of_getElem? (i := 77) rfl))) rfl)⟩
theorem cw_P_37 (h : KK l G s) : LkS s args R_P 37 y_P_valueIn cc_P_valueIn 2 (some .int) 2 := ⟨⟨by decide +kernel, by decide +kernel, by decide +kernel⟩, h.w (List.mem_append_right _ (List.mem_append_right _ (List.mem_append_left _ (List.mem_of_getElem? (i := 149) rfl)))) rfl, h.w (List.mem_append_right _ (List.mem_append_right _ (List.mem_append_left _ (List.mem_of_getElem? (i := 74) rfl)))) rfl, h.w (List.mem_append_right _ (List.mem_append_left _ (List.mem_of_getElem? (i := 2) rfl))) rfl, fun a U hW => wk_at hW rfl (h.w (a := #[]) (List.mem_append_right _ (List.mem_append_right _ (List.mem_append_left _ (List.mem_of_getElem? (i := 75) rfl)))) rfl)⟩
theorem cw_P_46 (h : KK l G s) : LkV s args R_P R_P 46 y_P_kindsBelow cc_P_kindsBelow 3 (some .int) 1 := ⟨⟨by decide +kernel, by decide +kernel, by decide +kernel⟩, h.w (List.mem_append_right _ (List.mem_append_right _ (List.mem_append_right _ (List.mem_append_left _ (List.mem_of_getElem? (i := 29) rfl))))) rfl, h.w (List.mem_append_right _ (List.mem_append_right _ (List.mem_append_right _ (List.mem_append_left _ (List.mem_of_getElem? (i := 31) rfl))))) rfl, (h.w (List.mem_append_left _ (List.mem_of_getElem? (i := 12) (by decide +kernel))) rfl), h.w (List.mem_append_right _ (List.mem_append_left _ (List.mem_of_getElem? (i := 2) rfl))) rfl, fun a U hW => wk_at hW rfl (h.w (a := #[]) (List.mem_append_right _ (List.mem_append_right _ (List.mem_append_right _ (List.mem_append_left _ (List.mem_of_getElem? (i := 32) rfl))))) rfl)⟩
theorem cw_P_50 (h : KK l G s) : LkV s args R_P R_P 50 y_P_isKind cc_P_isKind 3 (some .boolean) 1 := ⟨⟨by decide +kernel, by decide +kernel, by decide +kernel⟩, h.w (List.mem_append_right _ (List.mem_append_right _ (List.mem_append_right _ (List.mem_append_left _ (List.mem_of_getElem? (i := 25) rfl))))) rfl, h.w (List.mem_append_right _ (List.mem_append_right _ (List.mem_append_right _ (List.mem_append_left _ (List.mem_of_getElem? (i := 27) rfl))))) rfl, (h.w (List.mem_append_left _ (List.mem_of_getElem? (i := 11) (by decide +kernel))) rfl), h.w (List.mem_append_right _ (List.mem_append_left _ (List.mem_of_getElem? (i := 2) rfl))) rfl, fun a U hW => wk_at hW rfl (h.w (a := #[]) (List.mem_append_right _ (List.mem_append_right _ (List.mem_append_right _ (List.mem_append_left _ (List.mem_of_getElem? (i := 28) rfl))))) rfl)⟩
theorem cw_P_54 (h : KK l G s) : LkV s args R_P R_P 54 y_P_insertKind cc_P_insertKind 4 none 2 := ⟨⟨by decide +kernel, by decide +kernel, by decide +kernel⟩, h.w (List.mem_append_right _ (List.mem_append_right _ (List.mem_append_right _ (List.mem_append_left _ (List.mem_of_getElem? (i := 38) rfl))))) rfl, h.w (List.mem_append_right _ (List.mem_append_right _ (List.mem_append_right _ (List.mem_append_left _ (List.mem_of_getElem? (i := 40) rfl))))) rfl, (h.w (List.mem_append_left _ (List.mem_of_getElem? (i := 13) (by decide +kernel))) rfl), h.w (List.mem_append_right _ (List.mem_append_left _ (List.mem_of_getElem? (i := 2) rfl))) rfl, fun a U hW => wk_at hW rfl (h.w (a := #[]) (List.mem_append_right _ (List.mem_append_right _ (List.mem_append_right _ (List.mem_append_left _ (List.mem_of_getElem? (i := 41) rfl))))) rfl)⟩
theorem cw_Q_18 (h : KK l G s) : LkS s args R_Q 18 y_A_fill2 cc_A_fill2 4 none 2 := ⟨⟨by decide +kernel, by decide +kernel, by decide +kernel⟩, h.w (List.mem_append_right _ (List.mem_append_left _ (List.mem_of_getElem? (i := 75) rfl))) rfl, h.w (List.mem_append_right _ (List.mem_append_left _ (List.mem_of_getElem? (i := 76) rfl))) rfl, h.w (List.mem_append_right _ (List.mem_append_left _ (List.mem_of_getElem? (i := 4) rfl))) rfl, fun a U hW => wk_at hW rfl (h.w (a := #[]) (List.mem_append_right _ (List.mem_append_left _ (List.mem_of_getElem? (i := 77) rfl))) rfl)⟩
theorem cw_Q_24 (h : KK l G s) : LkV s args R_Q R_Q 24 y_Q_set cc_Q_set 4 none 3 := ⟨⟨by decide +kernel, by decide +kernel, by decide +kernel⟩, h.w (List.mem_append_right _ (List.mem_append_right _ (List.mem_append_right _ (List.mem_append_left _ (List.mem_of_getElem? (i := 156) rfl))))) rfl, h.w (List.mem_append_right _ (List.mem_append_right _ (List.mem_append_right _ (List.mem_append_left _ (List.mem_of_getElem? (i := 52) rfl))))) rfl, (h.w (List.mem_append_right _ (List.mem_append_right _ (List.mem_append_right _ (List.mem_append_left _ (List.mem_of_getElem? (i := 53) rfl))))) rfl), h.w (List.mem_append_right _ (List.mem_append_left _ (List.mem_of_getElem? (i := 3) rfl))) rfl, fun a U hW => wk_at hW rfl (h.w (a := #[]) (List.mem_append_right _ (List.mem_append_right _ (List.mem_append_right _ (List.mem_append_left _ (List.mem_of_getElem? (i := 54) rfl))))) rfl)⟩
theorem cw_R_42 (h : KK l G s) : LkV s args R_R R_T 42 y_T_choose cc_T_choose 3 (some .long) 2 := ⟨⟨by decide +kernel, by decide +kernel, by decide +kernel⟩, h.w (List.mem_append_right _ (List.mem_append_right _ (List.mem_append_right _ (List.mem_append_left _ (List.mem_of_getElem? (i := 199) rfl))))) rfl, h.w (List.mem_append_right _ (List.mem_append_right _ (List.mem_append_left _ (List.mem_of_getElem? (i := 100) rfl)))) rfl, (h.w (List.mem_append_right _ (List.mem_append_right _ (List.mem_append_left _ (List.mem_of_getElem? (i := 101) rfl)))) rfl), h.w (List.mem_append_right _ (List.mem_append_left _ (List.mem_of_getElem? (i := 5) rfl))) rfl, fun a U hW => wk_at hW rfl (h.w (a := #[]) (List.mem_append_right _ (List.mem_append_right _ (List.mem_append_left _ (List.mem_of_getElem? (i := 102) rfl)))) rfl)⟩
theorem cw_R_52 (h : KK l G s) : LkV s args R_R R_R 52 y_R_tellKind cc_R_tellKind 14 none 5 := ⟨⟨by decide +kernel, by decide +kernel, by decide +kernel⟩, h.w (List.mem_append_right _ (List.mem_append_right _ (List.mem_append_right _ (List.mem_append_left _ (List.mem_of_getElem? (i := 203) rfl))))) rfl, h.w (List.mem_append_right _ (List.mem_append_right _ (List.mem_append_right _ (List.mem_append_left _ (List.mem_of_getElem? (i := 205) rfl))))) rfl, (h.w (List.mem_append_left _ (List.mem_of_getElem? (i := 21) (by decide +kernel))) rfl), h.w (List.mem_append_right _ (List.mem_append_left _ (List.mem_of_getElem? (i := 7) rfl))) rfl, fun a U hW => wk_at hW rfl (h.w (a := #[]) (List.mem_append_right _ (List.mem_append_right _ (List.mem_append_right _ (List.mem_append_left _ (List.mem_of_getElem? (i := 206) rfl))))) rfl)⟩
theorem cw_R_65 (h : KK l G s) : LkV s args R_R R_R 65 y_R_membersOf cc_R_membersOf 6 (some .int) 2 := ⟨⟨by decide +kernel, by decide +kernel, by decide +kernel⟩, h.w (List.mem_append_right _ (List.mem_append_right _ (List.mem_append_right _ (List.mem_append_left _ (List.mem_of_getElem? (i := 229) rfl))))) rfl, h.w (List.mem_append_right _ (List.mem_append_right _ (List.mem_append_right _ (List.mem_append_left _ (List.mem_of_getElem? (i := 231) rfl))))) rfl, (h.w (List.mem_append_left _ (List.mem_of_getElem? (i := 22) (by decide +kernel))) rfl), h.w (List.mem_append_right _ (List.mem_append_left _ (List.mem_of_getElem? (i := 7) rfl))) rfl, fun a U hW => wk_at hW rfl (h.w (a := #[]) (List.mem_append_right _ (List.mem_append_right _ (List.mem_append_right _ (List.mem_append_left _ (List.mem_of_getElem? (i := 232) rfl))))) rfl)⟩
theorem cw_R_71 (h : KK l G s) : LkV s args R_R R_R 71 y_R_indexIn cc_R_indexIn 10 (some .long) 3 := ⟨⟨by decide +kernel, by decide +kernel, by decide +kernel⟩, h.w (List.mem_append_right _ (List.mem_append_right _ (List.mem_append_right _ (List.mem_append_left _ (List.mem_of_getElem? (i := 235) rfl))))) rfl, h.w (List.mem_append_right _ (List.mem_append_right _ (List.mem_append_right _ (List.mem_append_left _ (List.mem_of_getElem? (i := 237) rfl))))) rfl, (h.w (List.mem_append_left _ (List.mem_of_getElem? (i := 23) (by decide +kernel))) rfl), h.w (List.mem_append_right _ (List.mem_append_left _ (List.mem_of_getElem? (i := 7) rfl))) rfl, fun a U hW => wk_at hW rfl (h.w (a := #[]) (List.mem_append_right _ (List.mem_append_right _ (List.mem_append_right _ (List.mem_append_left _ (List.mem_of_getElem? (i := 238) rfl))))) rfl)⟩
theorem cw_R_75 (h : KK l G s) : LkSN s args R_R "PanelOffice" 75 y_O_isIn cc_O_isIn 3 (some .boolean) 2 := ⟨⟨by decide +kernel, by decide +kernel, by decide +kernel⟩, h.w (List.mem_append_right _ (List.mem_append_right _ (List.mem_append_right _ (List.mem_append_left _ (List.mem_of_getElem? (i := 233) rfl))))) rfl, h.w (List.mem_append_right _ (List.mem_append_right _ (List.mem_append_right _ (List.mem_append_left _ (List.mem_of_getElem? (i := 215) rfl))))) rfl, h.w (List.mem_append_right _ (List.mem_append_left _ (List.mem_of_getElem? (i := 1) rfl))) rfl, fun a U hW => wk_at hW rfl (h.w (a := #[]) (List.mem_append_right _ (List.mem_append_right _ (List.mem_append_right _ (List.mem_append_left _ (List.mem_of_getElem? (i := 216) rfl))))) rfl)⟩
theorem cw_S_54 (h : KK l G s) : LkSN s args R_S "PanelOffice" 54 y_O_isIn cc_O_isIn 3 (some .boolean) 2 := ⟨⟨by decide +kernel, by decide +kernel, by decide +kernel⟩, h.w (List.mem_append_right _ (List.mem_append_right _ (List.mem_append_right _ (List.mem_append_right _ (List.mem_append_left _ (List.mem_of_getElem? (i := 35) rfl)))))) rfl, h.w (List.mem_append_right _ (List.mem_append_right _ (List.mem_append_right _ (List.mem_append_left _ (List.mem_of_getElem? (i := 215) rfl))))) rfl, h.w (List.mem_append_right _ (List.mem_append_left _ (List.mem_of_getElem? (i := 1) rfl))) rfl, fun a U hW => wk_at hW rfl (h.w (a := #[]) (List.mem_append_right _ (List.mem_append_right _ (List.mem_append_right _ (List.mem_append_left _ (List.mem_of_getElem? (i := 216) rfl))))) rfl)⟩
theorem cw_S_60 (h : KK l G s) : LkV s args R_S R_S 60 y_S_listCandidates cc_S_listCandidates 5 (some .int) 0 := ⟨⟨by decide +kernel, by decide +kernel, by decide +kernel⟩, h.w (List.mem_append_right _ (List.mem_append_right _ (List.mem_append_right _ (List.mem_append_right _ (List.mem_append_left _ (List.mem_of_getElem? (i := 169) rfl)))))) rfl, h.w (List.mem_append_right _ (List.mem_append_right _ (List.mem_append_right _ (List.mem_append_right _ (List.mem_append_left _ (List.mem_of_getElem? (i := 28) rfl)))))) rfl, (h.w (List.mem_append_right _ (List.mem_append_right _ (List.mem_append_right _ (List.mem_append_right _ (List.mem_append_left _ (List.mem_of_getElem? (i := 29) rfl)))))) rfl), h.w (List.mem_append_right _ (List.mem_append_left _ (List.mem_of_getElem? (i := 10) rfl))) rfl, fun a U hW => wk_at hW rfl (h.w (a := #[]) (List.mem_append_right _ (List.mem_append_right _ (List.mem_append_right _ (List.mem_append_right _ (List.mem_append_left _ (List.mem_of_getElem? (i := 30) rfl)))))) rfl)⟩
theorem cw_S_70 (h : KK l G s) : LkV s args R_S R_S 70 y_S_hasEmptyPlace cc_S_hasEmptyPlace 1 (some .boolean) 0 := ⟨⟨by decide +kernel, by decide +kernel, by decide +kernel⟩, h.w (List.mem_append_right _ (List.mem_append_right _ (List.mem_append_right _ (List.mem_append_right _ (List.mem_append_left _ (List.mem_of_getElem? (i := 31) rfl)))))) rfl, h.w (List.mem_append_right _ (List.mem_append_right _ (List.mem_append_right _ (List.mem_append_right _ (List.mem_append_left _ (List.mem_of_getElem? (i := 32) rfl)))))) rfl, (h.w (List.mem_append_right _ (List.mem_append_right _ (List.mem_append_right _ (List.mem_append_right _ (List.mem_append_left _ (List.mem_of_getElem? (i := 33) rfl)))))) rfl), h.w (List.mem_append_right _ (List.mem_append_left _ (List.mem_of_getElem? (i := 10) rfl))) rfl, fun a U hW => wk_at hW rfl (h.w (a := #[]) (List.mem_append_right _ (List.mem_append_right _ (List.mem_append_right _ (List.mem_append_right _ (List.mem_append_left _ (List.mem_of_getElem? (i := 34) rfl)))))) rfl)⟩
theorem cw_S_74 (h : KK l G s) : LkV s args R_S R_S 74 y_S_breachWith cc_S_breachWith 6 (some .int) 1 := ⟨⟨by decide +kernel, by decide +kernel, by decide +kernel⟩, h.w (List.mem_append_right _ (List.mem_append_right _ (List.mem_append_right _ (List.mem_append_right _ (List.mem_append_left _ (List.mem_of_getElem? (i := 36) rfl)))))) rfl, h.w (List.mem_append_right _ (List.mem_append_right _ (List.mem_append_right _ (List.mem_append_right _ (List.mem_append_left _ (List.mem_of_getElem? (i := 37) rfl)))))) rfl, (h.w (List.mem_append_right _ (List.mem_append_right _ (List.mem_append_right _ (List.mem_append_right _ (List.mem_append_left _ (List.mem_of_getElem? (i := 38) rfl)))))) rfl), h.w (List.mem_append_right _ (List.mem_append_left _ (List.mem_of_getElem? (i := 10) rfl))) rfl, fun a U hW => wk_at hW rfl (h.w (a := #[]) (List.mem_append_right _ (List.mem_append_right _ (List.mem_append_right _ (List.mem_append_right _ (List.mem_append_left _ (List.mem_of_getElem? (i := 39) rfl)))))) rfl)⟩
theorem cw_S_78 (h : KK l G s) : LkS s args R_S 78 y_A_fill2 cc_A_fill2 4 none 2 := ⟨⟨by decide +kernel, by decide +kernel, by decide +kernel⟩, h.w (List.mem_append_right _ (List.mem_append_right _ (List.mem_append_right _ (List.mem_append_right _ (List.mem_append_left _ (List.mem_of_getElem? (i := 40) rfl)))))) rfl, h.w (List.mem_append_right _ (List.mem_append_left _ (List.mem_of_getElem? (i := 76) rfl))) rfl, h.w (List.mem_append_right _ (List.mem_append_left _ (List.mem_of_getElem? (i := 4) rfl))) rfl, fun a U hW => wk_at hW rfl (h.w (a := #[]) (List.mem_append_right _ (List.mem_append_left _ (List.mem_of_getElem? (i := 77) rfl))) rfl)⟩
theorem cw_S_84 (h : KK l G s) : LkV s args R_S R_S 84 y_S_addValuesOf cc_S_addValuesOf 3 none 1 := ⟨⟨by decide +kernel, by decide +kernel, by decide +kernel⟩, h.w (List.mem_append_right _ (List.mem_append_right _ (List.mem_append_right _ (List.mem_append_right _ (List.mem_append_left _ (List.mem_of_getElem? (i := 41) rfl)))))) rfl, h.w (List.mem_append_right _ (List.mem_append_right _ (List.mem_append_right _ (List.mem_append_right _ (List.mem_append_left _ (List.mem_of_getElem? (i := 43) rfl)))))) rfl, (h.w (List.mem_append_left _ (List.mem_of_getElem? (i := 25) (by decide +kernel))) rfl), h.w (List.mem_append_right _ (List.mem_append_left _ (List.mem_of_getElem? (i := 10) rfl))) rfl, fun a U hW => wk_at hW rfl (h.w (a := #[]) (List.mem_append_right _ (List.mem_append_right _ (List.mem_append_right _ (List.mem_append_right _ (List.mem_append_left _ (List.mem_of_getElem? (i := 44) rfl)))))) rfl)⟩
theorem cw_S_91 (h : KK l G s) : LkSN s args R_S "PanelOffice" 91 y_O_quotaOf cc_O_quotaOf 2 (some .int) 2 := ⟨⟨by decide +kernel, by decide +kernel, by decide +kernel⟩, h.w (List.mem_append_right _ (List.mem_append_right _ (List.mem_append_right _ (List.mem_append_right _ (List.mem_append_left _ (List.mem_of_getElem? (i := 46) rfl)))))) rfl, h.w (List.mem_append_right _ (List.mem_append_right _ (List.mem_append_left _ (List.mem_of_getElem? (i := 77) rfl)))) rfl, h.w (List.mem_append_right _ (List.mem_append_left _ (List.mem_of_getElem? (i := 1) rfl))) rfl, fun a U hW => wk_at hW rfl (h.w (a := #[]) (List.mem_append_right _ (List.mem_append_right _ (List.mem_append_left _ (List.mem_of_getElem? (i := 78) rfl)))) rfl)⟩
theorem cw_S_94 (h : KK l G s) : LkV s args R_S R_Q 94 y_Q_breachBy cc_Q_breachBy 3 (some .int) 2 := ⟨⟨by decide +kernel, by decide +kernel, by decide +kernel⟩, h.w (List.mem_append_right _ (List.mem_append_right _ (List.mem_append_right _ (List.mem_append_right _ (List.mem_append_left _ (List.mem_of_getElem? (i := 47) rfl)))))) rfl, h.w (List.mem_append_right _ (List.mem_append_right _ (List.mem_append_right _ (List.mem_append_right _ (List.mem_append_left _ (List.mem_of_getElem? (i := 48) rfl)))))) rfl, (h.w (List.mem_append_right _ (List.mem_append_right _ (List.mem_append_right _ (List.mem_append_right _ (List.mem_append_left _ (List.mem_of_getElem? (i := 49) rfl)))))) rfl), h.w (List.mem_append_right _ (List.mem_append_left _ (List.mem_of_getElem? (i := 3) rfl))) rfl, fun a U hW => wk_at hW rfl (h.w (a := #[]) (List.mem_append_right _ (List.mem_append_right _ (List.mem_append_right _ (List.mem_append_right _ (List.mem_append_left _ (List.mem_of_getElem? (i := 50) rfl)))))) rfl)⟩
theorem cw_S_102 (h : KK l G s) : LkS s args R_S 102 y_P_valueIn cc_P_valueIn 2 (some .int) 2 := ⟨⟨by decide +kernel, by decide +kernel, by decide +kernel⟩, h.w (List.mem_append_right _ (List.mem_append_right _ (List.mem_append_right _ (List.mem_append_right _ (List.mem_append_left _ (List.mem_of_getElem? (i := 45) rfl)))))) rfl, h.w (List.mem_append_right _ (List.mem_append_right _ (List.mem_append_left _ (List.mem_of_getElem? (i := 74) rfl)))) rfl, h.w (List.mem_append_right _ (List.mem_append_left _ (List.mem_of_getElem? (i := 2) rfl))) rfl, fun a U hW => wk_at hW rfl (h.w (a := #[]) (List.mem_append_right _ (List.mem_append_right _ (List.mem_append_left _ (List.mem_of_getElem? (i := 75) rfl)))) rfl)⟩
theorem cw_T_61 (h : KK l G s) : LkS s args R_T 61 y_A_fill2 cc_A_fill2 4 none 2 := ⟨⟨by decide +kernel, by decide +kernel, by decide +kernel⟩, h.w (List.mem_append_right _ (List.mem_append_right _ (List.mem_append_left _ (List.mem_of_getElem? (i := 55) rfl)))) rfl, h.w (List.mem_append_right _ (List.mem_append_left _ (List.mem_of_getElem? (i := 76) rfl))) rfl, h.w (List.mem_append_right _ (List.mem_append_left _ (List.mem_of_getElem? (i := 4) rfl))) rfl, fun a U hW => wk_at hW rfl (h.w (a := #[]) (List.mem_append_right _ (List.mem_append_left _ (List.mem_of_getElem? (i := 77) rfl))) rfl)⟩
theorem cw_T_67 (h : KK l G s) : LkV s args R_T R_T 67 y_T_stateOf cc_T_stateOf 6 (some .int) 1 := ⟨⟨by decide +kernel, by decide +kernel, by decide +kernel⟩, h.w (List.mem_append_right _ (List.mem_append_right _ (List.mem_append_left _ (List.mem_of_getElem? (i := 56) rfl)))) rfl, h.w (List.mem_append_right _ (List.mem_append_right _ (List.mem_append_left _ (List.mem_of_getElem? (i := 58) rfl)))) rfl, (h.w (List.mem_append_left _ (List.mem_of_getElem? (i := 1) (by decide +kernel))) rfl), h.w (List.mem_append_right _ (List.mem_append_left _ (List.mem_of_getElem? (i := 5) rfl))) rfl, fun a U hW => wk_at hW rfl (h.w (a := #[]) (List.mem_append_right _ (List.mem_append_right _ (List.mem_append_left _ (List.mem_of_getElem? (i := 59) rfl)))) rfl)⟩
theorem cw_T_76 (h : KK l G s) : LkV s args R_T R_T 76 y_T_addLayer cc_T_addLayer 10 none 3 := ⟨⟨by decide +kernel, by decide +kernel, by decide +kernel⟩, h.w (List.mem_append_right _ (List.mem_append_right _ (List.mem_append_left _ (List.mem_of_getElem? (i := 65) rfl)))) rfl, h.w (List.mem_append_right _ (List.mem_append_right _ (List.mem_append_left _ (List.mem_of_getElem? (i := 67) rfl)))) rfl, (h.w (List.mem_append_left _ (List.mem_of_getElem? (i := 3) (by decide +kernel))) rfl), h.w (List.mem_append_right _ (List.mem_append_left _ (List.mem_of_getElem? (i := 5) rfl))) rfl, fun a U hW => wk_at hW rfl (h.w (a := #[]) (List.mem_append_right _ (List.mem_append_right _ (List.mem_append_left _ (List.mem_of_getElem? (i := 68) rfl)))) rfl)⟩
theorem cw_T_80 (h : KK l G s) : LkV s args R_T R_T 80 y_T_countAhead cc_T_countAhead 5 none 2 := ⟨⟨by decide +kernel, by decide +kernel, by decide +kernel⟩, h.w (List.mem_append_right _ (List.mem_append_right _ (List.mem_append_left _ (List.mem_of_getElem? (i := 87) rfl)))) rfl, h.w (List.mem_append_right _ (List.mem_append_right _ (List.mem_append_left _ (List.mem_of_getElem? (i := 89) rfl)))) rfl, (h.w (List.mem_append_left _ (List.mem_of_getElem? (i := 5) (by decide +kernel))) rfl), h.w (List.mem_append_right _ (List.mem_append_left _ (List.mem_of_getElem? (i := 5) rfl))) rfl, fun a U hW => wk_at hW rfl (h.w (a := #[]) (List.mem_append_right _ (List.mem_append_right _ (List.mem_append_left _ (List.mem_of_getElem? (i := 90) rfl)))) rfl)⟩
theorem cw_T_84 (h : KK l G s) : LkV s args R_T R_T 84 y_T_countBehind cc_T_countBehind 3 none 0 := ⟨⟨by decide +kernel, by decide +kernel, by decide +kernel⟩, h.w (List.mem_append_right _ (List.mem_append_right _ (List.mem_append_right _ (List.mem_append_left _ (List.mem_of_getElem? (i := 115) rfl))))) rfl, h.w (List.mem_append_right _ (List.mem_append_right _ (List.mem_append_right _ (List.mem_append_left _ (List.mem_of_getElem? (i := 117) rfl))))) rfl, (h.w (List.mem_append_left _ (List.mem_of_getElem? (i := 16) (by decide +kernel))) rfl), h.w (List.mem_append_right _ (List.mem_append_left _ (List.mem_of_getElem? (i := 5) rfl))) rfl, fun a U hW => wk_at hW rfl (h.w (a := #[]) (List.mem_append_right _ (List.mem_append_right _ (List.mem_append_right _ (List.mem_append_left _ (List.mem_of_getElem? (i := 118) rfl))))) rfl)⟩
theorem cw_T_90 (h : KK l G s) : LkV s args R_T R_T 90 y_T_aheadWithOneOf cc_T_aheadWithOneOf 7 (some .long) 2 := ⟨⟨by decide +kernel, by decide +kernel, by decide +kernel⟩, h.w (List.mem_append_right _ (List.mem_append_right _ (List.mem_append_right _ (List.mem_append_left _ (List.mem_of_getElem? (i := 126) rfl))))) rfl, h.w (List.mem_append_right _ (List.mem_append_right _ (List.mem_append_right _ (List.mem_append_left _ (List.mem_of_getElem? (i := 128) rfl))))) rfl, (h.w (List.mem_append_left _ (List.mem_of_getElem? (i := 18) (by decide +kernel))) rfl), h.w (List.mem_append_right _ (List.mem_append_left _ (List.mem_of_getElem? (i := 5) rfl))) rfl, fun a U hW => wk_at hW rfl (h.w (a := #[]) (List.mem_append_right _ (List.mem_append_right _ (List.mem_append_right _ (List.mem_append_left _ (List.mem_of_getElem? (i := 129) rfl))))) rfl)⟩
theorem cw_T_97 (h : KK l G s) : LkS s args R_T 97 y_T_oneMoreOf cc_T_oneMoreOf 4 (some .long) 1 := ⟨⟨by decide +kernel, by decide +kernel, by decide +kernel⟩, h.w (List.mem_append_right _ (List.mem_append_right _ (List.mem_append_left _ (List.mem_of_getElem? (i := 69) rfl)))) rfl, h.w (List.mem_append_right _ (List.mem_append_right _ (List.mem_append_left _ (List.mem_of_getElem? (i := 70) rfl)))) rfl, h.w (List.mem_append_right _ (List.mem_append_left _ (List.mem_of_getElem? (i := 5) rfl))) rfl, fun a U hW => wk_at hW rfl (h.w (a := #[]) (List.mem_append_right _ (List.mem_append_right _ (List.mem_append_left _ (List.mem_of_getElem? (i := 71) rfl)))) rfl)⟩
theorem cw_T_101 (h : KK l G s) : LkV s args R_T R_T 101 y_T_takesFrom cc_T_takesFrom 9 (some .int) 4 := ⟨⟨by decide +kernel, by decide +kernel, by decide +kernel⟩, h.w (List.mem_append_right _ (List.mem_append_right _ (List.mem_append_left _ (List.mem_of_getElem? (i := 79) rfl)))) rfl, h.w (List.mem_append_right _ (List.mem_append_right _ (List.mem_append_left _ (List.mem_of_getElem? (i := 81) rfl)))) rfl, (h.w (List.mem_append_left _ (List.mem_of_getElem? (i := 4) (by decide +kernel))) rfl), h.w (List.mem_append_right _ (List.mem_append_left _ (List.mem_of_getElem? (i := 5) rfl))) rfl, fun a U hW => wk_at hW rfl (h.w (a := #[]) (List.mem_append_right _ (List.mem_append_right _ (List.mem_append_left _ (List.mem_of_getElem? (i := 82) rfl)))) rfl)⟩
theorem cw_T_107 (h : KK l G s) : LkS s args R_T 107 y_T_field cc_T_field 3 (some .int) 2 := ⟨⟨by decide +kernel, by decide +kernel, by decide +kernel⟩, h.w (List.mem_append_right _ (List.mem_append_right _ (List.mem_append_left _ (List.mem_of_getElem? (i := 83) rfl)))) rfl, h.w (List.mem_append_right _ (List.mem_append_right _ (List.mem_append_left _ (List.mem_of_getElem? (i := 84) rfl)))) rfl, h.w (List.mem_append_right _ (List.mem_append_left _ (List.mem_of_getElem? (i := 5) rfl))) rfl, fun a U hW => wk_at hW rfl (h.w (a := #[]) (List.mem_append_right _ (List.mem_append_right _ (List.mem_append_left _ (List.mem_of_getElem? (i := 85) rfl)))) rfl)⟩
theorem cw_T_111 (h : KK l G s) : LkS s args R_T 111 y_P_valueIn cc_P_valueIn 2 (some .int) 2 := ⟨⟨by decide +kernel, by decide +kernel, by decide +kernel⟩, h.w (List.mem_append_right _ (List.mem_append_right _ (List.mem_append_left _ (List.mem_of_getElem? (i := 73) rfl)))) rfl, h.w (List.mem_append_right _ (List.mem_append_right _ (List.mem_append_left _ (List.mem_of_getElem? (i := 74) rfl)))) rfl, h.w (List.mem_append_right _ (List.mem_append_left _ (List.mem_of_getElem? (i := 2) rfl))) rfl, fun a U hW => wk_at hW rfl (h.w (a := #[]) (List.mem_append_right _ (List.mem_append_right _ (List.mem_append_left _ (List.mem_of_getElem? (i := 75) rfl)))) rfl)⟩
theorem cw_T_114 (h : KK l G s) : LkSN s args R_T "PanelOffice" 114 y_O_quotaOf cc_O_quotaOf 2 (some .int) 2 := ⟨⟨by decide +kernel, by decide +kernel, by decide +kernel⟩, h.w (List.mem_append_right _ (List.mem_append_right _ (List.mem_append_left _ (List.mem_of_getElem? (i := 76) rfl)))) rfl, h.w (List.mem_append_right _ (List.mem_append_right _ (List.mem_append_left _ (List.mem_of_getElem? (i := 77) rfl)))) rfl, h.w (List.mem_append_right _ (List.mem_append_left _ (List.mem_of_getElem? (i := 1) rfl))) rfl, fun a U hW => wk_at hW rfl (h.w (a := #[]) (List.mem_append_right _ (List.mem_append_right _ (List.mem_append_left _ (List.mem_of_getElem? (i := 78) rfl)))) rfl)⟩
theorem cw_T_126 (h : KK l G s) : LkV s args R_T R_T 126 y_T_enter cc_T_enter 4 (some .int) 2 := ⟨⟨by decide +kernel, by decide +kernel, by decide +kernel⟩, h.w (List.mem_append_right _ (List.mem_append_right _ (List.mem_append_left _ (List.mem_of_getElem? (i := 61) rfl)))) rfl, h.w (List.mem_append_right _ (List.mem_append_right _ (List.mem_append_left _ (List.mem_of_getElem? (i := 63) rfl)))) rfl, (h.w (List.mem_append_left _ (List.mem_of_getElem? (i := 2) (by decide +kernel))) rfl), h.w (List.mem_append_right _ (List.mem_append_left _ (List.mem_of_getElem? (i := 5) rfl))) rfl, fun a U hW => wk_at hW rfl (h.w (a := #[]) (List.mem_append_right _ (List.mem_append_right _ (List.mem_append_left _ (List.mem_of_getElem? (i := 64) rfl)))) rfl)⟩
theorem cw_T_129 (h : KK l G s) : LkV s args R_T R_T 129 y_T_isPanel cc_T_isPanel 9 (some .boolean) 3 := ⟨⟨by decide +kernel, by decide +kernel, by decide +kernel⟩, h.w (List.mem_append_right _ (List.mem_append_right _ (List.mem_append_left _ (List.mem_of_getElem? (i := 91) rfl)))) rfl, h.w (List.mem_append_right _ (List.mem_append_right _ (List.mem_append_left _ (List.mem_of_getElem? (i := 93) rfl)))) rfl, (h.w (List.mem_append_left _ (List.mem_of_getElem? (i := 6) (by decide +kernel))) rfl), h.w (List.mem_append_right _ (List.mem_append_left _ (List.mem_of_getElem? (i := 5) rfl))) rfl, fun a U hW => wk_at hW rfl (h.w (a := #[]) (List.mem_append_right _ (List.mem_append_right _ (List.mem_append_left _ (List.mem_of_getElem? (i := 94) rfl)))) rfl)⟩
theorem cw_T_133 (h : KK l G s) : LkV s args R_T R_T 133 y_T_aheadWithAny cc_T_aheadWithAny 7 (some .long) 2 := ⟨⟨by decide +kernel, by decide +kernel, by decide +kernel⟩, h.w (List.mem_append_right _ (List.mem_append_right _ (List.mem_append_left _ (List.mem_of_getElem? (i := 95) rfl)))) rfl, h.w (List.mem_append_right _ (List.mem_append_right _ (List.mem_append_left _ (List.mem_of_getElem? (i := 97) rfl)))) rfl, (h.w (List.mem_append_left _ (List.mem_of_getElem? (i := 7) (by decide +kernel))) rfl), h.w (List.mem_append_right _ (List.mem_append_left _ (List.mem_of_getElem? (i := 5) rfl))) rfl, fun a U hW => wk_at hW rfl (h.w (a := #[]) (List.mem_append_right _ (List.mem_append_right _ (List.mem_append_left _ (List.mem_of_getElem? (i := 98) rfl)))) rfl)⟩
theorem cw_T_142 (h : KK l G s) : LkV s args R_T R_T 142 y_T_choose cc_T_choose 3 (some .long) 2 := ⟨⟨by decide +kernel, by decide +kernel, by decide +kernel⟩, h.w (List.mem_append_right _ (List.mem_append_right _ (List.mem_append_left _ (List.mem_of_getElem? (i := 99) rfl)))) rfl, h.w (List.mem_append_right _ (List.mem_append_right _ (List.mem_append_left _ (List.mem_of_getElem? (i := 100) rfl)))) rfl, (h.w (List.mem_append_right _ (List.mem_append_right _ (List.mem_append_left _ (List.mem_of_getElem? (i := 101) rfl)))) rfl), h.w (List.mem_append_right _ (List.mem_append_left _ (List.mem_of_getElem? (i := 5) rfl))) rfl, fun a U hW => wk_at hW rfl (h.w (a := #[]) (List.mem_append_right _ (List.mem_append_right _ (List.mem_append_left _ (List.mem_of_getElem? (i := 102) rfl)))) rfl)⟩
theorem cw_T_145 (h : KK l G s) : LkS s args R_T 145 y_A_fill0 cc_A_fill0 5 none 2 := ⟨⟨by decide +kernel, by decide +kernel, by decide +kernel⟩, h.w (List.mem_append_right _ (List.mem_append_right _ (List.mem_append_right _ (List.mem_append_left _ (List.mem_of_getElem? (i := 119) rfl))))) rfl, h.w (List.mem_append_right _ (List.mem_append_right _ (List.mem_append_right _ (List.mem_append_left _ (List.mem_of_getElem? (i := 120) rfl))))) rfl, h.w (List.mem_append_right _ (List.mem_append_left _ (List.mem_of_getElem? (i := 4) rfl))) rfl, fun a U hW => wk_at hW rfl (h.w (a := #[]) (List.mem_append_right _ (List.mem_append_right _ (List.mem_append_right _ (List.mem_append_left _ (List.mem_of_getElem? (i := 121) rfl))))) rfl)⟩
theorem cw_T_148 (h : KK l G s) : LkV s args R_T R_T 148 y_T_passOn cc_T_passOn 5 none 2 := ⟨⟨by decide +kernel, by decide +kernel, by decide +kernel⟩, h.w (List.mem_append_right _ (List.mem_append_right _ (List.mem_append_right _ (List.mem_append_left _ (List.mem_of_getElem? (i := 122) rfl))))) rfl, h.w (List.mem_append_right _ (List.mem_append_right _ (List.mem_append_right _ (List.mem_append_left _ (List.mem_of_getElem? (i := 124) rfl))))) rfl, (h.w (List.mem_append_left _ (List.mem_of_getElem? (i := 17) (by decide +kernel))) rfl), h.w (List.mem_append_right _ (List.mem_append_left _ (List.mem_of_getElem? (i := 5) rfl))) rfl, fun a U hW => wk_at hW rfl (h.w (a := #[]) (List.mem_append_right _ (List.mem_append_right _ (List.mem_append_right _ (List.mem_append_left _ (List.mem_of_getElem? (i := 125) rfl))))) rfl)⟩
end Links
end
section
section Links
variable {l : Launch} {G : GG} {s : State} {args : Array Value}
theorem lk_D_38 (h : KK l G s) : (Cond.methodLink R_D 38 Lib.MathLoose.max_long.x).before args s = true := h.w (List.mem_append_right _ (List.mem_append_right _ (List.mem_append_right _ (List.mem_append_right _ (List.mem_append_left _ (List.mem_of_getElem? (i := 57) rfl)))))) rfl
theorem lk_P_41 (h : KK l G s) : (Cond.methodLink R_P 41 Lib.Math.max.name).before args s = true := h.w (List.mem_append_right _ (List.mem_append_right _ (List.mem_append_left _ (List.mem_of_getElem? (i := 150) rfl)))) rfl
theorem lk_Q_28 (h : KK l G s) : (Cond.methodLink R_Q 28 Lib.Math.max.name).before args s = true := h.w (List.mem_append_right _ (List.mem_append_right _ (List.mem_append_right _ (List.mem_append_right _ (List.mem_append_left _ (List.mem_of_getElem? (i := 51) rfl)))))) rfl
theorem lk_R_46 (h : KK l G s) : (Cond.methodLink R_R 46 Lib.MathLoose.max_long.x).before args s = true := h.w (List.mem_append_right _ (List.mem_append_right _ (List.mem_append_right _ (List.mem_append_left _ (List.mem_of_getElem? (i := 200) rfl))))) rfl
theorem lk_S_43 (h : KK l G s) : (Cond.methodLink R_S 43 Lib.Math.min.name).before args s = true := h.w (List.mem_append_right _ (List.mem_append_right _ (List.mem_append_right _ (List.mem_append_right _ (List.mem_append_left _ (List.mem_of_getElem? (i := 110) rfl)))))) rfl
theorem lk_S_64 (h : KK l G s) : (Cond.methodLink R_S 64 Lib.MathLoose.min_long.x).before args s = true := h.w (List.mem_append_right _ (List.mem_append_right _ (List.mem_append_right _ (List.mem_append_right _ (List.mem_append_left _ (List.mem_of_getElem? (i := 170) rfl)))))) rfl
theorem lk_S_67 (h : KK l G s) : (Cond.methodLink R_S 67 Lib.MathLoose.max_long.x).before args s = true := h.w (List.mem_append_right _ (List.mem_append_right _ (List.mem_append_right _ (List.mem_append_right _ (List.mem_append_left _ (List.mem_of_getElem? (i := 173) rfl)))))) rfl
theorem lk_T_55 (h : KK l G s) : (Cond.methodLink R_T 55 Lib.Math.min.name).before args s = true := h.w (List.mem_append_right _ (List.mem_append_left _ (List.mem_of_getElem? (i := 93) rfl))) rfl
theorem ms_ini (h : KK l G s) : (Cond.initialized "java/lang/Math").before args s = true := h.w (List.mem_append_right _ (List.mem_append_left _ (List.mem_of_getElem? (i := 6) rfl))) rfl
theorem ms_maxI (h : KK l G s) : (Cond.static Lib.Math.max.name).before args s = true := h.w (List.mem_append_right _ (List.mem_append_right _ (List.mem_append_left _ (List.mem_of_getElem? (i := 151) rfl)))) rfl
theorem mc_maxI (h : KK l G s) : (Cond.code Lib.Math.max.name Lib.Math.max.code 2 (some .int)).before args s = true := h.w (List.mem_append_right _ (List.mem_append_right _ (List.mem_append_left _ (List.mem_of_getElem? (i := 152) rfl)))) rfl
theorem ms_maxL (h : KK l G s) : (Cond.static Lib.MathLoose.max_long.x).before args s = true := h.w (List.mem_append_right _ (List.mem_append_right _ (List.mem_append_right _ (List.mem_append_left _ (List.mem_of_getElem? (i := 201) rfl))))) rfl
theorem mc_maxL (h : KK l G s) : (Cond.code Lib.MathLoose.max_long.x Lib.MathLoose.max_long.code 4 (some .long)).before args s = true := h.w (List.mem_append_right _ (List.mem_append_right _ (List.mem_append_right _ (List.mem_append_left _ (List.mem_of_getElem? (i := 202) rfl))))) rfl
theorem ms_minI (h : KK l G s) : (Cond.static Lib.Math.min.name).before args s = true := h.w (List.mem_append_right _ (List.mem_append_left _ (List.mem_of_getElem? (i := 94) rfl))) rfl
theorem mc_minI (h : KK l G s) : (Cond.code Lib.Math.min.name Lib.Math.min.code 2 (some .int)).before args s = true := h.w (List.mem_append_right _ (List.mem_append_left _ (List.mem_of_getElem? (i := 95) rfl))) rfl
theorem ms_minL (h : KK l G s) : (Cond.static Lib.MathLoose.min_long.x).before args s = true := h.w (List.mem_append_right _ (List.mem_append_right _ (List.mem_append_right _ (List.mem_append_right _ (List.mem_append_left _ (List.mem_of_getElem? (i := 171) rfl)))))) rfl
theorem mc_minL (h : KK l G s) : (Cond.code Lib.MathLoose.min_long.x Lib.MathLoose.min_long.code 4 (some .long)).before args s = true := h.w (List.mem_append_right _ (List.mem_append_right _ (List.mem_append_right _ (List.mem_append_right _ (List.mem_append_left _ (List.mem_of_getElem? (i := 172) rfl)))))) rfl
def xnm : List String := ["java/lang/RuntimeException", "java/lang/Exception"]
theorem oad_O_0 : ∀ w ∈ Bundle.ownAtoms R_O 91 "java/lang/IllegalArgumentException" xnm, (w ∈ lw_tbl ∧ wk w = true) ∨ w = .laysStatic Bundle.tN "UNASSIGNED_STACK" Bundle.steD ∨ w = .laysStatic Bundle.tN "SUPPRESSED_SENTINEL" Bundle.listD ∨ w = .isRef (.static Bundle.tN "UNASSIGNED_STACK" Bundle.steD) ∨ w = .isRef (.static Bundle.tN "SUPPRESSED_SENTINEL" Bundle.listD) := by decide +kernel
theorem oa_O_0 (h : KK l G s) : ∀ w ∈ Bundle.ownAtoms R_O 91 "java/lang/IllegalArgumentException" xnm, w.before args s = true := by
  intro w hw
  rcases oad_O_0 w hw with ⟨h1, h2⟩ | rfl | rfl | rfl | rfl
  · exact h.w h1 h2
  · exact h.2.2.1.1.2
  · exact h.2.2.1.2.2
  · exact xs_ref h.2.2.1.1
  · exact xs_ref h.2.2.1.2
theorem oad_O_1 : ∀ w ∈ Bundle.ownAtoms R_O 121 "java/lang/IllegalStateException" xnm, (w ∈ lw_tbl ∧ wk w = true) ∨ w = .laysStatic Bundle.tN "UNASSIGNED_STACK" Bundle.steD ∨ w = .laysStatic Bundle.tN "SUPPRESSED_SENTINEL" Bundle.listD ∨ w = .isRef (.static Bundle.tN "UNASSIGNED_STACK" Bundle.steD) ∨ w = .isRef (.static Bundle.tN "SUPPRESSED_SENTINEL" Bundle.listD) := by decide +kernel
theorem oa_O_1 (h : KK l G s) : ∀ w ∈ Bundle.ownAtoms R_O 121 "java/lang/IllegalStateException" xnm, w.before args s = true := by
  intro w hw
  rcases oad_O_1 w hw with ⟨h1, h2⟩ | rfl | rfl | rfl | rfl
  · exact h.w h1 h2
  · exact h.2.2.1.1.2
  · exact h.2.2.1.2.2
  · exact xs_ref h.2.2.1.1
  · exact xs_ref h.2.2.1.2
theorem oad_O_2 : ∀ w ∈ xt_atoms R_O 206 "java/util/NoSuchElementException" "java/lang/RuntimeException" ["java/lang/Exception"] 13 prog_20_method_4_code, (w ∈ lw_tbl ∧ wk w = true) ∨ w = .laysStatic Bundle.tN "UNASSIGNED_STACK" Bundle.steD ∨ w = .laysStatic Bundle.tN "SUPPRESSED_SENTINEL" Bundle.listD ∨ w = .isRef (.static Bundle.tN "UNASSIGNED_STACK" Bundle.steD) ∨ w = .isRef (.static Bundle.tN "SUPPRESSED_SENTINEL" Bundle.listD) := by decide +kernel
theorem oa_O_2 (h : KK l G s) : ∀ w ∈ xt_atoms R_O 206 "java/util/NoSuchElementException" "java/lang/RuntimeException" ["java/lang/Exception"] 13 prog_20_method_4_code, w.before args s = true := by
  intro w hw
  rcases oad_O_2 w hw with ⟨h1, h2⟩ | rfl | rfl | rfl | rfl
  · exact h.w h1 h2
  · exact h.2.2.1.1.2
  · exact h.2.2.1.2.2
  · exact xs_ref h.2.2.1.1
  · exact xs_ref h.2.2.1.2
theorem oad_O_3 : ∀ w ∈ Bundle.ownAtoms R_O 181 "java/lang/UnsupportedOperationException" xnm, (w ∈ lw_tbl ∧ wk w = true) ∨ w = .laysStatic Bundle.tN "UNASSIGNED_STACK" Bundle.steD ∨ w = .laysStatic Bundle.tN "SUPPRESSED_SENTINEL" Bundle.listD ∨ w = .isRef (.static Bundle.tN "UNASSIGNED_STACK" Bundle.steD) ∨ w = .isRef (.static Bundle.tN "SUPPRESSED_SENTINEL" Bundle.listD) := by decide +kernel
theorem oa_O_3 (h : KK l G s) : ∀ w ∈ Bundle.ownAtoms R_O 181 "java/lang/UnsupportedOperationException" xnm, w.before args s = true := by
  intro w hw
  rcases oad_O_3 w hw with ⟨h1, h2⟩ | rfl | rfl | rfl | rfl
  · exact h.w h1 h2
  · exact h.2.2.1.1.2
  · exact h.2.2.1.2.2
  · exact xs_ref h.2.2.1.1
  · exact xs_ref h.2.2.1.2
theorem lt_O_0_89 (h : KK l G s) : xt_Ok R_O "java/lang/IllegalArgumentException" "no such trait or number, or a person has a value beyond it" xnm 87 89 91 args s := ⟨h.w (List.mem_append_right _ (List.mem_append_right _ (List.mem_append_left _ (List.mem_of_getElem? (i := 153) rfl)))) rfl, h.w (List.mem_append_right _ (List.mem_append_right _ (List.mem_append_left _ (List.mem_of_getElem? (i := 154) rfl)))) rfl, h.w (List.mem_append_right _ (List.mem_append_left _ (List.mem_of_getElem? (i := 15) rfl))) rfl, Or.inl (oa_O_0 h), h.2.2.2.1 ("PanelOffice", 89, "no such trait or number, or a person has a value beyond it") (by decide +kernel)⟩
theorem lt_O_0_107 (h : KK l G s) : xt_Ok R_O "java/lang/IllegalArgumentException" "no such value" xnm 87 107 91 args s := ⟨h.w (List.mem_append_right _ (List.mem_append_right _ (List.mem_append_left _ (List.mem_of_getElem? (i := 153) rfl)))) rfl, h.w (List.mem_append_right _ (List.mem_append_right _ (List.mem_append_left _ (List.mem_of_getElem? (i := 154) rfl)))) rfl, h.w (List.mem_append_right _ (List.mem_append_left _ (List.mem_of_getElem? (i := 15) rfl))) rfl, Or.inl (oa_O_0 h), h.2.2.2.1 ("PanelOffice", 107, "no such value") (by decide +kernel)⟩
theorem lt_O_0_125 (h : KK l G s) : xt_Ok R_O "java/lang/IllegalArgumentException" "no such trait or value, or no such quota" xnm 87 125 91 args s := ⟨h.w (List.mem_append_right _ (List.mem_append_right _ (List.mem_append_left _ (List.mem_of_getElem? (i := 153) rfl)))) rfl, h.w (List.mem_append_right _ (List.mem_append_right _ (List.mem_append_left _ (List.mem_of_getElem? (i := 154) rfl)))) rfl, h.w (List.mem_append_right _ (List.mem_append_left _ (List.mem_of_getElem? (i := 15) rfl))) rfl, Or.inl (oa_O_0 h), h.2.2.2.1 ("PanelOffice", 125, "no such trait or value, or no such quota") (by decide +kernel)⟩
theorem lt_O_0_135 (h : KK l G s) : xt_Ok R_O "java/lang/IllegalArgumentException" "no such size" xnm 87 135 91 args s := ⟨h.w (List.mem_append_right _ (List.mem_append_right _ (List.mem_append_left _ (List.mem_of_getElem? (i := 153) rfl)))) rfl, h.w (List.mem_append_right _ (List.mem_append_right _ (List.mem_append_left _ (List.mem_of_getElem? (i := 154) rfl)))) rfl, h.w (List.mem_append_right _ (List.mem_append_left _ (List.mem_of_getElem? (i := 15) rfl))) rfl, Or.inl (oa_O_0 h), h.2.2.2.1 ("PanelOffice", 135, "no such size") (by decide +kernel)⟩
theorem lt_O_0_188 (h : KK l G s) : xt_Ok R_O "java/lang/IllegalArgumentException" "no panel has this rank" xnm 87 188 91 args s := ⟨h.w (List.mem_append_right _ (List.mem_append_right _ (List.mem_append_left _ (List.mem_of_getElem? (i := 153) rfl)))) rfl, h.w (List.mem_append_right _ (List.mem_append_right _ (List.mem_append_left _ (List.mem_of_getElem? (i := 154) rfl)))) rfl, h.w (List.mem_append_right _ (List.mem_append_left _ (List.mem_of_getElem? (i := 15) rfl))) rfl, Or.inl (oa_O_0 h), h.2.2.2.1 ("PanelOffice", 188, "no panel has this rank") (by decide +kernel)⟩
theorem lt_O_0_207 (h : KK l G s) : xt_Ok R_O "java/lang/IllegalArgumentException" "no such dice" xnm 87 207 91 args s := ⟨h.w (List.mem_append_right _ (List.mem_append_right _ (List.mem_append_left _ (List.mem_of_getElem? (i := 153) rfl)))) rfl, h.w (List.mem_append_right _ (List.mem_append_right _ (List.mem_append_left _ (List.mem_of_getElem? (i := 154) rfl)))) rfl, h.w (List.mem_append_right _ (List.mem_append_left _ (List.mem_of_getElem? (i := 15) rfl))) rfl, Or.inl (oa_O_0 h), h.2.2.2.1 ("PanelOffice", 207, "no such dice") (by decide +kernel)⟩
theorem lt_O_0_226 (h : KK l G s) : xt_Ok R_O "java/lang/IllegalArgumentException" "the dice have no such side" xnm 87 226 91 args s := ⟨h.w (List.mem_append_right _ (List.mem_append_right _ (List.mem_append_left _ (List.mem_of_getElem? (i := 153) rfl)))) rfl, h.w (List.mem_append_right _ (List.mem_append_right _ (List.mem_append_left _ (List.mem_of_getElem? (i := 154) rfl)))) rfl, h.w (List.mem_append_right _ (List.mem_append_left _ (List.mem_of_getElem? (i := 15) rfl))) rfl, Or.inl (oa_O_0 h), h.2.2.2.1 ("PanelOffice", 226, "the dice have no such side") (by decide +kernel)⟩
theorem lt_O_0_303 (h : KK l G s) : xt_Ok R_O "java/lang/IllegalArgumentException" "no such person" xnm 87 303 91 args s := ⟨h.w (List.mem_append_right _ (List.mem_append_right _ (List.mem_append_left _ (List.mem_of_getElem? (i := 153) rfl)))) rfl, h.w (List.mem_append_right _ (List.mem_append_right _ (List.mem_append_left _ (List.mem_of_getElem? (i := 154) rfl)))) rfl, h.w (List.mem_append_right _ (List.mem_append_left _ (List.mem_of_getElem? (i := 15) rfl))) rfl, Or.inl (oa_O_0 h), h.2.2.2.1 ("PanelOffice", 303, "no such person") (by decide +kernel)⟩
theorem lt_O_0_305 (h : KK l G s) : xt_Ok R_O "java/lang/IllegalArgumentException" "a panel has no such place" xnm 87 305 91 args s := ⟨h.w (List.mem_append_right _ (List.mem_append_right _ (List.mem_append_left _ (List.mem_of_getElem? (i := 153) rfl)))) rfl, h.w (List.mem_append_right _ (List.mem_append_right _ (List.mem_append_left _ (List.mem_of_getElem? (i := 154) rfl)))) rfl, h.w (List.mem_append_right _ (List.mem_append_left _ (List.mem_of_getElem? (i := 15) rfl))) rfl, Or.inl (oa_O_0 h), h.2.2.2.1 ("PanelOffice", 305, "a panel has no such place") (by decide +kernel)⟩
theorem lt_O_0_307 (h : KK l G s) : xt_Ok R_O "java/lang/IllegalArgumentException" "below 0" xnm 87 307 91 args s := ⟨h.w (List.mem_append_right _ (List.mem_append_right _ (List.mem_append_left _ (List.mem_of_getElem? (i := 153) rfl)))) rfl, h.w (List.mem_append_right _ (List.mem_append_right _ (List.mem_append_left _ (List.mem_of_getElem? (i := 154) rfl)))) rfl, h.w (List.mem_append_right _ (List.mem_append_left _ (List.mem_of_getElem? (i := 15) rfl))) rfl, Or.inl (oa_O_0 h), h.2.2.2.1 ("PanelOffice", 307, "below 0") (by decide +kernel)⟩
theorem lt_O_1_119 (h : KK l G s) : xt_Ok R_O "java/lang/IllegalStateException" "too many persons or kinds" xnm 117 119 121 args s := ⟨h.w (List.mem_append_right _ (List.mem_append_right _ (List.mem_append_left _ (List.mem_of_getElem? (i := 230) rfl)))) rfl, h.w (List.mem_append_right _ (List.mem_append_right _ (List.mem_append_left _ (List.mem_of_getElem? (i := 231) rfl)))) rfl, h.w (List.mem_append_right _ (List.mem_append_left _ (List.mem_of_getElem? (i := 16) rfl))) rfl, Or.inl (oa_O_1 h), h.2.2.2.1 ("PanelOffice", 119, "too many persons or kinds") (by decide +kernel)⟩
theorem lt_O_1_212 (h : KK l G s) : xt_Ok R_O "java/lang/IllegalStateException" "there is nothing to draw from" xnm 117 212 121 args s := ⟨h.w (List.mem_append_right _ (List.mem_append_right _ (List.mem_append_left _ (List.mem_of_getElem? (i := 230) rfl)))) rfl, h.w (List.mem_append_right _ (List.mem_append_right _ (List.mem_append_left _ (List.mem_of_getElem? (i := 231) rfl)))) rfl, h.w (List.mem_append_right _ (List.mem_append_left _ (List.mem_of_getElem? (i := 16) rfl))) rfl, Or.inl (oa_O_1 h), h.2.2.2.1 ("PanelOffice", 212, "there is nothing to draw from") (by decide +kernel)⟩
theorem lt_O_1_221 (h : KK l G s) : xt_Ok R_O "java/lang/IllegalStateException" "no throw is due" xnm 117 221 121 args s := ⟨h.w (List.mem_append_right _ (List.mem_append_right _ (List.mem_append_left _ (List.mem_of_getElem? (i := 230) rfl)))) rfl, h.w (List.mem_append_right _ (List.mem_append_right _ (List.mem_append_left _ (List.mem_of_getElem? (i := 231) rfl)))) rfl, h.w (List.mem_append_right _ (List.mem_append_left _ (List.mem_of_getElem? (i := 16) rfl))) rfl, Or.inl (oa_O_1 h), h.2.2.2.1 ("PanelOffice", 221, "no throw is due") (by decide +kernel)⟩
theorem lt_O_1_234 (h : KK l G s) : xt_Ok R_O "java/lang/IllegalStateException" "there is no number" xnm 117 234 121 args s := ⟨h.w (List.mem_append_right _ (List.mem_append_right _ (List.mem_append_left _ (List.mem_of_getElem? (i := 230) rfl)))) rfl, h.w (List.mem_append_right _ (List.mem_append_right _ (List.mem_append_left _ (List.mem_of_getElem? (i := 231) rfl)))) rfl, h.w (List.mem_append_right _ (List.mem_append_left _ (List.mem_of_getElem? (i := 16) rfl))) rfl, Or.inl (oa_O_1 h), h.2.2.2.1 ("PanelOffice", 234, "there is no number") (by decide +kernel)⟩
theorem lt_O_1_258 (h : KK l G s) : xt_Ok R_O "java/lang/IllegalStateException" "a place is empty already" xnm 117 258 121 args s := ⟨h.w (List.mem_append_right _ (List.mem_append_right _ (List.mem_append_left _ (List.mem_of_getElem? (i := 230) rfl)))) rfl, h.w (List.mem_append_right _ (List.mem_append_right _ (List.mem_append_left _ (List.mem_of_getElem? (i := 231) rfl)))) rfl, h.w (List.mem_append_right _ (List.mem_append_left _ (List.mem_of_getElem? (i := 16) rfl))) rfl, Or.inl (oa_O_1 h), h.2.2.2.1 ("PanelOffice", 258, "a place is empty already") (by decide +kernel)⟩
theorem lt_O_1_274 (h : KK l G s) : xt_Ok R_O "java/lang/IllegalStateException" "no place is empty" xnm 117 274 121 args s := ⟨h.w (List.mem_append_right _ (List.mem_append_right _ (List.mem_append_left _ (List.mem_of_getElem? (i := 230) rfl)))) rfl, h.w (List.mem_append_right _ (List.mem_append_right _ (List.mem_append_left _ (List.mem_of_getElem? (i := 231) rfl)))) rfl, h.w (List.mem_append_right _ (List.mem_append_left _ (List.mem_of_getElem? (i := 16) rfl))) rfl, Or.inl (oa_O_1 h), h.2.2.2.1 ("PanelOffice", 274, "no place is empty") (by decide +kernel)⟩
theorem lt_O_1_294 (h : KK l G s) : xt_Ok R_O "java/lang/IllegalStateException" "the panel is drawn" xnm 117 294 121 args s := ⟨h.w (List.mem_append_right _ (List.mem_append_right _ (List.mem_append_left _ (List.mem_of_getElem? (i := 230) rfl)))) rfl, h.w (List.mem_append_right _ (List.mem_append_right _ (List.mem_append_left _ (List.mem_of_getElem? (i := 231) rfl)))) rfl, h.w (List.mem_append_right _ (List.mem_append_left _ (List.mem_of_getElem? (i := 16) rfl))) rfl, Or.inl (oa_O_1 h), h.2.2.2.1 ("PanelOffice", 294, "the panel is drawn") (by decide +kernel)⟩
theorem lt_O_1_296 (h : KK l G s) : xt_Ok R_O "java/lang/IllegalStateException" "no panel is drawn" xnm 117 296 121 args s := ⟨h.w (List.mem_append_right _ (List.mem_append_right _ (List.mem_append_left _ (List.mem_of_getElem? (i := 230) rfl)))) rfl, h.w (List.mem_append_right _ (List.mem_append_right _ (List.mem_append_left _ (List.mem_of_getElem? (i := 231) rfl)))) rfl, h.w (List.mem_append_right _ (List.mem_append_left _ (List.mem_of_getElem? (i := 16) rfl))) rfl, Or.inl (oa_O_1 h), h.2.2.2.1 ("PanelOffice", 296, "no panel is drawn") (by decide +kernel)⟩
theorem lt_O_2_204 (h : KK l G s) : xt_Ok R_O "java/util/NoSuchElementException" "those marked are no panel" xnm 202 204 206 args s := ⟨h.w (List.mem_append_right _ (List.mem_append_right _ (List.mem_append_right _ (List.mem_append_left _ (List.mem_of_getElem? (i := 239) rfl))))) rfl, h.w (List.mem_append_right _ (List.mem_append_right _ (List.mem_append_right _ (List.mem_append_right _ (List.mem_append_left _ (List.mem_of_getElem? (i := 0) rfl)))))) rfl, h.w (List.mem_append_right _ (List.mem_append_left _ (List.mem_of_getElem? (i := 18) rfl))) rfl, Or.inr ⟨_, _, _, _, rfl, ⟨by decide +kernel, by decide +kernel, by decide +kernel, by decide +kernel⟩, oa_O_2 h⟩, h.2.2.2.1 ("PanelOffice", 204, "those marked are no panel") (by decide +kernel)⟩
theorem lt_O_2_234 (h : KK l G s) : xt_Ok R_O "java/util/NoSuchElementException" "there is no number" xnm 202 234 206 args s := ⟨h.w (List.mem_append_right _ (List.mem_append_right _ (List.mem_append_right _ (List.mem_append_left _ (List.mem_of_getElem? (i := 239) rfl))))) rfl, h.w (List.mem_append_right _ (List.mem_append_right _ (List.mem_append_right _ (List.mem_append_right _ (List.mem_append_left _ (List.mem_of_getElem? (i := 0) rfl)))))) rfl, h.w (List.mem_append_right _ (List.mem_append_left _ (List.mem_of_getElem? (i := 18) rfl))) rfl, Or.inr ⟨_, _, _, _, rfl, ⟨by decide +kernel, by decide +kernel, by decide +kernel, by decide +kernel⟩, oa_O_2 h⟩, h.2.2.2.1 ("PanelOffice", 234, "there is no number") (by decide +kernel)⟩
theorem lt_O_2_263 (h : KK l G s) : xt_Ok R_O "java/util/NoSuchElementException" "that is no member" xnm 202 263 206 args s := ⟨h.w (List.mem_append_right _ (List.mem_append_right _ (List.mem_append_right _ (List.mem_append_left _ (List.mem_of_getElem? (i := 239) rfl))))) rfl, h.w (List.mem_append_right _ (List.mem_append_right _ (List.mem_append_right _ (List.mem_append_right _ (List.mem_append_left _ (List.mem_of_getElem? (i := 0) rfl)))))) rfl, h.w (List.mem_append_right _ (List.mem_append_left _ (List.mem_of_getElem? (i := 18) rfl))) rfl, Or.inr ⟨_, _, _, _, rfl, ⟨by decide +kernel, by decide +kernel, by decide +kernel, by decide +kernel⟩, oa_O_2 h⟩, h.2.2.2.1 ("PanelOffice", 263, "that is no member") (by decide +kernel)⟩
theorem lt_O_3_179 (h : KK l G s) : xt_Ok R_O "java/lang/UnsupportedOperationException" "too many states without a quota" xnm 177 179 181 args s := ⟨h.w (List.mem_append_right _ (List.mem_append_right _ (List.mem_append_right _ (List.mem_append_left _ (List.mem_of_getElem? (i := 75) rfl))))) rfl, h.w (List.mem_append_right _ (List.mem_append_right _ (List.mem_append_right _ (List.mem_append_left _ (List.mem_of_getElem? (i := 76) rfl))))) rfl, h.w (List.mem_append_right _ (List.mem_append_left _ (List.mem_of_getElem? (i := 17) rfl))) rfl, Or.inl (oa_O_3 h), h.2.2.2.1 ("PanelOffice", 179, "too many states without a quota") (by decide +kernel)⟩
theorem lt_O_3_298 (h : KK l G s) : xt_Ok R_O "java/lang/UnsupportedOperationException" "too many states" xnm 177 298 181 args s := ⟨h.w (List.mem_append_right _ (List.mem_append_right _ (List.mem_append_right _ (List.mem_append_left _ (List.mem_of_getElem? (i := 75) rfl))))) rfl, h.w (List.mem_append_right _ (List.mem_append_right _ (List.mem_append_right _ (List.mem_append_left _ (List.mem_of_getElem? (i := 76) rfl))))) rfl, h.w (List.mem_append_right _ (List.mem_append_left _ (List.mem_of_getElem? (i := 17) rfl))) rfl, Or.inl (oa_O_3 h), h.2.2.2.1 ("PanelOffice", 298, "too many states") (by decide +kernel)⟩
theorem xk_s0 (h : KK l G s) : (Cond.castable "java/lang/IllegalArgumentException" "java/lang/IllegalArgumentException").before args s = true := h.w (List.mem_append_right _ (List.mem_append_right _ (List.mem_append_left _ (List.mem_of_getElem? (i := 155) rfl)))) rfl
theorem xk_i0 (h : KK l G s) : (Cond.instantiable "java/lang/IllegalArgumentException" 6).before args s = true := h.w (List.mem_append_right _ (List.mem_append_right _ (List.mem_append_left _ (List.mem_of_getElem? (i := 154) rfl)))) rfl
theorem xk_s1 (h : KK l G s) : (Cond.castable "java/lang/IllegalStateException" "java/lang/IllegalStateException").before args s = true := h.w (List.mem_append_right _ (List.mem_append_right _ (List.mem_append_left _ (List.mem_of_getElem? (i := 232) rfl)))) rfl
theorem xk_i1 (h : KK l G s) : (Cond.instantiable "java/lang/IllegalStateException" 6).before args s = true := h.w (List.mem_append_right _ (List.mem_append_right _ (List.mem_append_left _ (List.mem_of_getElem? (i := 231) rfl)))) rfl
theorem xk_s2 (h : KK l G s) : (Cond.castable "java/util/NoSuchElementException" "java/util/NoSuchElementException").before args s = true := h.w (List.mem_append_right _ (List.mem_append_right _ (List.mem_append_right _ (List.mem_append_right _ (List.mem_append_left _ (List.mem_of_getElem? (i := 1) rfl)))))) rfl
theorem xk_i2 (h : KK l G s) : (Cond.instantiable "java/util/NoSuchElementException" 6).before args s = true := h.w (List.mem_append_right _ (List.mem_append_right _ (List.mem_append_right _ (List.mem_append_right _ (List.mem_append_left _ (List.mem_of_getElem? (i := 0) rfl)))))) rfl
theorem xk_s3 (h : KK l G s) : (Cond.castable "java/lang/UnsupportedOperationException" "java/lang/UnsupportedOperationException").before args s = true := h.w (List.mem_append_right _ (List.mem_append_right _ (List.mem_append_right _ (List.mem_append_left _ (List.mem_of_getElem? (i := 77) rfl))))) rfl
theorem xk_i3 (h : KK l G s) : (Cond.instantiable "java/lang/UnsupportedOperationException" 6).before args s = true := h.w (List.mem_append_right _ (List.mem_append_right _ (List.mem_append_right _ (List.mem_append_left _ (List.mem_of_getElem? (i := 76) rfl))))) rfl
theorem xk_self (h : KK l G s) {k : Nat} (hk : k < 4) : (Cond.castable (xcn k) (xcn k)).before args s = true := by
  match k, hk with
  | 0, _ => exact xk_s0 h
  | 1, _ => exact xk_s1 h
  | 2, _ => exact xk_s2 h
  | 3, _ => exact xk_s3 h
theorem xk_inst (h : KK l G s) {k : Nat} (hk : k < 4) : (Cond.instantiable (xcn k) 6).before args s = true := by
  match k, hk with
  | 0, _ => exact xk_i0 h
  | 1, _ => exact xk_i1 h
  | 2, _ => exact xk_i2 h
  | 3, _ => exact xk_i3 h
end Links
end
section
/-! Rows over the world: Math, throws, calls of contracts with two ends. -/
section Throws12
variable {p : Program} {l : Launch} {e : Env} {R : Room} {s : State} {m : MethodId} {args : Array Value} {below : List Frame} {meth : Method} {c : Code} {H : Heap} {locs : List Loc} {Qg : State → Prop} {G : GG} {z : St} {cc cc' : ByteArray} {pc nL nL' n index : Nat} {ls : Array Slot} {rest As st0 : List Value} {own C host : String} {ret ret' : Option FieldType} {y : MethodName} {rm : Room} {b : Nat}
theorem ym_maxI {x y : Int32} (hx : p.tables.exec = Jvm.exec) (hb : c.code = cc) (hml : c.maxLocals = ls.size) (hown : s.vm.findClass own = some m.cls) (hE : KK l G s) (hlink : (Cond.methodLink own index Lib.Math.max.name).before args s = true) (hR : 1 ≤ R.frames ∧ 23 ≤ R.locals) (hw8 : Nat.ble ((rest.map fun v => v.category).sum) 8 = true) (hdg : decode cc pc = .ok (.invokestatic index, 3))
    (kk : W p l e R s m args below meth c H locs 0 0 Qg (F0 m (pc + 3) ls (.int (mmaxI x y) :: rest))) : W p l e R s m args below meth c H locs 0 0 Qg (F0 m pc ls (.int y :: .int x :: rest)) :=
  va_mmax hx hb hml hown hlink (ms_maxI hE) (ms_ini hE) (mc_maxI hE) hR.1 (by have h := Nat.le_of_ble_eq_true hw8; omega) (Nat.zero_le _) (Nat.zero_le _) hdg kk
theorem ym_minI {x y : Int32} (hx : p.tables.exec = Jvm.exec) (hb : c.code = cc) (hml : c.maxLocals = ls.size) (hown : s.vm.findClass own = some m.cls) (hE : KK l G s) (hlink : (Cond.methodLink own index Lib.Math.min.name).before args s = true) (hR : 1 ≤ R.frames ∧ 23 ≤ R.locals) (hw8 : Nat.ble ((rest.map fun v => v.category).sum) 8 = true) (hdg : decode cc pc = .ok (.invokestatic index, 3))
    (kk : W p l e R s m args below meth c H locs 0 0 Qg (F0 m (pc + 3) ls (.int (mminI x y) :: rest))) : W p l e R s m args below meth c H locs 0 0 Qg (F0 m pc ls (.int y :: .int x :: rest)) :=
  va_mmin hx hb hml hown hlink (ms_minI hE) (ms_ini hE) (mc_minI hE) hR.1 (by have h := Nat.le_of_ble_eq_true hw8; omega) (Nat.zero_le _) (Nat.zero_le _) hdg kk
theorem ym_maxL {x y : Int64} (hx : p.tables.exec = Jvm.exec) (hb : c.code = cc) (hml : c.maxLocals = ls.size) (hown : s.vm.findClass own = some m.cls) (hE : KK l G s) (hlink : (Cond.methodLink own index Lib.MathLoose.max_long.x).before args s = true) (hR : 1 ≤ R.frames ∧ 23 ≤ R.locals) (hw8 : Nat.ble ((rest.map fun v => v.category).sum) 8 = true) (hdg : decode cc pc = .ok (.invokestatic index, 3))
    (kk : W p l e R s m args below meth c H locs 0 0 Qg (F0 m (pc + 3) ls (.long (mmaxL x y) :: rest))) : W p l e R s m args below meth c H locs 0 0 Qg (F0 m pc ls (.long y :: .long x :: rest)) :=
  va_mmax_long hx hb hml hown hlink (ms_maxL hE) (ms_ini hE) (mc_maxL hE) hR.1 (by have h := Nat.le_of_ble_eq_true hw8; omega) (Nat.zero_le _) (Nat.zero_le _) hdg kk
theorem ym_minL {x y : Int64} (hx : p.tables.exec = Jvm.exec) (hb : c.code = cc) (hml : c.maxLocals = ls.size) (hown : s.vm.findClass own = some m.cls) (hE : KK l G s) (hlink : (Cond.methodLink own index Lib.MathLoose.min_long.x).before args s = true) (hR : 1 ≤ R.frames ∧ 23 ≤ R.locals) (hw8 : Nat.ble ((rest.map fun v => v.category).sum) 8 = true) (hdg : decode cc pc = .ok (.invokestatic index, 3))
    (kk : W p l e R s m args below meth c H locs 0 0 Qg (F0 m (pc + 3) ls (.long (mminL x y) :: rest))) : W p l e R s m args below meth c H locs 0 0 Qg (F0 m pc ls (.long y :: .long x :: rest)) :=
  va_mmin_long hx hb hml hown hlink (ms_minL hE) (ms_ini hE) (mc_minL hE) hR.1 (by have h := Nat.le_of_ble_eq_true hw8; omega) (Nat.zero_le _) (Nat.zero_le _) hdg kk
/-- a call over a heavier stack than the kit's rows take -/
theorem yVw {Qc : Array Value → State → Outcome → State → Prop} (wt : Nat) (E : En p l s m meth c args cc nL own ret G) (hM : Met l y [Cond.code y cc' nL' ret'] rm (va_Pc (.ref b :: As) (IW l G z)) Qc 0 0 (fr G)) (cw : LkV s args own C index y cc' nL' ret' n)
    (hrv : ∃ cellB : Cell, H[b]? = some cellB ∧ cellB.vm.isStatics = false ∧ s.vm.findClass C = some cellB.cls) (hR : rm.cells = 0 ∧ rm.slots = 0 ∧ rm.frames + 1 ≤ R.frames ∧ wt + (nL' + 11) + rm.locals ≤ R.locals) (hW : Wd G z s.heap H locs) (hsz : ls.size = nL) (hn : As.length = n) (hst : st0 = As.reverse ++ .ref b :: rest) (hw8 : Nat.ble ((rest.map fun v => v.category).sum) wt = true) (hdg : decode cc pc = .ok (.invokevirtual index, 3)) :
    va_Run p l e R s m args below meth c H locs 0 0 0 0 (F0 m pc ls st0) rest (Qc (Value.ref b :: As).toArray) (fr G) := by
  obtain ⟨hx, hb, hml, hown, -, -, -, hE⟩ := E
  obtain ⟨⟨c1, c2, c3⟩, c4, c5, c6, c7, c8⟩ := cw
  have hws : ∀ w ∈ [Cond.code y cc' nL' ret'], ∀ (a' : Array Value) (U : State), s.WarmedH U.vm → w.before a' U = true := by
    intro w hw a' U hU
    rw [List.mem_singleton.mp hw]
    exact c8 a' U hU
  have hK : Back l R p e below s args y 3 wt (PreOf R 0 0 (va_Pc (.ref b :: As) (IW l G z))) (PostOf Qc 0 0 (fr G)) := back_of (bytes := cc') (maxL := nL') (ret := ret') hM iw_blind hR.1 hR.2.1 hR.2.2.1 hR.2.2.2 hws List.mem_cons_self (fun a' U hU => wk_at hU rfl c7)
  obtain ⟨cellB, hcB, hoB, hclB⟩ := hrv
  intro T hT X
  obtain ⟨v, vm₁, ⟨U', l2, k2, s2⟩, hW₁, X', ⟨g', mk, t, L, e1, e2, hq, h1, hL, h2, h3⟩, st⟩ := callV X hx (C := C) (bytes := cc') (maxL := nL') (ret := ret') hown c4 c5 c6 (c8 _ _ (State.WarmedH.refl s)) ⟨c1, c2⟩ hK (by rw [hT]; exact hcB) hoB hclB (g := F0 m pc ls st0) rfl (hsz.trans hml.symm) (argsL := As) (rest := rest) (fun sig h => hn.trans (lk_len c3 sig h)) hst (by show 2 * 0 + _ ≤ wt; rw [Nat.mul_zero, Nat.zero_add]; exact Nat.le_of_ble_eq_true hw8) (by rw [hb]; exact hdg)
    (fun vm₁ hW₁ => ⟨Nat.zero_le _, Nat.zero_le _, ⟨rfl, iw_of hE hW (T.setVm vm₁) hT hW₁⟩⟩)
  dsimp only [Pt.U, Pt.locs, Pt.cells, Pt.slots] at X' e1 e2 h1 h2 h3 st
  subst h1; subst h2; subst h3
  exact ⟨v, (T.setVm vm₁).calling g' mk (Value.ref b :: As).toArray, t, U', L, hT, X', hL, e1, e2, hq, st⟩
-- returns of a method with two ends
theorem yr_vX {Q : St → Prop} {X : Nat → St → Prop} (hx : p.tables.exec = Jvm.exec) (hb : c.code = cc) (hr : meth.sig.returnType = none) (hlk : meth.locks = false) (hW : Wd G z s.heap H locs) (hq : Q z) (hdg : decode cc pc = .ok (.return_, 1)) : W p l e R s m args below meth c H locs 0 0 (MQX below (QvX Q X G) args s (fr G)) (F0 m pc ls []) :=
  W.imp (fun _ h => MQX.of h) (W.vret (Qc := QvX Q X G) hx hb hr (fun t ht _ => Or.inl ⟨⟨z, rfl, hq, hW.ow ht⟩, hW.2.2.1.F ht⟩) hW.2.2.1.2.2 hdg hlk)
theorem yr_iX {Q : Int32 → St → Prop} {X : Nat → St → Prop} {v : Int32} (hx : p.tables.exec = Jvm.exec) (hb : c.code = cc) (hr : meth.sig.returnType = some .int) (hlk : meth.locks = false) (hW : Wd G z s.heap H locs) (hq : Q v z) (hdg : decode cc pc = .ok (.ireturn, 1)) : W p l e R s m args below meth c H locs 0 0 (MQX below (QiX Q X G) args s (fr G)) (F0 m pc ls [.int v]) :=
  W.imp (fun _ h => MQX.of h) (W.iret (Qc := QiX Q X G) hx hb hr (fun t ht _ => Or.inl ⟨⟨v, z, rfl, hq, hW.ow ht⟩, hW.2.2.1.F ht⟩) hW.2.2.1.2.2 hdg hlk)
theorem yr_zX {Q : Int32 → St → Prop} {X : Nat → St → Prop} {v : Int32} (hx : p.tables.exec = Jvm.exec) (hb : c.code = cc) (hr : meth.sig.returnType = some .boolean) (hlk : meth.locks = false) (hW : Wd G z s.heap H locs) (hz : zb v) (hq : Q v z) (hdg : decode cc pc = .ok (.ireturn, 1)) : W p l e R s m args below meth c H locs 0 0 (MQX below (QiX Q X G) args s (fr G)) (F0 m pc ls [.int v]) :=
  W.imp (fun _ h => MQX.of h) (W.zret (Qc := QiX Q X G) hx hb hr (zb_nar hz) (fun t ht _ => Or.inl ⟨⟨v, z, rfl, hq, hW.ow ht⟩, hW.2.2.1.F ht⟩) hW.2.2.1.2.2 hdg hlk)
theorem yr_lX {Q : Int64 → St → Prop} {X : Nat → St → Prop} {v : Int64} (hx : p.tables.exec = Jvm.exec) (hb : c.code = cc) (hr : meth.sig.returnType = some .long) (hlk : meth.locks = false) (hW : Wd G z s.heap H locs) (hq : Q v z) (hdg : decode cc pc = .ok (.lreturn, 1)) : W p l e R s m args below meth c H locs 0 0 (MQX below (QlX Q X G) args s (fr G)) (F0 m pc ls [.long v]) :=
  W.imp (fun _ h => MQX.of h) (W.lret (Qc := QlX Q X G) hx hb hr (fun t ht _ => Or.inl ⟨⟨v, z, rfl, hq, hW.ow ht⟩, hW.2.2.1.F ht⟩) hW.2.2.1.2.2 hdg hlk)
/-- throw new: the world stays -/
theorem yt {Qc : Array Value → State → Outcome → State → Prop} {X : Nat → St → Prop} {k ix is ic n2 : Nat} {tx : String} (hx : p.tables.exec = Jvm.exec) (hb : c.code = cc) (hown : s.vm.findClass own = some m.cls) (hlk : meth.locks = false) (hex : c.exceptionTable.isEmpty = true) (hE : KK l G s) (hW : Wd G z s.heap H locs) (hsz : ls.size = nL) (hml : c.maxLocals = nL)
    (hR : 6 ≤ R.frames ∧ 82 ≤ R.locals ∧ 1 ≤ R.cells ∧ 6 ≤ R.slots) (hfit : Bundle.fit (xcn k) = true) (ht : ∀ U : State, KK l G U → xt_Ok own (xcn k) tx xnm ix is ic args U)
    (d0 : decode cc pc = .ok (.new ix, 3)) (d1 : decode cc (pc + 3) = .ok (.dup, 1)) (d2 : (decode cc (pc + 3 + 1) = .ok (.ldc is, 2) ∧ n2 = 2) ∨ (decode cc (pc + 3 + 1) = .ok (.ldc_w is, 3) ∧ n2 = 3)) (d3 : decode cc (pc + 3 + 1 + n2) = .ok (.invokespecial ic, 3)) (d4 : decode cc (pc + 3 + 1 + n2 + 3) = .ok (.athrow, 1))
    (hX : X k z) (hc : ∀ (t : State) (a : Addr), QT X G s (.threw a) t → va_F (fr G) s t → Qc args s (.threw a) t) : W p l e R s m args below meth c H locs 0 0 (MQX below Qc args s (fr G)) (F0 m pc ls []) := by
  refine xt_throw (tx := tx) (names := xnm) hx hb (hsz.trans hml.symm) hown hE.2.2.2.2.1 hlk hex hfit (by decide +kernel) (fun U hU hw => ht U (iw_of hE hW U hU hw).2.2) ⟨by show 2 + 3 < R.frames; omega, by show 1 + (13 * (2 + 1) + 42) ≤ R.locals; omega⟩ (by omega) (by omega) hW.2.2.1.2.2 d0 d1 d2 d3 d4 ?_
  intro U ce hw hsz hold hce hvm hcl
  have hP : va_P G.1 vcl (wcs G z) U.heap := hW.1.kept (fun k q hk => hold q.1 (hW.1 k q hk).lt)
  refine hc U H.size ⟨H.size, k, z, ce, rfl, hX, ⟨hP, hW.2.1⟩, hce, hvm, hcl⟩ ⟨Nat.le_trans hW.2.2.1.1 hsz, fun q h1 h2 => ?_⟩
  rw [hold q (Nat.lt_of_lt_of_le h1 hW.2.2.1.1)]
  exact hW.2.2.1.2.1 q h1 h2
theorem lk_code {n : Nat} (hd : y.cls ≠ "java/lang/invoke/MethodHandle" ∧ y.cls ≠ "java/lang/invoke/VarHandle" ∧ (parseMethodDescriptor y.desc).map (fun d => d.parameters.length) = some n) (h : ∀ (a' : Array Value) (U : State), s.WarmedH U.vm → (Cond.code y cc nL ret).before a' U = true) : XCode s y nL n [Cond.code y cc nL ret] := by
  have h0 := h #[] s (State.WarmedH.refl s)
  obtain ⟨mk, hnamed⟩ := Cond.code_named h0
  obtain ⟨meth, c, q1, q2, q3, q4, q5, q6, q7, q8⟩ := Cond.code_spec hnamed h0
  refine ⟨⟨hd.1, hd.2.1⟩, fun a' U hU => atoms_intro (fun w hw => by rw [List.mem_singleton.mp hw]; exact h a' U hU), mk, meth, c, hnamed, q1, q2, q4, q8, ?_⟩
  have h3 := hd.2.2
  rw [q8] at h3
  exact Option.some.inj h3
theorem yVX {Qc : Array Value → State → Outcome → State → Prop} (E : En p l s m meth c args cc nL own ret G) (hM : MetX l y [Cond.code y cc' nL' ret'] rm (va_Pc (.ref b :: As) (IW l G z)) Qc (fr G)) (cw : LkV s args own C index y cc' nL' ret' n)
    (hrv : ∃ cellB : Cell, H[b]? = some cellB ∧ cellB.vm.isStatics = false ∧ s.vm.findClass C = some cellB.cls) (hR : rm.cells ≤ R.cells ∧ rm.slots ≤ R.slots ∧ rm.frames + 1 ≤ R.frames ∧ 8 + (nL' + 11) + rm.locals ≤ R.locals) (hW : Wd G z s.heap H locs) (hsz : ls.size = nL) (hn : As.length = n) (hst : st0 = As.reverse ++ .ref b :: rest) (hw8 : Nat.ble ((rest.map fun v => v.category).sum) 8 = true) (hdg : decode cc pc = .ok (.invokevirtual index, 3)) :
    XRun p l e R s m args below meth c H locs 0 0 (F0 m pc ls st0) rest (Qc (Value.ref b :: As).toArray) (fr G) := by
  obtain ⟨hx, hb, hml, hown, -, -, -, hE⟩ := E
  obtain ⟨c1, c4, c5, c6, c7, c8⟩ := cw
  exact xc_runV (own := own) (n := n) hx hb hml hown hM iw_blind (lk_code c1 c8) c4 c5 c6 c7 hR.2.2 hrv (fun U hU hw => ⟨rfl, iw_of hE hW U hU hw⟩) rfl hn hsz hst (lv_room (Nat.le_of_ble_eq_true hw8)) hdg ⟨by omega, by omega⟩
theorem ySX {Qc : Array Value → State → Outcome → State → Prop} (E : En p l s m meth c args cc nL own ret G) (hM : MetX l y [Cond.code y cc' nL' ret'] rm (va_Pc As (IW l G z)) Qc (fr G)) (cw : LkS s args own index y cc' nL' ret' n)
    (hR : rm.cells ≤ R.cells ∧ rm.slots ≤ R.slots ∧ rm.frames + 1 ≤ R.frames ∧ 8 + (nL' + 11) + rm.locals ≤ R.locals) (hW : Wd G z s.heap H locs) (hsz : ls.size = nL) (hn : As.length = n) (hst : st0 = As.reverse ++ rest) (hw8 : Nat.ble ((rest.map fun v => v.category).sum) 8 = true) (hdg : decode cc pc = .ok (.invokestatic index, 3)) :
    XRun p l e R s m args below meth c H locs 0 0 (F0 m pc ls st0) rest (Qc As.toArray) (fr G) := by
  obtain ⟨hx, hb, hml, hown, -, -, -, hE⟩ := E
  obtain ⟨c1, c4, c5, c7, c8⟩ := cw
  exact xc_runS (own := own) (n := n) hx hb hml hown hM iw_blind (lk_code c1 c8) c4 c5 c7 hR.2.2 (fun U hU hw => ⟨rfl, iw_of hE hW U hU hw⟩) rfl hn hsz hst (lv_room (Nat.le_of_ble_eq_true hw8)) hdg ⟨by omega, by omega⟩
/-- the throw that goes on through a caller without handlers -/
theorem yx_thr {X : Nat → St → Prop} {Qc : Array Value → State → Outcome → State → Prop} {T T' : State} {st₀ t : State} {L : List Loc} {x : Addr} {g : JFrame} (X' : Stand p l e R s m args below meth c T' (locs ++ L) 1 6) (hW : Wd G z s.heap H locs) (h0 : st₀.heap = H) (hw0 : s.WarmedH st₀.vm) (hL : ∀ q ∈ L, fr G q.base) (e1 : T'.heap = t.heap) (hT : QT X G st₀ (.threw x) t) (hF : va_F (fr G) st₀ t)
    (hlk : meth.locks = false) (hex : c.exceptionTable.isEmpty = true) (hg : g.method = m) (hgl : g.locked = none) (hge : g.entered = []) (hc : ∀ (t : State) (a : Addr), QT X G s (.threw a) t → va_F (fr G) s t → Qc args s (.threw a) t)
    (hst : ∀ tg, Steps p.tables e below ((T'.setTop g).pushFrame (.throwing x)) tg → Steps p.tables e below (T.setTop (F0 m pc ls st0)) tg) : ∃ t, Steps p.tables e below (T.setTop (F0 m pc ls st0)) t ∧ MQX below Qc args s (fr G) t := by
  obtain ⟨l1, l2, l3, l4, l5⟩ := X'.leaveThrown x hg hgl hge (fun y hy => by rw [Array.isEmpty_iff.mp hex] at hy; cases hy) hlk
  refine ⟨_, hst _ l1, .threw x, l2, l3, ?_, locs ++ L, ⟨l4, l5⟩, fun q hq => ?_⟩
  · obtain ⟨a, k, z', ce, ho, hX, hO, hce, hvm, v, hv, hcl⟩ := hT
    cases ho
    have e2 : (T'.setFrames (.throwing x :: below)).heap = t.heap := e1
    refine hc _ x ⟨x, k, z', ce, rfl, hX, ⟨by rw [e2]; exact hO.1, hO.2⟩, by rw [e2]; exact hce, hvm, v, State.WarmedH.trans hw0 hv, hcl⟩ ⟨?_, fun q h1 h2 => ?_⟩
    · rw [e2]; exact Nat.le_trans hW.2.2.1.1 (by rw [← h0]; exact hF.1)
    · have h3 := hF.2 q (by rw [h0]; exact Nat.lt_of_lt_of_le h1 hW.2.2.1.1) h2
      rw [e2, h3, h0]
      exact hW.2.2.1.2.1 q h1 h2
  · rcases List.mem_append.mp hq with h | h
    · exact hW.2.2.1.2.2 q h
    · exact hL q h
/-- the world behind a call that came back -/
theorem wd_call {z' : St} {st₀ t T' : State} {L : List Loc} (hW : Wd G z s.heap H locs) (h0 : st₀.heap = H) (hL : ∀ q ∈ L, fr G q.base) (e1 : T'.heap = t.heap) (hO : OW G z' t) (hF : va_F (fr G) st₀ t) : Wd G z' s.heap T'.heap (locs ++ L) := by
  refine ⟨by rw [e1]; exact hO.1, hO.2, ⟨?_, fun q h1 h2 => ?_, fun q hq => ?_⟩, hW.2.2.2⟩
  · rw [e1]; exact Nat.le_trans hW.2.2.1.1 (by rw [← h0]; exact hF.1)
  · have h3 := hF.2 q (by rw [h0]; exact Nat.lt_of_lt_of_le h1 hW.2.2.1.1) h2
    rw [e1, h3, h0]
    exact hW.2.2.1.2.1 q h1 h2
  · rcases List.mem_append.mp hq with h | h
    · exact hW.2.2.1.2.2 q h
    · exact hL q h
theorem yx_v {Q1 : St → Prop} {X : Nat → St → Prop} {Qc : Array Value → State → Outcome → State → Prop} {a : Array Value} (hr : XRun p l e R s m args below meth c H locs 0 0 (F0 m pc ls st0) rest (QvX Q1 X G a) (fr G)) (hW : Wd G z s.heap H locs) (kk : ∀ (z' : St) (H : Heap) (locs : List Loc), Q1 z' → Wd G z' s.heap H locs → W p l e R s m args below meth c H locs 0 0 (MQX below Qc args s (fr G)) (F0 m (pc + 3) ls rest)) (hlk : meth.locks = false) (hex : c.exceptionTable.isEmpty = true) (hc : ∀ (t : State) (a : Addr), QT X G s (.threw a) t → va_F (fr G) s t → Qc args s (.threw a) t) : W p l e R s m args below meth c H locs 0 0 (MQX below Qc args s (fr G)) (F0 m pc ls st0) := by
  intro T hT X'
  obtain ⟨o, st₀, t, T', L, h0, hw0, X2, hL, e1, e2, hq, hend⟩ := hr T hT X'
  rcases hend with ⟨v, rfl, hs⟩ | ⟨x, rfl, hs⟩
  · rcases hq with ⟨⟨z', hv, hq, hO⟩, hF⟩ | ⟨⟨_, _, _, _, hv, _⟩, _⟩
    · cases hv
      obtain ⟨t2, a1, b1⟩ := kk z' T'.heap (locs ++ L) hq (wd_call hW h0 hL e1 hO hF) T' rfl X2
      exact ⟨t2, hs t2 a1, b1⟩
    · cases hv
  · rcases hq with ⟨⟨z', hv, _⟩, _⟩ | ⟨hT9, hF⟩
    · cases hv
    · exact yx_thr (g := F0 m pc ls rest) X2 hW h0 hw0 hL e1 hT9 hF hlk hex rfl rfl rfl hc hs
theorem yx_i {Q1 : Int32 → St → Prop} {X : Nat → St → Prop} {Qc : Array Value → State → Outcome → State → Prop} {a : Array Value} (hr : XRun p l e R s m args below meth c H locs 0 0 (F0 m pc ls st0) rest (QiX Q1 X G a) (fr G)) (hW : Wd G z s.heap H locs) (kk : ∀ (r : Int32) (z' : St) (H : Heap) (locs : List Loc), Q1 r z' → Wd G z' s.heap H locs → W p l e R s m args below meth c H locs 0 0 (MQX below Qc args s (fr G)) (F0 m (pc + 3) ls (.int r :: rest))) (hlk : meth.locks = false) (hex : c.exceptionTable.isEmpty = true) (hc : ∀ (t : State) (a : Addr), QT X G s (.threw a) t → va_F (fr G) s t → Qc args s (.threw a) t) : W p l e R s m args below meth c H locs 0 0 (MQX below Qc args s (fr G)) (F0 m pc ls st0) := by
  intro T hT X'
  obtain ⟨o, st₀, t, T', L, h0, hw0, X2, hL, e1, e2, hq, hend⟩ := hr T hT X'
  rcases hend with ⟨v, rfl, hs⟩ | ⟨x, rfl, hs⟩
  · rcases hq with ⟨⟨r, z', hv, hq, hO⟩, hF⟩ | ⟨⟨_, _, _, _, hv, _⟩, _⟩
    · cases hv
      obtain ⟨t2, a1, b1⟩ := kk r z' T'.heap (locs ++ L) hq (wd_call hW h0 hL e1 hO hF) T' rfl X2
      exact ⟨t2, hs t2 a1, b1⟩
    · cases hv
  · rcases hq with ⟨⟨r, z', hv, _⟩, _⟩ | ⟨hT9, hF⟩
    · cases hv
    · exact yx_thr (g := F0 m pc ls rest) X2 hW h0 hw0 hL e1 hT9 hF hlk hex rfl rfl rfl hc hs
end Throws12
end
section
/-! Rows over the world: the law's methods with catch clauses. -/
abbrev Clause : Type := Nat × Nat × Nat × Nat × Nat
/-- a clause's four numbers: from, to, handler, place of its class in the pool; the fifth is the exception's number -/
def cl4 (q : Clause) : Nat × Nat × Nat × Nat := (q.1, q.2.1, q.2.2.1, q.2.2.2.1)
def nHit (pc k : Nat) : List Clause → Option Nat
  | [] => none
  | q :: t => if q.1 ≤ pc ∧ pc < q.2.1 ∧ q.2.2.2.1 ≠ 0 then (if q.2.2.2.2 = k then some q.2.2.1 else nHit pc k t) else none
abbrev EnH (p : Program) (l : Launch) (s : State) (m : MethodId) (meth : Method) (c : Code) (args : Array Value) (cc : ByteArray) (nL : Nat) (own : String) (ret : Option FieldType) (cl : List Clause) (G : GG) : Prop :=
  p.tables.exec = Jvm.exec ∧ c.code = cc ∧ c.maxLocals = nL ∧ s.vm.findClass own = some m.cls ∧ meth.sig.returnType = ret ∧ meth.locks = false ∧ c.exceptionTable.toList.map (fun h => (h.startPc, h.endPc, h.handlerPc, h.catchType)) = cl.map cl4 ∧ KK l G s ∧ ∀ q ∈ cl, q.2.2.2.2 < 4 ∧ (Cond.classLink own q.2.2.2.1 (xcn q.2.2.2.2)).before args s = true
def CtiW (l : Launch) (y : MethodName) (cc : ByteArray) (nL : Nat) (ret : Option FieldType) (cl : List Clause) (rm : Room) (G : GG) (As : List Value) (z : St) (Q : Int32 → St → Prop) : Prop := Met l y [Cond.codeWith y cc nL ret (cl.map cl4)] rm (va_Pc As (IW l G z)) (QiR Q G) 1 6 (fr G)
section Wrap
variable {p : Program} {l : Launch} {e : Env} {R : Room} {s : State} {m : MethodId} {args : Array Value} {below : List Frame} {meth : Method} {c : Code} {H : Heap} {locs : List Loc} {cells slots : Nat} {Qg : State → Prop} {G : GG} {z : St} {cc cc' : ByteArray} {pc nL nL' n index : Nat} {ls : Array Slot} {rest As st0 : List Value} {own C : String} {ret ret' : Option FieldType} {y : MethodName} {rm : Room} {b : Nat} {cl : List Clause}
theorem nhit_ok {pl : Platform} {d thrown : ClassId} {k h : Nat} (hpl : pl.magicAccessors = ({} : Platform).magicAccessors) (hE : KK l G s) (hown : s.vm.findClass own = some d) (hk4 : k < 4) (hth : s.vm.findClass (xcn k) = some thrown) (hself : (Cond.castable (xcn k) (xcn k)).before args s = true) :
    ∀ (cl : List Clause) (es : List ExceptionTableEntry), (∀ q ∈ cl, q.2.2.2.2 < 4 ∧ (Cond.classLink own q.2.2.2.1 (xcn q.2.2.2.2)).before args s = true) → es.map (fun h => (h.startPc, h.endPc, h.handlerPc, h.catchType)) = cl.map cl4 → nHit pc k cl = some h → xk_Hit pl s d pc thrown h es := by
  intro cl
  induction cl with
  | nil => intro es _ _ hn; cases hn
  | cons q t ih =>
    intro es hq hes hn
    cases es with
    | nil => cases hes
    | cons x es =>
      simp only [List.map_cons, List.cons.injEq] at hes
      obtain ⟨hx, hes⟩ := hes
      have hx1 : x.startPc = q.1 ∧ x.endPc = q.2.1 ∧ x.handlerPc = q.2.2.1 ∧ x.catchType = q.2.2.2.1 := by
        unfold cl4 at hx
        simp only [Prod.mk.injEq] at hx
        exact hx
      obtain ⟨x1, x2, x3, x4⟩ := hx1
      unfold nHit at hn
      by_cases hc : q.1 ≤ pc ∧ pc < q.2.1 ∧ q.2.2.2.1 ≠ 0
      · rw [if_pos hc] at hn
        obtain ⟨hj, hlink⟩ := hq q List.mem_cons_self
        obtain ⟨c', hc', hcl⟩ := Cond.classLink_spec hown hlink pl hpl
        refine ⟨by simp [covers, x1, x2, hc.1, hc.2.1], by rw [x4]; exact hc.2.2, c', by rw [x4]; exact hcl, ?_⟩
        by_cases hjk : q.2.2.2.2 = k
        · rw [if_pos hjk] at hn
          refine Or.inl ⟨?_, by rw [x3]; exact Option.some.inj hn⟩
          rw [hjk] at hc'
          obtain ⟨a1, a2, g1, g2, g3⟩ := Cond.castable_spec hself
          rw [hth] at g1 g2 hc'
          cases g1; cases g2; cases hc'
          exact g3
        · rw [if_neg hjk] at hn
          refine Or.inr ⟨?_, ih es (fun q' h' => hq q' (List.mem_cons_of_mem _ h')) hes hn⟩
          obtain ⟨a1, a2, g1, g2, g3⟩ := hE.2.2.2.2.2 k q.2.2.2.2 hk4 hj (fun h => hjk h.symm)
          rw [hth] at g1
          rw [hc'] at g2
          cases g1; cases g2
          exact g3
      · rw [if_neg hc] at hn; cases hn
theorem CtiW.op {Q : Int32 → St → Prop} (hy : plainName y.cls = true) (hown : y.cls = own) (hlen : (lg_sl As).length ≤ nL) (hcl : ∀ (s : State) (args : Array Value), KK l G s → ∀ q ∈ cl, q.2.2.2.2 < 4 ∧ (Cond.classLink own q.2.2.2.1 (xcn q.2.2.2.2)).before args s = true)
    (body : ∀ (p : Program) (e : Env) (s : State) (m : MethodId) (args : Array Value) (below : List Frame) (meth : Method) (c : Code) (ls : Array Slot), EnH p l s m meth c args cc nL own ret cl G → lv_has ls nL (lv_args 0 As) → Wd G z s.heap s.heap [] → W p l e rm s m args below meth c s.heap [] 0 0 (MQ below (QiR Q G) args s 1 6 (fr G)) (F0 m 0 ls [])) : CtiW l y cc nL ret cl rm G As z Q := by
  refine va_MetW (cc := cc) (maxL := nL) (ret := ret) (hh := cl.map cl4) hy rfl ?_
  intro p e s m args below meth c s₁ B hml hv
  obtain ⟨rfl, hO, hba, hE⟩ := hv
  rw [lg_entry_eq]
  have hts := atoms_spec (ws := [Cond.codeWith y cc nL ret (cl.map cl4)]) B.pre
  obtain ⟨m', meth', c', q0, q1, q2, q3, q4, q5, q6, q7, q8⟩ := Cond.codeWith_spec (hts _ List.mem_cons_self)
  cases Option.some.inj (q0.symm.trans B.named)
  cases Option.some.inj (q1.symm.trans B.method)
  cases Option.some.inj (q2.symm.trans (Stand.of_body B).code)
  exact body p e s m _ below meth c _ ⟨B.exec, B.bytes, hml, by rw [← hown]; exact findClass_of_methodNamed B.named, B.returns, B.notSynchronized, q5, hE, hcl s _ hE⟩ (lv_entry As hlen) ⟨hO.1, hO.2, va_S.rf, hba⟩
theorem yVXh {Qc : Array Value → State → Outcome → State → Prop} (E : EnH p l s m meth c args cc nL own ret cl G) (hM : MetX l y [Cond.code y cc' nL' ret'] rm (va_Pc (.ref b :: As) (IW l G z)) Qc (fr G)) (cw : LkV s args own C index y cc' nL' ret' n)
    (hrv : ∃ cellB : Cell, H[b]? = some cellB ∧ cellB.vm.isStatics = false ∧ s.vm.findClass C = some cellB.cls) (hR : rm.cells ≤ R.cells ∧ rm.slots ≤ R.slots ∧ rm.frames + 1 ≤ R.frames ∧ 8 + (nL' + 11) + rm.locals ≤ R.locals) (hW : Wd G z s.heap H locs) (hsz : ls.size = nL) (hn : As.length = n) (hst : st0 = As.reverse ++ .ref b :: rest) (hw8 : Nat.ble ((rest.map fun v => v.category).sum) 8 = true) (hdg : decode cc pc = .ok (.invokevirtual index, 3)) :
    XRun p l e R s m args below meth c H locs 0 0 (F0 m pc ls st0) rest (Qc (Value.ref b :: As).toArray) (fr G) := by
  obtain ⟨hx, hb, hml, hown, -, -, -, hE, -⟩ := E
  obtain ⟨c1, c4, c5, c6, c7, c8⟩ := cw
  exact xc_runV (own := own) (n := n) hx hb hml hown hM iw_blind (lk_code c1 c8) c4 c5 c6 c7 hR.2.2 hrv (fun U hU hw => ⟨rfl, iw_of hE hW U hU hw⟩) rfl hn hsz hst (lv_room (Nat.le_of_ble_eq_true hw8)) hdg ⟨by omega, by omega⟩
/-- what a clause's handler is to do with an exception of the k-th class -/
abbrev Hnd (p : Program) (l : Launch) (e : Env) (R : Room) (s : State) (m : MethodId) (args : Array Value) (below : List Frame) (meth : Method) (c : Code) (Qg : State → Prop) (G : GG) (pc : Nat) (ls : Array Slot) (cl : List Clause) (X : Nat → St → Prop) : Prop :=
  ∀ (x k : Nat) (z' : St) (H : Heap) (locs : List Loc), X k z' → Wd G z' s.heap H locs → ∃ h, k < 4 ∧ nHit pc k cl = some h ∧ W p l e R s m args below meth c H locs 1 6 Qg (F0 m h ls [.ref x])
theorem yk_thr {X : Nat → St → Prop} {T T' : State} {st₀ t : State} {L : List Loc} {x : Addr} (E : EnH p l s m meth c args cc nL own ret cl G) (X' : Stand p l e R s m args below meth c T' (locs ++ L) 1 6) (hW : Wd G z s.heap H locs) (h0 : st₀.heap = H) (hw0 : s.WarmedH st₀.vm) (hL : ∀ q ∈ L, fr G q.base) (e1 : T'.heap = t.heap) (hT : QT X G st₀ (.threw x) t) (hF : va_F (fr G) st₀ t)
    (kt : Hnd p l e R s m args below meth c Qg G pc ls cl X) (hst : ∀ tg, Steps p.tables e below ((T'.setTop (F0 m pc ls rest)).pushFrame (.throwing x)) tg → Steps p.tables e below (T.setTop (F0 m pc ls st0)) tg) : ∃ t, Steps p.tables e below (T.setTop (F0 m pc ls st0)) t ∧ Qg t := by
  obtain ⟨hx, hb, hml, hown, hr, hlk, hex, hE, hcl⟩ := E
  obtain ⟨a, k, z', ce, ho, hX, hO, hce, hvm, v, hv, hfc⟩ := hT
  cases ho
  obtain ⟨h, hk4, hh, w⟩ := kt x k z' T'.heap (locs ++ L) hX (wd_call hW h0 hL e1 hO hF)
  have hth : s.vm.findClass (xcn k) = some ce.cls := by
    rw [← (State.WarmedH.trans hw0 hv).alike.findClass]; exact hfc
  have hself : (Cond.castable (xcn k) (xcn k)).before args s = true := xk_self hE hk4
  have hcell : T'.heap[x]? = some ce := by rw [e1]; exact hce
  have hkc : ∃ kk, s.vm.classes[ce.cls]? = some kk := by
    obtain ⟨cC, kC, g1, g2, -⟩ := Cond.instantiable_spec (xk_inst (args := args) hE hk4)
    rw [hth] at g1
    cases g1
    exact ⟨kC, g2⟩
  have hpl : e.platform.magicAccessors = ({} : Platform).magicAccessors := by rw [X'.admits.platform]
  obtain ⟨vm', X2, hs2⟩ := xk_caught X' x (g := F0 m pc ls rest) rfl hcell hvm hkc (nhit_ok hpl hE hown hk4 hth hself cl _ hcl hex hh)
  obtain ⟨t2, a1, b1⟩ := w (T'.setVm vm') rfl X2
  exact ⟨t2, hst _ (hs2 _ a1), b1⟩
theorem yk_v {Q1 : St → Prop} {X : Nat → St → Prop} {a : Array Value} (E : EnH p l s m meth c args cc nL own ret cl G) (hr : XRun p l e R s m args below meth c H locs 0 0 (F0 m pc ls st0) rest (QvX Q1 X G a) (fr G)) (hW : Wd G z s.heap H locs) (kk : ∀ (z' : St) (H : Heap) (locs : List Loc), Q1 z' → Wd G z' s.heap H locs → W p l e R s m args below meth c H locs 0 0 Qg (F0 m (pc + 3) ls rest)) (kt : Hnd p l e R s m args below meth c Qg G pc ls cl X) : W p l e R s m args below meth c H locs 0 0 Qg (F0 m pc ls st0) := by
  intro T hT X'
  obtain ⟨o, st₀, t, T', L, h0, hw0, X2, hL, e1, e2, hq, hend⟩ := hr T hT X'
  rcases hend with ⟨v, rfl, hs⟩ | ⟨x, rfl, hs⟩
  · rcases hq with ⟨⟨z', hv, hq, hO⟩, hF⟩ | ⟨⟨_, _, _, _, hv, _⟩, _⟩
    · cases hv
      obtain ⟨t2, a1, b1⟩ := kk z' T'.heap (locs ++ L) hq (wd_call hW h0 hL e1 hO hF) T' rfl X2
      exact ⟨t2, hs t2 a1, b1⟩
    · cases hv
  · rcases hq with ⟨⟨z', hv, _⟩, _⟩ | ⟨hT9, hF⟩
    · cases hv
    · exact yk_thr E X2 hW h0 hw0 hL e1 hT9 hF kt hs
theorem yk_i {Q1 : Int32 → St → Prop} {X : Nat → St → Prop} {a : Array Value} (E : EnH p l s m meth c args cc nL own ret cl G) (hr : XRun p l e R s m args below meth c H locs 0 0 (F0 m pc ls st0) rest (QiX Q1 X G a) (fr G)) (hW : Wd G z s.heap H locs) (kk : ∀ (r : Int32) (z' : St) (H : Heap) (locs : List Loc), Q1 r z' → Wd G z' s.heap H locs → W p l e R s m args below meth c H locs 0 0 Qg (F0 m (pc + 3) ls (.int r :: rest))) (kt : Hnd p l e R s m args below meth c Qg G pc ls cl X) : W p l e R s m args below meth c H locs 0 0 Qg (F0 m pc ls st0) := by
  intro T hT X'
  obtain ⟨o, st₀, t, T', L, h0, hw0, X2, hL, e1, e2, hq, hend⟩ := hr T hT X'
  rcases hend with ⟨v, rfl, hs⟩ | ⟨x, rfl, hs⟩
  · rcases hq with ⟨⟨r, z', hv, hq, hO⟩, hF⟩ | ⟨⟨_, _, _, _, hv, _⟩, _⟩
    · cases hv
      obtain ⟨t2, a1, b1⟩ := kk r z' T'.heap (locs ++ L) hq (wd_call hW h0 hL e1 hO hF) T' rfl X2
      exact ⟨t2, hs t2 a1, b1⟩
    · cases hv
  · rcases hq with ⟨⟨r, z', hv, _⟩, _⟩ | ⟨hT9, hF⟩
    · cases hv
    · exact yk_thr E X2 hW h0 hw0 hL e1 hT9 hF kt hs
theorem yk_l {Q1 : Int64 → St → Prop} {X : Nat → St → Prop} {a : Array Value} (E : EnH p l s m meth c args cc nL own ret cl G) (hr : XRun p l e R s m args below meth c H locs 0 0 (F0 m pc ls st0) rest (QlX Q1 X G a) (fr G)) (hW : Wd G z s.heap H locs) (kk : ∀ (r : Int64) (z' : St) (H : Heap) (locs : List Loc), Q1 r z' → Wd G z' s.heap H locs → W p l e R s m args below meth c H locs 0 0 Qg (F0 m (pc + 3) ls (.long r :: rest))) (kt : Hnd p l e R s m args below meth c Qg G pc ls cl X) : W p l e R s m args below meth c H locs 0 0 Qg (F0 m pc ls st0) := by
  intro T hT X'
  obtain ⟨o, st₀, t, T', L, h0, hw0, X2, hL, e1, e2, hq, hend⟩ := hr T hT X'
  rcases hend with ⟨v, rfl, hs⟩ | ⟨x, rfl, hs⟩
  · rcases hq with ⟨⟨r, z', hv, hq, hO⟩, hF⟩ | ⟨⟨_, _, _, _, hv, _⟩, _⟩
    · cases hv
      obtain ⟨t2, a1, b1⟩ := kk r z' T'.heap (locs ++ L) hq (wd_call hW h0 hL e1 hO hF) T' rfl X2
      exact ⟨t2, hs t2 a1, b1⟩
    · cases hv
  · rcases hq with ⟨⟨r, z', hv, _⟩, _⟩ | ⟨hT9, hF⟩
    · cases hv
    · exact yk_thr E X2 hW h0 hw0 hL e1 hT9 hF kt hs
/-- return of an int behind a walk that counted so much -/
theorem yr_iC {Q : Int32 → St → Prop} {v : Int32} (hx : p.tables.exec = Jvm.exec) (hb : c.code = cc) (hr : meth.sig.returnType = some .int) (hlk : meth.locks = false) (hW : Wd G z s.heap H locs) (hq : Q v z) (hdg : decode cc pc = .ok (.ireturn, 1)) (hc : cells ≤ 1) (hs : slots ≤ 6) : W p l e R s m args below meth c H locs cells slots (MQ below (QiR Q G) args s 1 6 (fr G)) (F0 m pc ls [.int v]) :=
  W.widen hc hs (W.iret hx hb hr (fun t ht _ => ⟨⟨v, z, rfl, hq, hW.ow ht⟩, hW.2.2.1.F ht⟩) hW.2.2.1.2.2 hdg hlk)
end Wrap
end
section
/-! Rows for constructors: the world so far is a list ws that they don't look into, then the cells that they make and fill. -/
section Ctor14
variable {p : Program} {l : Launch} {e : Env} {R : Room} {s : State} {m : MethodId} {args : Array Value} {below : List Frame} {meth : Method} {c : Code} {H : Heap} {locs : List Loc} {cells slots : Nat} {Qg : State → Prop} {G : GG} {ws rs : va_W} {cc cc' : ByteArray} {pc nL nL' n index : Nat} {ls : Array Slot} {rest As st0 : List Value} {own : String} {ret ret' : Option FieldType} {y : MethodName} {rm : Room}
def OX (G : GG) (w : va_W) (t : State) : Prop := va_P G.1 vcl w t.heap ∧ va_D (fr G) w
def IX (l : Launch) (G : GG) (w : va_W) (U : State) : Prop := OX G w U ∧ ba G ≤ U.heap.size ∧ KK l G U
def Wx (G : GG) (w : va_W) (H0 H : Heap) (locs : List Loc) : Prop := va_P G.1 vcl w H ∧ va_D (fr G) w ∧ va_S (fr G) H0 H locs ∧ ba G ≤ H0.size
theorem wx_fr {w : va_W} {H0 : Heap} (h : Wx G w H0 H locs) : ∀ q, H0.size ≤ q → fr G q := fun _ h1 => Nat.le_trans h.2.2.2 h1
theorem wx_at (i : Nat) {x : Nat × va_E} (h : rs[i]? = some x) : (ws ++ rs)[ws.length + i]? = some x := by
  rw [List.getElem?_append_right (Nat.le_add_right _ _), Nat.add_sub_cancel_left]; exact h
theorem wx_set (i : Nat) (x : Nat × va_E) : (ws ++ rs).set (ws.length + i) x = ws ++ rs.set i x := by
  rw [List.set_append_right _ _ (Nat.le_add_right _ _), Nat.add_sub_cancel_left]
theorem ix_of {w : va_W} (hE : KK l G s) (hW : Wx G w s.heap H locs) : ∀ U : State, U.heap = H → s.WarmedH U.vm → IX l G w U := fun U hU hw =>
  ⟨⟨by rw [hU]; exact hW.1, hW.2.1⟩, by rw [hU]; exact Nat.le_trans hW.2.2.2 hW.2.2.1.1, hE.warm hw (fun q h1 h2 => by rw [hU]; exact hW.2.2.1.2.1 q h1 h2)⟩
theorem ix_blind {w : va_W} {As : List Value} : FrameBlind (va_Pc As (IX l G w)) := fun _ _ _ _ h => ⟨h.1, h.2.1, h.2.2.1, h.2.2.2.same rfl rfl⟩
theorem xnew {C : String} {T : u_T} {N ci : Nat} (hx : p.tables.exec = Jvm.exec) (hb : c.code = cc) (hown : s.vm.findClass own = some m.cls) (hE : KK l G s) (hW : Wx G (ws ++ rs) s.heap H locs) (ty : Nat → FieldType) (hty : ∀ k, k < N → parseFieldDescriptor (T k).2.2.1 = some (ty k)) (hin : ∀ w ∈ u_ws C T N, w ∈ lyt) (hcl : (Cond.classLink own index C).before args s = true) (hinst : (Cond.instantiable C N).before args s = true) (hini : (Cond.initialized C).before args s = true)
    (hc : vcl[ci]? = some (C, T, N)) {fs : List Value} (hfs : ∀ j, j < N → defaultValue (ty j) = vp_V fs j) (hcells : cells + 1 ≤ R.cells ∧ slots + N ≤ R.slots) (hdg : decode cc pc = .ok (.new index, 3))
    (kk : ∀ (q : Nat) (H : Heap), Wx G (ws ++ (rs ++ [(q, .inr (ci, fs))])) s.heap H locs → W p l e R s m args below meth c H locs (cells + 1) (slots + N) Qg (F0 m (pc + 3) ls (.ref q :: rest))) : W p l e R s m args below meth c H locs cells slots Qg (F0 m pc ls rest) :=
  va_new hx hb hE.l hin ty hty hown hcl hinst hini hE.1 hW.1 hW.2.1 hW.2.2.1 (wx_fr hW) hc hfs hcells.1 hcells.2 hdg (fun q H1 hP hD hS => kk q H1 ⟨by rw [← List.append_assoc]; exact hP, by rw [← List.append_assoc]; exact hD, hS, hW.2.2.2⟩)
/-- an array's class is the one of its kind that the world knows -/
theorem xarr {U : State} {tys : List (ClassId × FieldType)} {cA cB : ClassId} {ty : FieldType} (hp : ty = .int ∨ ty = .long ∨ ty = .boolean) (h1 : va_RA U cA ty) (h2 : va_RA U cB ty) : cA = cB := by
  rcases hp with rfl | rfl | rfl
  all_goals exact Option.some.inj (Eq.trans (Eq.symm h1) h2)
theorem xnewa {atype : ArrayType} {ty : FieldType} {t0 : Nat} {cB : ClassId} {k : Int32} {N' : Nat} {a0 : vp_A} (hx : p.tables.exec = Jvm.exec) (hb : c.code = cc) (hE : KK l G s) (hW : Wx G (ws ++ rs) s.heap H locs) (harr : (Cond.arrayClass (newarray.typeOf atype)).before args s = true) (hty : newarray.typeOf atype = ty) (hp : ty = .int ∨ ty = .long ∨ ty = .boolean) (ht : (vty G)[t0]? = some (cB, ty)) (ha : ∀ cA : ClassId, vp_cell cA a0 = arrV cA N' (fun _ => defaultValue ty)) (hn : ¬ k < 0) (hN : k.toNatClampNeg = N') (hby : N' * componentBytes ty ≤ 536870912) (hcells : cells + 1 ≤ R.cells ∧ slots + N' ≤ R.slots) (hdg : decode cc pc = .ok (.newarray atype, 2))
    (kk : ∀ (q : Nat) (H : Heap), Wx G (ws ++ (rs ++ [(q, .inl (cB, a0))])) s.heap H locs → W p l e R s m args below meth c H locs (cells + 1) (slots + N') Qg (F0 m (pc + 2) ls (.ref q :: rest))) : W p l e R s m args below meth c H locs cells slots Qg (F0 m pc ls (.int k :: rest)) := by
  refine va_newa hx hb harr hty hE.1 hW.1 hW.2.1 hW.2.2.1 (wx_fr hW) ha hn hN hby hcells.1 hcells.2 hdg (fun q cA H1 hK hP hD hS => ?_)
  have e1 : cA = cB := xarr (U := s) (tys := vty G) hp (hK.2 3 (cA, ty) rfl).2 (hE.1.2 t0 (cB, ty) ht).2
  subst e1
  exact kk q H1 ⟨by rw [← List.append_assoc]; exact hP, by rw [← List.append_assoc]; exact hD, hS, hW.2.2.2⟩
theorem xputF {C : String} {T : u_T} {N ci k a : Nat} {fs : List Value} {v : Value} {ty : FieldType} (i : Nat) (hx : p.tables.exec = Jvm.exec) (hb : c.code = cc) (hown : s.vm.findClass own = some m.cls) (hE : KK l G s) (hW : Wx G (ws ++ rs) s.heap H locs) (ty0 : Nat → FieldType) (hty : ∀ k, k < N → parseFieldDescriptor (T k).2.2.1 = some (ty0 k)) (hnm : ∀ a, a < N → ∀ b, b < N → a ≠ b → (T a).2.1 ≠ (T b).2.1) (hin : ∀ w ∈ u_ws C T N, w ∈ lyt) (he : rs[i]? = some (a, .inr (ci, fs))) (hc : vcl[ci]? = some (C, T, N)) (hk : k < N) (hlink : (Cond.fieldLink own index (T k).1 (T k).2.1 (T k).2.2.1).before args s = true) (hfin : (T k).2.2.2 = true) (hnm2 : meth.name = "<init>") (hdecl : (T k).1 = own) (hd : parseFieldDescriptor (T k).2.2.1 = some ty) (hn : narrow ty v = v) (hfit : fits ty v = true) (hl : k < fs.length)
    (hdg : decode cc pc = .ok (.putfield index, 3)) (kk : ∀ (H : Heap) (locs : List Loc), Wx G (ws ++ rs.set i (a, .inr (ci, fs.set k v))) s.heap H locs → W p l e R s m args below meth c H locs cells slots Qg (F0 m (pc + 3) ls rest)) : W p l e R s m args below meth c H locs cells slots Qg (F0 m pc ls (v :: .ref a :: rest)) :=
  va_putF hx hb hE.l hin ty0 hty hnm hown hE.1 hW.1 hW.2.1 hW.2.2.1 (ws.length + i) (wx_at i he) hc k hk hlink (fun _ h => h) hfin hnm2 hdecl hd hn hfit hl hdg (fun H1 locs1 hP hD hS => kk H1 locs1 ⟨by rw [← wx_set]; exact hP, by rw [← wx_set]; exact hD, hS, hW.2.2.2⟩)
theorem xput {C : String} {T : u_T} {N ci k a : Nat} {fs : List Value} {v : Value} {ty : FieldType} (i : Nat) (hx : p.tables.exec = Jvm.exec) (hb : c.code = cc) (hown : s.vm.findClass own = some m.cls) (hE : KK l G s) (hW : Wx G (ws ++ rs) s.heap H locs) (ty0 : Nat → FieldType) (hty : ∀ k, k < N → parseFieldDescriptor (T k).2.2.1 = some (ty0 k)) (hnm : ∀ a, a < N → ∀ b, b < N → a ≠ b → (T a).2.1 ≠ (T b).2.1) (hin : ∀ w ∈ u_ws C T N, w ∈ lyt) (he : rs[i]? = some (a, .inr (ci, fs))) (hc : vcl[ci]? = some (C, T, N)) (hk : k < N) (hlink : (Cond.fieldLink own index (T k).1 (T k).2.1 (T k).2.2.1).before args s = true) (hfin : (T k).2.2.2 = false) (hd : parseFieldDescriptor (T k).2.2.1 = some ty) (hn : narrow ty v = v) (hfit : fits ty v = true) (hl : k < fs.length)
    (hdg : decode cc pc = .ok (.putfield index, 3)) (kk : ∀ (H : Heap) (locs : List Loc), Wx G (ws ++ rs.set i (a, .inr (ci, fs.set k v))) s.heap H locs → W p l e R s m args below meth c H locs cells slots Qg (F0 m (pc + 3) ls rest)) : W p l e R s m args below meth c H locs cells slots Qg (F0 m pc ls (v :: .ref a :: rest)) :=
  va_put hx hb hE.l hin ty0 hty hnm hown hE.1 hW.1 hW.2.1 hW.2.2.1 (ws.length + i) (wx_at i he) hc k hk hlink (fun _ h => h) hfin hd hn hfit hl hdg (fun H1 locs1 hP hD hS => kk H1 locs1 ⟨by rw [← wx_set]; exact hP, by rw [← wx_set]; exact hD, hS, hW.2.2.2⟩)
theorem xget {C : String} {T : u_T} {N ci k a : Nat} {fs : List Value} {v : Value} (i : Nat) (hx : p.tables.exec = Jvm.exec) (hb : c.code = cc) (hown : s.vm.findClass own = some m.cls) (hE : KK l G s) (hW : Wx G (ws ++ rs) s.heap H locs) (hin : ∀ w ∈ u_ws C T N, w ∈ lyt) (he : rs[i]? = some (a, .inr (ci, fs))) (hc : vcl[ci]? = some (C, T, N)) (hk : k < N) (hlink : (Cond.fieldLink own index (T k).1 (T k).2.1 (T k).2.2.1).before args s = true) (hv : fs[k]? = some v)
    (hdg : decode cc pc = .ok (.getfield index, 3)) (kk : W p l e R s m args below meth c H locs cells slots Qg (F0 m (pc + 3) ls (v :: rest))) : W p l e R s m args below meth c H locs cells slots Qg (F0 m pc ls (.ref a :: rest)) :=
  va_get hx hb hE.l hin hown hE.1 hW.1 (ws.length + i) (wx_at i he) hc k hk hlink (fun _ h => h) hv hdg kk
theorem xastI {a nn : Nat} {f : Nat → Int32} {j v : Int32} (i : Nat) (hx : p.tables.exec = Jvm.exec) (hb : c.code = cc) (hE : KK l G s) (hW : Wx G (ws ++ rs) s.heap H locs) (he : rs[i]? = some (a, .inl (G.2.1 0, nn, .inl f))) (hi : vp_in j nn) (hdg : decode cc pc = .ok (.iastore, 1)) (kk : ∀ (H : Heap) (locs : List Loc), Wx G (ws ++ rs.set i (a, .inl (G.2.1 0, nn, .inl (upd f j.toNatClampNeg v)))) s.heap H locs → W p l e R s m args below meth c H locs cells slots Qg (F0 m (pc + 1) ls rest)) : W p l e R s m args below meth c H locs cells slots Qg (F0 m pc ls (.int v :: .int j :: .ref a :: rest)) :=
  va_iast hx hb hE.1 hW.1 hW.2.1 hW.2.2.1 (ws.length + i) 0 (wx_at i he) rfl hi hdg (fun H1 locs1 hP hD hS => kk H1 locs1 ⟨by rw [← wx_set]; exact hP, by rw [← wx_set]; exact hD, hS, hW.2.2.2⟩)
theorem xaldI {a nn : Nat} {f : Nat → Int32} {j : Int32} (i : Nat) (hx : p.tables.exec = Jvm.exec) (hb : c.code = cc) (hE : KK l G s) (hW : Wx G (ws ++ rs) s.heap H locs) (he : rs[i]? = some (a, .inl (G.2.1 0, nn, .inl f))) (hi : vp_in j nn) (hdg : decode cc pc = .ok (.iaload, 1)) (kk : W p l e R s m args below meth c H locs cells slots Qg (F0 m (pc + 1) ls (.int (f j.toNatClampNeg) :: rest))) : W p l e R s m args below meth c H locs cells slots Qg (F0 m pc ls (.int j :: .ref a :: rest)) :=
  va_iald hx hb hE.1 hW.1 (ws.length + i) 0 (wx_at i he) rfl hi hdg kk
theorem xlenI {a nn : Nat} {f : Nat → Int32} {v : Int32} (i : Nat) (hx : p.tables.exec = Jvm.exec) (hb : c.code = cc) (hE : KK l G s) (hW : Wx G (ws ++ rs) s.heap H locs) (he : rs[i]? = some (a, .inl (G.2.1 0, nn, .inl f))) (hv : Int32.ofNat nn = v) (hdg : decode cc pc = .ok (.arraylength, 1)) (kk : W p l e R s m args below meth c H locs cells slots Qg (F0 m (pc + 1) ls (.int v :: rest))) : W p l e R s m args below meth c H locs cells slots Qg (F0 m pc ls (.ref a :: rest)) :=
  va_alen hx hb hE.1 hW.1 (ws.length + i) 0 (wx_at i he) rfl hv hdg kk
/-- a constructor's contract: the list of cells before, and behind it as u says -/
def Ctk {S : Type} (l : Launch) (y : MethodName) (cc : ByteArray) (nL : Nat) (rm : Room) (G : GG) (As : List Value) (w : va_W) (post : S → Prop) (w' : S → va_W) (mc ms : Nat) : Prop := Met l y [Cond.code y cc nL none] rm (va_Pc As (IX l G w)) (va_Qv post (fun u t => OX G (w' u) t) (fr G)) mc ms (fr G)
theorem Ctk.op {S : Type} {w : va_W} {post : S → Prop} {w' : S → va_W} {mc ms : Nat} (hy : plainName y.cls = true) (hown : y.cls = own) (hlen : (lg_sl As).length ≤ nL)
    (body : ∀ (p : Program) (e : Env) (s : State) (m : MethodId) (args : Array Value) (below : List Frame) (meth : Method) (c : Code) (ls : Array Slot), En p l s m meth c args cc nL own none G → meth.name = y.name → lv_has ls nL (lv_args 0 As) → Wx G w s.heap s.heap [] → W p l e rm s m args below meth c s.heap [] 0 0 (MQ below (va_Qv post (fun u t => OX G (w' u) t) (fr G)) args s mc ms (fr G)) (F0 m 0 ls [])) : Ctk l y cc nL rm G As w post w' mc ms := by
  refine Met.ofW (cc := cc) (maxL := nL) (ret := none) hy rfl ?_
  intro p e s m args below meth c s₁ B hml hv
  obtain ⟨rfl, hO, hba, hE⟩ := hv
  rw [lg_entry_eq]
  exact body p e s m _ below meth c _ (op_E B hml hown hE) (name_of_methodNamed B.named B.method).1 (lv_entry As hlen) ⟨hO.1, hO.2, va_S.rf, hba⟩
theorem xret {S : Type} {w : va_W} {post : S → Prop} {w' : S → va_W} {mc ms : Nat} (u : S) (hx : p.tables.exec = Jvm.exec) (hb : c.code = cc) (hr : meth.sig.returnType = none) (hlk : meth.locks = false) (hW : Wx G w s.heap H locs) (hq : post u) (hw : w = w' u) (hc : cells = mc) (hs : slots = ms) (hdg : decode cc pc = .ok (.return_, 1)) : W p l e R s m args below meth c H locs cells slots (MQ below (va_Qv post (fun u t => OX G (w' u) t) (fr G)) args s mc ms (fr G)) (F0 m pc ls []) := by
  subst hc; subst hs; subst hw
  exact W.vret hx hb hr (fun t ht _ => ⟨⟨u, rfl, hq, ⟨by rw [ht]; exact hW.1, hW.2.1⟩⟩, hW.2.2.1.F ht⟩) hW.2.2.1.2.2 hdg hlk
/-- the words of a call of a constructor -/
def LkI (s : State) (args : Array Value) (own : String) (index : Nat) (y : MethodName) (cc : ByteArray) (nL n : Nat) : Prop :=
  (y.cls ≠ "java/lang/invoke/MethodHandle" ∧ y.cls ≠ "java/lang/invoke/VarHandle" ∧ (parseMethodDescriptor y.desc).map (fun d => d.parameters.length) = some n) ∧ y.name = "<init>" ∧ ((Cond.methodLink own index y).before args s = true ∨ ∃ host, (Cond.methodLinkNest own index y host).before args s = true) ∧ (Cond.instanceMethod y).before args s = true ∧ (Cond.initialized y.cls).before args s = true ∧ ∀ (a' : Array Value) (U : State), s.WarmedH U.vm → (Cond.code y cc nL none).before a' U = true
theorem xcall {S : Type} {w : va_W} {post : S → Prop} {w' : S → va_W} {mc ms b : Nat} (E : En p l s m meth c args cc nL own ret G) (hM : Ctk l y cc' nL' rm G (.ref b :: As) w post w' mc ms) (cw : LkI s args own index y cc' nL' n) (hR : rm.cells = mc ∧ rm.slots = ms ∧ rm.frames + 1 ≤ R.frames ∧ 8 + (nL' + 11) + rm.locals ≤ R.locals) (hcs : cells + mc ≤ R.cells ∧ slots + ms ≤ R.slots) (hW : Wx G w s.heap H locs) (hsz : ls.size = nL) (hn : As.length = n) (hst : st0 = As.reverse ++ .ref b :: rest) (hw8 : Nat.ble ((rest.map fun v => v.category).sum) 8 = true) (hdg : decode cc pc = .ok (.invokespecial index, 3))
    (kk : ∀ (u : S) (H : Heap) (locs : List Loc), post u → Wx G (w' u) s.heap H locs → W p l e R s m args below meth c H locs (cells + mc) (slots + ms) Qg (F0 m (pc + 3) ls rest)) : W p l e R s m args below meth c H locs cells slots Qg (F0 m pc ls st0) := by
  obtain ⟨hx, hb, hml, hown, -, -, -, hE⟩ := E
  obtain ⟨⟨c1, c2, c3⟩, c0, c4, c5, c7, c8⟩ := cw
  have hws : ∀ w ∈ [Cond.code y cc' nL' none], ∀ (a' : Array Value) (U : State), s.WarmedH U.vm → w.before a' U = true := by
    intro w hw a' U hU
    rw [List.mem_singleton.mp hw]
    exact c8 a' U hU
  have run : va_Run p l e R s m args below meth c H locs cells slots mc ms (F0 m pc ls st0) rest (va_Qv post (fun u t => OX G (w' u) t) (fr G) (Value.ref b :: As).toArray) (fr G) := by
    rcases c4 with c4 | ⟨host, c4⟩
    · exact va_runI (Ts := []) (own := own) (n := n) ⟨hx, hb, hml, hown, fun _ h => nomatch h⟩ hM ⟨⟨hR.1, hR.2.1, hR.2.2.1, hR.2.2.2, hws, List.mem_cons_self, c8 _ _ (State.WarmedH.refl s), c7, ⟨c1, c2⟩, lk_len c3, c4⟩, c0, c5⟩ ⟨ix_blind, fun U hU hw => ⟨rfl, ix_of hE hW U hU hw⟩⟩ rfl hn hsz hst (lv_room (Nat.le_of_ble_eq_true hw8)) hdg hcs
    · exact va_runIN (Ts := []) (own := own) (host := host) (n := n) ⟨hx, hb, hml, hown, fun _ h => nomatch h⟩ hM ⟨⟨⟨hR.1, hR.2.1, hR.2.2.1, hR.2.2.2, hws, List.mem_cons_self⟩, c8 _ _ (State.WarmedH.refl s), c7, ⟨c1, c2⟩, lk_len c3, c4⟩, c0, c5⟩ ⟨ix_blind, fun U hU hw => ⟨rfl, ix_of hE hW U hU hw⟩⟩ rfl hn hsz hst (lv_room (Nat.le_of_ble_eq_true hw8)) hdg hcs
  exact va_callv run hW.2.2.1 (fun _ _ h => h) (fun _ h => h) (fun u t H1 locs1 ht _ hq hB _ _ hS => kk u H1 locs1 hq ⟨by rw [← ht]; exact hB.1, hB.2, hS, hW.2.2.2⟩)
end Ctor14
end
