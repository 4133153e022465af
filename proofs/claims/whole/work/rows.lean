section
-- ===== PART A: goes FIRST, ahead of the names: the tables' words, and 'selects' of the private methods out of them =====
/-- a private method of a class that the tables say can be made, by its rows of tables_1 -/
def lw_okq (q : MethodName × Nat) : Prop := (q.1.cls ≠ "java/lang/invoke/MethodHandle" ∧ q.1.cls ≠ "java/lang/invoke/VarHandle") ∧ Cond.instantiable q.1.cls q.2 ∈ tables_1 ∧ Cond.privateMethod q.1 ∈ tables_1 ∧ Cond.instanceMethod q.1 ∈ tables_1
theorem lw_p0 : lw_okq (⟨"PanelOffice", "refreshTally", "()V"⟩, 12) := ⟨⟨by decide +kernel, by decide +kernel⟩, List.mem_of_getElem? (i := 20) (by decide +kernel), List.mem_of_getElem? (i := 288) (by decide +kernel), List.mem_of_getElem? (i := 289) (by decide +kernel)⟩
theorem lw_p1 : lw_okq (⟨"PanelOffice$Tally", "stateOf", "(J)I"⟩, 13) := ⟨⟨by decide +kernel, by decide +kernel⟩, List.mem_of_getElem? (i := 88) (by decide +kernel), List.mem_of_getElem? (i := 297) (by decide +kernel), List.mem_of_getElem? (i := 298) (by decide +kernel)⟩
theorem lw_p2 : lw_okq (⟨"PanelOffice$Tally", "enter", "(JI)I"⟩, 13) := ⟨⟨by decide +kernel, by decide +kernel⟩, List.mem_of_getElem? (i := 88) (by decide +kernel), List.mem_of_getElem? (i := 302) (by decide +kernel), List.mem_of_getElem? (i := 303) (by decide +kernel)⟩
theorem lw_p3 : lw_okq (⟨"PanelOffice$Tally", "addLayer", "(ILPanelOffice$Quotas;I)V"⟩, 13) := ⟨⟨by decide +kernel, by decide +kernel⟩, List.mem_of_getElem? (i := 88) (by decide +kernel), List.mem_of_getElem? (i := 306) (by decide +kernel), List.mem_of_getElem? (i := 307) (by decide +kernel)⟩
theorem lw_p4 : lw_okq (⟨"PanelOffice$Tally", "takesFrom", "(JILPanelOffice$Quotas;I)I"⟩, 13) := ⟨⟨by decide +kernel, by decide +kernel⟩, List.mem_of_getElem? (i := 88) (by decide +kernel), List.mem_of_getElem? (i := 320) (by decide +kernel), List.mem_of_getElem? (i := 321) (by decide +kernel)⟩
theorem lw_p5 : lw_okq (⟨"PanelOffice$Tally", "countAhead", "(LPanelOffice$Quotas;I)V"⟩, 13) := ⟨⟨by decide +kernel, by decide +kernel⟩, List.mem_of_getElem? (i := 88) (by decide +kernel), List.mem_of_getElem? (i := 328) (by decide +kernel), List.mem_of_getElem? (i := 329) (by decide +kernel)⟩
theorem lw_p6 : lw_okq (⟨"PanelOffice$Tally", "isPanel", "(JLPanelOffice$Quotas;I)Z"⟩, 13) := ⟨⟨by decide +kernel, by decide +kernel⟩, List.mem_of_getElem? (i := 88) (by decide +kernel), List.mem_of_getElem? (i := 332) (by decide +kernel), List.mem_of_getElem? (i := 333) (by decide +kernel)⟩
theorem lw_p7 : lw_okq (⟨"PanelOffice$Tally", "aheadWithAny", "(II)J"⟩, 13) := ⟨⟨by decide +kernel, by decide +kernel⟩, List.mem_of_getElem? (i := 88) (by decide +kernel), List.mem_of_getElem? (i := 336) (by decide +kernel), List.mem_of_getElem? (i := 337) (by decide +kernel)⟩
theorem lw_p8 : lw_okq (⟨"PanelOffice", "changed", "()V"⟩, 12) := ⟨⟨by decide +kernel, by decide +kernel⟩, List.mem_of_getElem? (i := 20) (by decide +kernel), List.mem_of_getElem? (i := 369) (by decide +kernel), List.mem_of_getElem? (i := 370) (by decide +kernel)⟩
theorem lw_p9 : lw_okq (⟨"java/lang/Throwable", "fillInStackTrace", "(I)Ljava/lang/Throwable;"⟩, 6) := ⟨⟨by decide +kernel, by decide +kernel⟩, List.mem_of_getElem? (i := 433) (by decide +kernel), List.mem_of_getElem? (i := 431) (by decide +kernel), List.mem_of_getElem? (i := 432) (by decide +kernel)⟩
theorem lw_p10 : lw_okq (⟨"PanelOffice", "requireOpen", "()V"⟩, 12) := ⟨⟨by decide +kernel, by decide +kernel⟩, List.mem_of_getElem? (i := 20) (by decide +kernel), List.mem_of_getElem? (i := 463) (by decide +kernel), List.mem_of_getElem? (i := 464) (by decide +kernel)⟩
theorem lw_p11 : lw_okq (⟨"PanelOffice$Pool", "isKind", "(I)Z"⟩, 6) := ⟨⟨by decide +kernel, by decide +kernel⟩, List.mem_of_getElem? (i := 28) (by decide +kernel), List.mem_of_getElem? (i := 506) (by decide +kernel), List.mem_of_getElem? (i := 507) (by decide +kernel)⟩
theorem lw_p12 : lw_okq (⟨"PanelOffice$Pool", "kindsBelow", "(I)I"⟩, 6) := ⟨⟨by decide +kernel, by decide +kernel⟩, List.mem_of_getElem? (i := 28) (by decide +kernel), List.mem_of_getElem? (i := 510) (by decide +kernel), List.mem_of_getElem? (i := 511) (by decide +kernel)⟩
theorem lw_p13 : lw_okq (⟨"PanelOffice$Pool", "insertKind", "(II)V"⟩, 6) := ⟨⟨by decide +kernel, by decide +kernel⟩, List.mem_of_getElem? (i := 28) (by decide +kernel), List.mem_of_getElem? (i := 519) (by decide +kernel), List.mem_of_getElem? (i := 520) (by decide +kernel)⟩
theorem lw_p14 : lw_okq (⟨"PanelOffice", "requireCountable", "()V"⟩, 12) := ⟨⟨by decide +kernel, by decide +kernel⟩, List.mem_of_getElem? (i := 20) (by decide +kernel), List.mem_of_getElem? (i := 552) (by decide +kernel), List.mem_of_getElem? (i := 553) (by decide +kernel)⟩
theorem lw_p15 : lw_okq (⟨"PanelOffice", "requirePerson", "(I)V"⟩, 12) := ⟨⟨by decide +kernel, by decide +kernel⟩, List.mem_of_getElem? (i := 20) (by decide +kernel), List.mem_of_getElem? (i := 583) (by decide +kernel), List.mem_of_getElem? (i := 584) (by decide +kernel)⟩
def lw_privs_1 : List (MethodName × Nat) := [(⟨"PanelOffice", "refreshTally", "()V"⟩, 12), (⟨"PanelOffice$Tally", "stateOf", "(J)I"⟩, 13), (⟨"PanelOffice$Tally", "enter", "(JI)I"⟩, 13), (⟨"PanelOffice$Tally", "addLayer", "(ILPanelOffice$Quotas;I)V"⟩, 13), (⟨"PanelOffice$Tally", "takesFrom", "(JILPanelOffice$Quotas;I)I"⟩, 13), (⟨"PanelOffice$Tally", "countAhead", "(LPanelOffice$Quotas;I)V"⟩, 13), (⟨"PanelOffice$Tally", "isPanel", "(JLPanelOffice$Quotas;I)Z"⟩, 13), (⟨"PanelOffice$Tally", "aheadWithAny", "(II)J"⟩, 13), (⟨"PanelOffice", "changed", "()V"⟩, 12), (⟨"java/lang/Throwable", "fillInStackTrace", "(I)Ljava/lang/Throwable;"⟩, 6), (⟨"PanelOffice", "requireOpen", "()V"⟩, 12), (⟨"PanelOffice$Pool", "isKind", "(I)Z"⟩, 6), (⟨"PanelOffice$Pool", "kindsBelow", "(I)I"⟩, 6), (⟨"PanelOffice$Pool", "insertKind", "(II)V"⟩, 6), (⟨"PanelOffice", "requireCountable", "()V"⟩, 12), (⟨"PanelOffice", "requirePerson", "(I)V"⟩, 12)]
theorem lw_r1 : ∀ q ∈ lw_privs_1, lw_okq q := List.forall_mem_cons.mpr ⟨lw_p0, List.forall_mem_cons.mpr ⟨lw_p1, List.forall_mem_cons.mpr ⟨lw_p2, List.forall_mem_cons.mpr ⟨lw_p3, List.forall_mem_cons.mpr ⟨lw_p4, List.forall_mem_cons.mpr ⟨lw_p5, List.forall_mem_cons.mpr ⟨lw_p6, List.forall_mem_cons.mpr ⟨lw_p7, List.forall_mem_cons.mpr ⟨lw_p8, List.forall_mem_cons.mpr ⟨lw_p9, List.forall_mem_cons.mpr ⟨lw_p10, List.forall_mem_cons.mpr ⟨lw_p11, List.forall_mem_cons.mpr ⟨lw_p12, List.forall_mem_cons.mpr ⟨lw_p13, List.forall_mem_cons.mpr ⟨lw_p14, List.forall_mem_cons.mpr ⟨lw_p15, fun _ h => absurd h List.not_mem_nil⟩⟩⟩⟩⟩⟩⟩⟩⟩⟩⟩⟩⟩⟩⟩⟩
theorem lw_p16 : lw_okq (⟨"PanelOffice$Tally", "countBehind", "()V"⟩, 13) := ⟨⟨by decide +kernel, by decide +kernel⟩, List.mem_of_getElem? (i := 88) (by decide +kernel), List.mem_of_getElem? (i := 596) (by decide +kernel), List.mem_of_getElem? (i := 597) (by decide +kernel)⟩
theorem lw_p17 : lw_okq (⟨"PanelOffice$Tally", "passOn", "(II)V"⟩, 13) := ⟨⟨by decide +kernel, by decide +kernel⟩, List.mem_of_getElem? (i := 88) (by decide +kernel), List.mem_of_getElem? (i := 603) (by decide +kernel), List.mem_of_getElem? (i := 604) (by decide +kernel)⟩
theorem lw_p18 : lw_okq (⟨"PanelOffice$Tally", "aheadWithOneOf", "(II)J"⟩, 13) := ⟨⟨by decide +kernel, by decide +kernel⟩, List.mem_of_getElem? (i := 88) (by decide +kernel), List.mem_of_getElem? (i := 607) (by decide +kernel), List.mem_of_getElem? (i := 608) (by decide +kernel)⟩
theorem lw_p19 : lw_okq (⟨"PanelOffice$Clash", "tryWithout", "(IILPanelOffice$Quotas;I)V"⟩, 6) := ⟨⟨by decide +kernel, by decide +kernel⟩, List.mem_of_getElem? (i := 155) (by decide +kernel), List.mem_of_getElem? (i := 643) (by decide +kernel), List.mem_of_getElem? (i := 644) (by decide +kernel)⟩
theorem lw_p20 : lw_okq (⟨"PanelOffice", "requirePlace", "(I)V"⟩, 12) := ⟨⟨by decide +kernel, by decide +kernel⟩, List.mem_of_getElem? (i := 20) (by decide +kernel), List.mem_of_getElem? (i := 670) (by decide +kernel), List.mem_of_getElem? (i := 671) (by decide +kernel)⟩
theorem lw_p21 : lw_okq (⟨"PanelOffice$Ranking", "tellKind", "(IIJ[II)V"⟩, 2) := ⟨⟨by decide +kernel, by decide +kernel⟩, List.mem_of_getElem? (i := 142) (by decide +kernel), List.mem_of_getElem? (i := 684) (by decide +kernel), List.mem_of_getElem? (i := 685) (by decide +kernel)⟩
theorem lw_p22 : lw_okq (⟨"PanelOffice$Ranking", "membersOf", "(IJ)I"⟩, 2) := ⟨⟨by decide +kernel, by decide +kernel⟩, List.mem_of_getElem? (i := 142) (by decide +kernel), List.mem_of_getElem? (i := 710) (by decide +kernel), List.mem_of_getElem? (i := 711) (by decide +kernel)⟩
theorem lw_p23 : lw_okq (⟨"PanelOffice$Ranking", "indexIn", "(IIJ)J"⟩, 2) := ⟨⟨by decide +kernel, by decide +kernel⟩, List.mem_of_getElem? (i := 142) (by decide +kernel), List.mem_of_getElem? (i := 716) (by decide +kernel), List.mem_of_getElem? (i := 717) (by decide +kernel)⟩
theorem lw_p24 : lw_okq (⟨"PanelOffice", "goalNow", "()J"⟩, 12) := ⟨⟨by decide +kernel, by decide +kernel⟩, List.mem_of_getElem? (i := 20) (by decide +kernel), List.mem_of_getElem? (i := 744) (by decide +kernel), List.mem_of_getElem? (i := 745) (by decide +kernel)⟩
theorem lw_p25 : lw_okq (⟨"PanelOffice$Seats", "addValuesOf", "(I)V"⟩, 9) := ⟨⟨by decide +kernel, by decide +kernel⟩, List.mem_of_getElem? (i := 213) (by decide +kernel), List.mem_of_getElem? (i := 762) (by decide +kernel), List.mem_of_getElem? (i := 763) (by decide +kernel)⟩
theorem lw_p26 : lw_okq (⟨"PanelOffice", "requireNumber", "()V"⟩, 12) := ⟨⟨by decide +kernel, by decide +kernel⟩, List.mem_of_getElem? (i := 20) (by decide +kernel), List.mem_of_getElem? (i := 823) (by decide +kernel), List.mem_of_getElem? (i := 824) (by decide +kernel)⟩
theorem lw_p27 : lw_okq (⟨"PanelOffice", "requireDrawn", "()V"⟩, 12) := ⟨⟨by decide +kernel, by decide +kernel⟩, List.mem_of_getElem? (i := 20) (by decide +kernel), List.mem_of_getElem? (i := 839) (by decide +kernel), List.mem_of_getElem? (i := 840) (by decide +kernel)⟩
theorem lw_p28 : lw_okq (⟨"PanelOfficeModel", "changed", "()V"⟩, 35) := ⟨⟨by decide +kernel, by decide +kernel⟩, List.mem_of_getElem? (i := 903) (by decide +kernel), List.mem_of_getElem? (i := 1027) (by decide +kernel), List.mem_of_getElem? (i := 1028) (by decide +kernel)⟩
theorem lw_p29 : lw_okq (⟨"PanelOfficeModel", "gather", "()V"⟩, 35) := ⟨⟨by decide +kernel, by decide +kernel⟩, List.mem_of_getElem? (i := 903) (by decide +kernel), List.mem_of_getElem? (i := 1031) (by decide +kernel), List.mem_of_getElem? (i := 1032) (by decide +kernel)⟩
theorem lw_p30 : lw_okq (⟨"PanelOfficeModel", "is", "(I)I"⟩, 35) := ⟨⟨by decide +kernel, by decide +kernel⟩, List.mem_of_getElem? (i := 903) (by decide +kernel), List.mem_of_getElem? (i := 1035) (by decide +kernel), List.mem_of_getElem? (i := 1036) (by decide +kernel)⟩
theorem lw_p31 : lw_okq (⟨"PanelOfficeModel", "counts", "()Z"⟩, 35) := ⟨⟨by decide +kernel, by decide +kernel⟩, List.mem_of_getElem? (i := 903) (by decide +kernel), List.mem_of_getElem? (i := 1055) (by decide +kernel), List.mem_of_getElem? (i := 1056) (by decide +kernel)⟩
def lw_privs_2 : List (MethodName × Nat) := [(⟨"PanelOffice$Tally", "countBehind", "()V"⟩, 13), (⟨"PanelOffice$Tally", "passOn", "(II)V"⟩, 13), (⟨"PanelOffice$Tally", "aheadWithOneOf", "(II)J"⟩, 13), (⟨"PanelOffice$Clash", "tryWithout", "(IILPanelOffice$Quotas;I)V"⟩, 6), (⟨"PanelOffice", "requirePlace", "(I)V"⟩, 12), (⟨"PanelOffice$Ranking", "tellKind", "(IIJ[II)V"⟩, 2), (⟨"PanelOffice$Ranking", "membersOf", "(IJ)I"⟩, 2), (⟨"PanelOffice$Ranking", "indexIn", "(IIJ)J"⟩, 2), (⟨"PanelOffice", "goalNow", "()J"⟩, 12), (⟨"PanelOffice$Seats", "addValuesOf", "(I)V"⟩, 9), (⟨"PanelOffice", "requireNumber", "()V"⟩, 12), (⟨"PanelOffice", "requireDrawn", "()V"⟩, 12), (⟨"PanelOfficeModel", "changed", "()V"⟩, 35), (⟨"PanelOfficeModel", "gather", "()V"⟩, 35), (⟨"PanelOfficeModel", "is", "(I)I"⟩, 35), (⟨"PanelOfficeModel", "counts", "()Z"⟩, 35)]
theorem lw_r2 : ∀ q ∈ lw_privs_2, lw_okq q := List.forall_mem_cons.mpr ⟨lw_p16, List.forall_mem_cons.mpr ⟨lw_p17, List.forall_mem_cons.mpr ⟨lw_p18, List.forall_mem_cons.mpr ⟨lw_p19, List.forall_mem_cons.mpr ⟨lw_p20, List.forall_mem_cons.mpr ⟨lw_p21, List.forall_mem_cons.mpr ⟨lw_p22, List.forall_mem_cons.mpr ⟨lw_p23, List.forall_mem_cons.mpr ⟨lw_p24, List.forall_mem_cons.mpr ⟨lw_p25, List.forall_mem_cons.mpr ⟨lw_p26, List.forall_mem_cons.mpr ⟨lw_p27, List.forall_mem_cons.mpr ⟨lw_p28, List.forall_mem_cons.mpr ⟨lw_p29, List.forall_mem_cons.mpr ⟨lw_p30, List.forall_mem_cons.mpr ⟨lw_p31, fun _ h => absurd h List.not_mem_nil⟩⟩⟩⟩⟩⟩⟩⟩⟩⟩⟩⟩⟩⟩⟩⟩
theorem lw_p32 : lw_okq (⟨"PanelOfficeModel", "work", "(I)V"⟩, 35) := ⟨⟨by decide +kernel, by decide +kernel⟩, List.mem_of_getElem? (i := 903) (by decide +kernel), List.mem_of_getElem? (i := 1059) (by decide +kernel), List.mem_of_getElem? (i := 1060) (by decide +kernel)⟩
theorem lw_p33 : lw_okq (⟨"PanelOfficeModel", "list", "()V"⟩, 35) := ⟨⟨by decide +kernel, by decide +kernel⟩, List.mem_of_getElem? (i := 903) (by decide +kernel), List.mem_of_getElem? (i := 1063) (by decide +kernel), List.mem_of_getElem? (i := 1064) (by decide +kernel)⟩
theorem lw_p34 : lw_okq (⟨"PanelOfficeModel", "spread", "(II)V"⟩, 35) := ⟨⟨by decide +kernel, by decide +kernel⟩, List.mem_of_getElem? (i := 903) (by decide +kernel), List.mem_of_getElem? (i := 1067) (by decide +kernel), List.mem_of_getElem? (i := 1068) (by decide +kernel)⟩
theorem lw_p35 : lw_okq (⟨"PanelOfficeModel", "adds", "(I)J"⟩, 35) := ⟨⟨by decide +kernel, by decide +kernel⟩, List.mem_of_getElem? (i := 903) (by decide +kernel), List.mem_of_getElem? (i := 1071) (by decide +kernel), List.mem_of_getElem? (i := 1072) (by decide +kernel)⟩
theorem lw_p36 : lw_okq (⟨"PanelOfficeModel", "isAllowed", "(J)Z"⟩, 35) := ⟨⟨by decide +kernel, by decide +kernel⟩, List.mem_of_getElem? (i := 903) (by decide +kernel), List.mem_of_getElem? (i := 1075) (by decide +kernel), List.mem_of_getElem? (i := 1076) (by decide +kernel)⟩
theorem lw_p37 : lw_okq (⟨"PanelOfficeModel", "find", "(IJ)I"⟩, 35) := ⟨⟨by decide +kernel, by decide +kernel⟩, List.mem_of_getElem? (i := 903) (by decide +kernel), List.mem_of_getElem? (i := 1085) (by decide +kernel), List.mem_of_getElem? (i := 1086) (by decide +kernel)⟩
theorem lw_p38 : lw_okq (⟨"PanelOfficeModel", "isPanel", "(J)Z"⟩, 35) := ⟨⟨by decide +kernel, by decide +kernel⟩, List.mem_of_getElem? (i := 903) (by decide +kernel), List.mem_of_getElem? (i := 1093) (by decide +kernel), List.mem_of_getElem? (i := 1094) (by decide +kernel)⟩
theorem lw_p39 : lw_okq (⟨"PanelOfficeModel", "isPerson", "(I)Z"⟩, 35) := ⟨⟨by decide +kernel, by decide +kernel⟩, List.mem_of_getElem? (i := 903) (by decide +kernel), List.mem_of_getElem? (i := 1108) (by decide +kernel), List.mem_of_getElem? (i := 1109) (by decide +kernel)⟩
theorem lw_p40 : lw_okq (⟨"PanelOfficeModel", "kindOf", "(I)I"⟩, 35) := ⟨⟨by decide +kernel, by decide +kernel⟩, List.mem_of_getElem? (i := 903) (by decide +kernel), List.mem_of_getElem? (i := 1112) (by decide +kernel), List.mem_of_getElem? (i := 1113) (by decide +kernel)⟩
theorem lw_p41 : lw_okq (⟨"PanelOfficeModel", "left", "(I)I"⟩, 35) := ⟨⟨by decide +kernel, by decide +kernel⟩, List.mem_of_getElem? (i := 903) (by decide +kernel), List.mem_of_getElem? (i := 1124) (by decide +kernel), List.mem_of_getElem? (i := 1125) (by decide +kernel)⟩
theorem lw_p42 : lw_okq (⟨"PanelOfficeModel", "take", "(J)V"⟩, 35) := ⟨⟨by decide +kernel, by decide +kernel⟩, List.mem_of_getElem? (i := 903) (by decide +kernel), List.mem_of_getElem? (i := 1132) (by decide +kernel), List.mem_of_getElem? (i := 1133) (by decide +kernel)⟩
theorem lw_p43 : lw_okq (⟨"PanelOfficeModel", "rows", "(IIJ)V"⟩, 35) := ⟨⟨by decide +kernel, by decide +kernel⟩, List.mem_of_getElem? (i := 903) (by decide +kernel), List.mem_of_getElem? (i := 1136) (by decide +kernel), List.mem_of_getElem? (i := 1137) (by decide +kernel)⟩
theorem lw_p44 : lw_okq (⟨"PanelOfficeModel", "personOf", "(II)I"⟩, 35) := ⟨⟨by decide +kernel, by decide +kernel⟩, List.mem_of_getElem? (i := 903) (by decide +kernel), List.mem_of_getElem? (i := 1140) (by decide +kernel), List.mem_of_getElem? (i := 1141) (by decide +kernel)⟩
theorem lw_p45 : lw_okq (⟨"PanelOfficeModel", "index", "(II)J"⟩, 35) := ⟨⟨by decide +kernel, by decide +kernel⟩, List.mem_of_getElem? (i := 903) (by decide +kernel), List.mem_of_getElem? (i := 1152) (by decide +kernel), List.mem_of_getElem? (i := 1153) (by decide +kernel)⟩
theorem lw_p46 : lw_okq (⟨"PanelOfficeModel", "goalNow", "()J"⟩, 35) := ⟨⟨by decide +kernel, by decide +kernel⟩, List.mem_of_getElem? (i := 903) (by decide +kernel), List.mem_of_getElem? (i := 1160) (by decide +kernel), List.mem_of_getElem? (i := 1161) (by decide +kernel)⟩
theorem lw_p47 : lw_okq (⟨"PanelOfficeModel", "candidates", "()I"⟩, 35) := ⟨⟨by decide +kernel, by decide +kernel⟩, List.mem_of_getElem? (i := 903) (by decide +kernel), List.mem_of_getElem? (i := 1164) (by decide +kernel), List.mem_of_getElem? (i := 1165) (by decide +kernel)⟩
def lw_privs_3 : List (MethodName × Nat) := [(⟨"PanelOfficeModel", "work", "(I)V"⟩, 35), (⟨"PanelOfficeModel", "list", "()V"⟩, 35), (⟨"PanelOfficeModel", "spread", "(II)V"⟩, 35), (⟨"PanelOfficeModel", "adds", "(I)J"⟩, 35), (⟨"PanelOfficeModel", "isAllowed", "(J)Z"⟩, 35), (⟨"PanelOfficeModel", "find", "(IJ)I"⟩, 35), (⟨"PanelOfficeModel", "isPanel", "(J)Z"⟩, 35), (⟨"PanelOfficeModel", "isPerson", "(I)Z"⟩, 35), (⟨"PanelOfficeModel", "kindOf", "(I)I"⟩, 35), (⟨"PanelOfficeModel", "left", "(I)I"⟩, 35), (⟨"PanelOfficeModel", "take", "(J)V"⟩, 35), (⟨"PanelOfficeModel", "rows", "(IIJ)V"⟩, 35), (⟨"PanelOfficeModel", "personOf", "(II)I"⟩, 35), (⟨"PanelOfficeModel", "index", "(II)J"⟩, 35), (⟨"PanelOfficeModel", "goalNow", "()J"⟩, 35), (⟨"PanelOfficeModel", "candidates", "()I"⟩, 35)]
theorem lw_r3 : ∀ q ∈ lw_privs_3, lw_okq q := List.forall_mem_cons.mpr ⟨lw_p32, List.forall_mem_cons.mpr ⟨lw_p33, List.forall_mem_cons.mpr ⟨lw_p34, List.forall_mem_cons.mpr ⟨lw_p35, List.forall_mem_cons.mpr ⟨lw_p36, List.forall_mem_cons.mpr ⟨lw_p37, List.forall_mem_cons.mpr ⟨lw_p38, List.forall_mem_cons.mpr ⟨lw_p39, List.forall_mem_cons.mpr ⟨lw_p40, List.forall_mem_cons.mpr ⟨lw_p41, List.forall_mem_cons.mpr ⟨lw_p42, List.forall_mem_cons.mpr ⟨lw_p43, List.forall_mem_cons.mpr ⟨lw_p44, List.forall_mem_cons.mpr ⟨lw_p45, List.forall_mem_cons.mpr ⟨lw_p46, List.forall_mem_cons.mpr ⟨lw_p47, fun _ h => absurd h List.not_mem_nil⟩⟩⟩⟩⟩⟩⟩⟩⟩⟩⟩⟩⟩⟩⟩⟩
theorem lw_p48 : lw_okq (⟨"PanelOfficeModel", "leastBreach", "()I"⟩, 35) := ⟨⟨by decide +kernel, by decide +kernel⟩, List.mem_of_getElem? (i := 903) (by decide +kernel), List.mem_of_getElem? (i := 1168) (by decide +kernel), List.mem_of_getElem? (i := 1169) (by decide +kernel)⟩
theorem lw_p49 : lw_okq (⟨"PanelOfficeModel", "placeOf", "(I)I"⟩, 35) := ⟨⟨by decide +kernel, by decide +kernel⟩, List.mem_of_getElem? (i := 903) (by decide +kernel), List.mem_of_getElem? (i := 1172) (by decide +kernel), List.mem_of_getElem? (i := 1173) (by decide +kernel)⟩
theorem lw_p50 : lw_okq (⟨"PanelOfficeModel", "breachWith", "(I)I"⟩, 35) := ⟨⟨by decide +kernel, by decide +kernel⟩, List.mem_of_getElem? (i := 903) (by decide +kernel), List.mem_of_getElem? (i := 1176) (by decide +kernel), List.mem_of_getElem? (i := 1177) (by decide +kernel)⟩
theorem lw_p51 : lw_okq (⟨"PanelOfficeModel", "isCandidate", "(II)Z"⟩, 35) := ⟨⟨by decide +kernel, by decide +kernel⟩, List.mem_of_getElem? (i := 903) (by decide +kernel), List.mem_of_getElem? (i := 1180) (by decide +kernel), List.mem_of_getElem? (i := 1181) (by decide +kernel)⟩
theorem lw_p52 : lw_okq (⟨"PanelOfficeModel", "used", "()V"⟩, 35) := ⟨⟨by decide +kernel, by decide +kernel⟩, List.mem_of_getElem? (i := 903) (by decide +kernel), List.mem_of_getElem? (i := 1196) (by decide +kernel), List.mem_of_getElem? (i := 1197) (by decide +kernel)⟩
theorem lw_p53 : lw_okq (⟨"PanelOfficeModel", "candidateAt", "(J)I"⟩, 35) := ⟨⟨by decide +kernel, by decide +kernel⟩, List.mem_of_getElem? (i := 903) (by decide +kernel), List.mem_of_getElem? (i := 1212) (by decide +kernel), List.mem_of_getElem? (i := 1213) (by decide +kernel)⟩
def lw_privs_4 : List (MethodName × Nat) := [(⟨"PanelOfficeModel", "leastBreach", "()I"⟩, 35), (⟨"PanelOfficeModel", "placeOf", "(I)I"⟩, 35), (⟨"PanelOfficeModel", "breachWith", "(I)I"⟩, 35), (⟨"PanelOfficeModel", "isCandidate", "(II)Z"⟩, 35), (⟨"PanelOfficeModel", "used", "()V"⟩, 35), (⟨"PanelOfficeModel", "candidateAt", "(J)I"⟩, 35)]
theorem lw_r4 : ∀ q ∈ lw_privs_4, lw_okq q := List.forall_mem_cons.mpr ⟨lw_p48, List.forall_mem_cons.mpr ⟨lw_p49, List.forall_mem_cons.mpr ⟨lw_p50, List.forall_mem_cons.mpr ⟨lw_p51, List.forall_mem_cons.mpr ⟨lw_p52, List.forall_mem_cons.mpr ⟨lw_p53, fun _ h => absurd h List.not_mem_nil⟩⟩⟩⟩⟩⟩
def lw_privs : List (MethodName × Nat) := lw_privs_1 ++ (lw_privs_2 ++ (lw_privs_3 ++ (lw_privs_4)))
def lw_tbl : List Cond := k2_sels lw_privs ++ tables_1
theorem lw_privs_ok : ∀ q ∈ lw_privs, lw_okq q := by
  show ∀ q ∈ lw_privs_1 ++ (lw_privs_2 ++ (lw_privs_3 ++ (lw_privs_4))), lw_okq q
  exact List.forall_mem_append.mpr ⟨lw_r1, List.forall_mem_append.mpr ⟨lw_r2, List.forall_mem_append.mpr ⟨lw_r3, lw_r4⟩⟩⟩
-- ===== end of PART A; then your names; then what follows =====
end
section
/-! Own rows, of no class: a method's contract with two ends (it returns, or it throws), a walk begun anew at the point where it stands, an exception made and thrown. -/
section TwoEnds
variable {p : Program} {l : Launch} {e : Env} {R : Room} {s : State} {m : MethodId} {args : Array Value} {below : List Frame} {meth : Method} {c : Code} {T : State} {locs : List Loc} {cells slots : Nat}
/-- what is left of the frame's word when the end is not named: the tables are warmer, nothing has moved but the slots L and what is new -/
def xe_End (st t : State) (L : List Loc) (k n : Nat) : Prop := st.WarmedH t.vm ∧ st.sameButNew ({ t with vm := st.vm } : State) L k n
/-- how much is new at an end: nothing at a return, the exception at a throw -/
def xk (o : Outcome) (k : Nat) : Nat := match o with
  | .returned _ => 0
  | .threw _ => k
/-- a contract whose method returns or throws -/
def MetX (l : Launch) (y : MethodName) (ws : List Cond) (rm : Room) (Pc : Array Value → State → Prop) (Qc : Array Value → State → Outcome → State → Prop) (free : Addr → Prop) : Prop :=
  MetFree l y (headSpec ws rm) Pc (fun _ _ _ _ _ => True) (fun a st o t => Qc a st o t ∧ ∃ L, xe_End st t L (xk o 1) (xk o 6) ∧ ∀ q ∈ L, free q.base)
def MQX (below : List Frame) (Qc : Array Value → State → Outcome → State → Prop) (a : Array Value) (s : State) (free : Addr → Prop) : State → Prop := fun t =>
  ∃ o, t.status = .running ∧ Ended t below o ∧ Qc a s o t ∧ ∃ L, xe_End s t L (xk o 1) (xk o 6) ∧ ∀ q ∈ L, free q.base
theorem MQX.of {Qc : Array Value → State → Outcome → State → Prop} {a : Array Value} {free : Addr → Prop} {t : State} (h : MQ below Qc a s 0 0 free t) : MQX below Qc a s free t := by
  obtain ⟨o, h1, h2, h3, L, h4, h5⟩ := h
  obtain ⟨⟨v, rfl⟩, h6⟩ := h4
  exact ⟨_, h1, h2, h3, L, h6, h5⟩
/-- a walk whose end is weakened -/
theorem W.imp {H : Heap} {Q Q' : State → Prop} {g : JFrame} (h : ∀ t, Q t → Q' t) (w : W p l e R s m args below meth c H locs cells slots Q g) : W p l e R s m args below meth c H locs cells slots Q' g := by
  intro T hT X
  obtain ⟨t, a, b⟩ := w T hT X
  exact ⟨t, a, h t b⟩
theorem MetX.ofW {y : MethodName} {ws : List Cond} {rm : Room} {Pc : Array Value → State → Prop} {Qc : Array Value → State → Outcome → State → Prop} {free : Addr → Prop} {cc : ByteArray} {maxL : Nat} {ret : Option FieldType}
    (hy : plainName y.cls = true) (his : ∀ (args : Array Value) (s : State) (m : MethodId), (headSpec ws rm).pre.before args s = true → s.methodNamed? y = some m → ∃ meth c, s.vm.method? m = some meth ∧ meth.code = some c ∧ c.code = cc ∧ c.maxLocals = maxL ∧ meth.sig.returnType = ret ∧ meth.locks = false)
    (body : ∀ p e s m args below meth c s₁, BodyLoose p l y (headSpec ws rm) cc maxL ret e s m args below meth c s₁ → c.maxLocals = maxL → Pc args s →
      W p l e (headSpec ws rm).room s m args below meth c s.heap [] 0 0 (MQX below Qc args s free) (entryFrame m args maxL)) : MetX l y ws rm Pc Qc free := by
  refine MetFree.of_bodyS (code := cc) (maxLocals := maxL) (ret := ret) hy his ?_
  intro p e s m args below meth c s₁ B hml hP _
  have hh0 : s₁.heap = s.heap := by rw [B.state]; rfl
  obtain ⟨t, a1, o, b1, b2, b3⟩ := body p e s m args below meth c s₁ B hml hP s₁ hh0 (Stand.of_body B)
  exact ⟨t, o, a1, b1, b2, b3⟩
/-- the walk begun anew where it stands: the same frames, the heap and the tables as they are now -/
theorem st_re (X : Stand p l e R s m args below meth c T locs cells slots) (kc ks : Nat) (h1 : cells + kc ≤ R.cells) (h2 : slots + ks ≤ R.slots) :
    Stand p l e { R with cells := kc, slots := ks } (T.setFrames (.invoking m args :: below)) m args below meth c T [] 0 0 := by
  obtain ⟨g₀, hfr⟩ := X.frames_eq
  have hcur : T.cur < T.threads.size := State.cur_lt_of_frames hfr
  have hF : (T.setFrames (.invoking m args :: below)).frames = .invoking m args :: below := State.frames_setFrames _ hcur
  have hmeth : (T.setFrames (.invoking m args :: below)).vm.method? m = some meth := X.method'
  refine ⟨X.admits, X.cas, X.clock, hF, ?_, ?_, hmeth, X.code, X.here, X.tail, State.WarmedH.refl T, (State.stackLimits_setFrames _ _ _).symm, (State.stackBytes_setFrames _ _).symm, ?_⟩
  · have h0 := X.room
    have hb : (T.setFrames (.invoking m args :: below)).slotsTrue = true := X.book
    have hl0 := State.localsInUse_invoking X.frames X.method X.code
    have hl1 := State.localsInUse_invoking hF hmeth X.code
    have hcells : (T.setFrames (.invoking m args :: below)).heap.size + kc ≤ e.platform.maxCells := X.cellsAbove (n := kc) h1
    have hslots : (T.setFrames (.invoking m args :: below)).slotsUsed + ks ≤ e.platform.maxSlots := X.slotsAbove (n := ks) h2
    simp only [State.hasRoom, Bool.and_eq_true, decide_eq_true_eq] at h0 ⊢
    rw [hl0, X.frames] at h0
    rw [hl1, hF, State.stackLimits_setFrames, State.stackBytes_setFrames, X.limits, X.bytes]
    exact ⟨⟨⟨h0.1.1.1, hcells⟩, hslots⟩, hb⟩
  · have h0 := X.hears
    have hal := X.warmed.alike
    revert h0
    unfold State.hears
    cases below with
    | nil => intro h0; show (T.vm.method? m).any _ = true; rw [hal.method?]; exact h0
    | cons f r =>
      cases f with
      | java g =>
        intro h0
        have h0 : ((s.code? g.method).bind fun c => (decode c.code g.pc).toOption).isSome = true := h0
        have h1 : (T.setFrames (.invoking m args :: .java g :: r)).code? g.method = s.code? g.method := by
          rw [State.code?_eq, State.code?_eq]
          show (T.vm.method? g.method).bind _ = _
          rw [hal.method?]
        show (((T.setFrames (.invoking m args :: .java g :: r)).code? g.method).bind fun c => (decode c.code g.pc).toOption).isSome = true
        rw [h1]; exact h0
      | native _ => intro _; rfl
      | proc _ => intro _; rfl
      | _ => intro h0; show (T.vm.method? m).any _ = true; rw [hal.method?]; exact h0
  · obtain ⟨t, ht, -⟩ := State.frames_cons hfr
    have hdrop : T.heap.toList.drop T.heap.size = [] := List.drop_eq_nil_of_le (by simp)
    refine ⟨?_, Nat.le_refl _, Nat.le_refl _, ?_, ?_, fun a c h => ⟨c, h, rfl, rfl, fun _ _ => rfl⟩⟩
    · show T = { (T.setFrames (.invoking m args :: below)).setFrames T.frames with heap := T.heap, slotsUsed := T.slotsUsed }
      rw [State.setFrames_setFrames, State.setFrames_self ht]
    · show T.slotsUsed = T.slotsUsed + ((T.heap.toList.drop T.heap.size).map (·.slots.size)).sum
      rw [hdrop]; rfl
    · show ((T.heap.toList.drop T.heap.size).map (·.slots.size)).sum ≤ 0
      rw [hdrop]; exact Nat.le_refl _
/-- what a walk begun anew left unmoved, said of the first walk -/
theorem st_back (X : Stand p l e R s m args below meth c T locs cells slots) {fs : List Frame} {U : State} {k n : Nat} (h : (T.setFrames fs).sameButNew ({ U with vm := (T.setFrames fs).vm } : State) [] k n) :
    s.sameButNew ({ U with vm := s.vm } : State) locs (cells + k) (slots + n) := by
  have h' : T.sameButNew ({ U with vm := T.vm } : State) [] k n := by
    obtain ⟨h1, h2, h3, h4, h5, h6⟩ := h
    refine ⟨?_, h2, h3, h4, h5, h6⟩
    rw [State.setFrames_setFrames] at h1
    exact h1
  have h2 := X.same.trans (h'.setVm s.vm)
  rw [List.append_nil] at h2
  exact h2
end TwoEnds
end
section
/-! Own rows: a call with two ends; an exception made, constructed and thrown; an exception that goes on; an exception that is caught. -/
section TwoCalls
variable {p : Program} {l : Launch} {e : Env} {R : Room} {s : State} {m : MethodId} {args : Array Value} {below : List Frame} {meth : Method} {c : Code} {T : State} {locs : List Loc} {cells slots : Nat}
/-- behind the invoking instruction's own step: the callee comes back with a value, or it throws over the caller's frame; either way the caller stands -/
theorem xc_two {y : MethodName} {ws : List Cond} {rm : Room} {Pc : Array Value → State → Prop} {Qc : Array Value → State → Outcome → State → Prop} {free : Addr → Prop} (hM : MetX l y ws rm Pc Qc free)
    (X : Stand p l e R s m args below meth c T locs cells slots) {mk : MethodId} {methY : Method} {cY : Code} {kY : Class} (hn : T.methodNamed? y = some mk) (hmY : T.vm.method? mk = some methY) (hcY : methY.code = some cY)
    (hkY : T.vm.classes[mk.cls]? = some kY) (hini : kY.init = .initialized) {a : Array Value} (hpre : (headSpec ws rm).pre.before a T = true) {g : JFrame} {ig : Instr} {len : Nat} (hg : g.method = m) (hsize : g.locals.size = c.maxLocals) (hdg : decode c.code g.pc = .ok (ig, len))
    (hframes : rm.frames + 1 ≤ R.frames) (hlocals : 2 * g.monitorRoom + (g.stack.map fun v => v.category).sum + (cY.maxLocals + 11) + rm.locals ≤ R.locals) (hcells : cells + rm.cells ≤ R.cells) (hslots : slots + rm.slots ≤ R.slots) (hP : Pc a (T.calling g mk a)) :
    ∃ (o : Outcome) (t T' : State) (L : List Loc), Stand p l e R s m args below meth c T' (locs ++ L) (cells + xk o 1) (slots + xk o 6) ∧ (∀ q ∈ L, free q.base) ∧ T'.heap = t.heap ∧ T'.vm = t.vm ∧ Qc a (T.calling g mk a) o t ∧
      ((∃ v, o = .returned v ∧ Steps p.tables e below (doInvoke e (T.setTop g) [] mk a).1 (T'.setTop { g with pc := g.pc + len, stack := v.toList ++ g.stack })) ∨
       (∃ x, o = .threw x ∧ Steps p.tables e below (doInvoke e (T.setTop g) [] mk a).1 ((T'.setTop g).pushFrame (.throwing x)))) := by
  have h : At T g.method c below := by rw [hg]; exact X.here
  have happ : (headSpec ws rm).appliesLoose y e.platform (T.calling g mk a) = true :=
    Spec.appliesLoose_calling (g := g) h hdg hn hkY hini (X.room_calling (g := g) (R' := (headSpec ws rm).room) hsize hmY hcY hframes hlocals hcells hslots) hpre
  obtain ⟨mid, hmid⟩ := h.above
  have hfr : (T.setTop g).frames = (.java g :: mid) ++ below := by rw [State.frames_setTop' g h.top, hmid]; rfl
  obtain ⟨o, t, hsteps, -, hend, hq0⟩ := Steps.callFree hM p X.admits X.cas X.clock (acts := []) hfr happ hP trivial
  have hq0 : Qc a (T.calling g mk a) o t ∧ ∃ L, xe_End (T.calling g mk a) t L (xk o 1) (xk o 6) ∧ ∀ q ∈ L, free q.base := hq0
  obtain ⟨hq, L, ⟨hW0, e2, q2, q3, q4, q5, q6⟩, hL⟩ := hq0
  rw [State.frames_setTop' g h.top] at hend
  have hW : T.WarmedH t.vm := hW0
  have e3 : t = ({ (T.calling g mk a).setFrames t.frames with heap := t.heap, slotsUsed := t.slotsUsed } : State).setVm t.vm := by
    have e4 : t = ({ t with vm := (T.calling g mk a).vm } : State).setVm t.vm := rfl
    rw [e2] at e4
    exact e4
  obtain ⟨g₀, hg0⟩ := Option.isSome_iff_exists.mp h.top
  obtain ⟨r, hr⟩ := State.topJava?_eq_some.mp hg0
  have hr' : (({ T with heap := t.heap, slotsUsed := t.slotsUsed } : State).setVm t.vm).frames = .java g₀ :: r := hr
  have hsame : T.sameButNew ({ T with heap := t.heap, slotsUsed := t.slotsUsed } : State) L (xk o 1) (xk o 6) := by
    refine ⟨?_, q2, q3, q4, q5, q6⟩
    obtain ⟨th, ht, -⟩ := State.frames_cons hr
    show ({ T with heap := t.heap, slotsUsed := t.slotsUsed } : State) = { T.setFrames T.frames with heap := t.heap, slotsUsed := t.slotsUsed }
    rw [State.setFrames_self ht]
  subst hg
  refine ⟨o, t, ({ T with heap := t.heap, slotsUsed := t.slotsUsed } : State).setVm t.vm, L, ⟨X.admits, X.cas, X.clock, X.frames, X.room, X.hears, X.method, X.code, (X.here.setHeapUsed t.heap t.slotsUsed).setVm hW.alike, X.tail, State.WarmedH.trans X.warmed hW, X.limits, X.bytes, X.same.trans (hsame.setVm s.vm)⟩, hL, rfl, rfl, hq, ?_⟩
  cases o with
  | returned v =>
    refine Or.inl ⟨v, rfl, ?_⟩
    obtain ⟨c₂, i₂, len₂, hc₂, hd₂, hf₂⟩ := hend
    have hcc : c₂ = c := by
      have h1 : t.code? g.method = T.code? g.method := by rw [State.code?_eq, State.code?_eq, hW.alike.method?]
      exact Option.some.inj (hc₂.symm.trans (h1.trans h.code))
    subst hcc
    have hlen : len₂ = len := by rw [hdg] at hd₂; cases hd₂; rfl
    subst hlen
    have ht : t = (({ T with heap := t.heap, slotsUsed := t.slotsUsed } : State).setVm t.vm).setTop { g with pc := g.pc + len₂, stack := v.toList ++ g.stack } := by
      refine e3.trans ?_
      rw [hf₂, State.calling_eq h.top, State.setFrames_setFrames, State.setTop_of_frames _ hr', hr]
      rfl
    rw [← ht]
    exact hsteps
  | threw x =>
    refine Or.inr ⟨x, rfl, ?_⟩
    have hf₂ : t.frames = .throwing x :: .java g :: T.frames.tail := hend
    have ht : t = ((({ T with heap := t.heap, slotsUsed := t.slotsUsed } : State).setVm t.vm).setTop g).pushFrame (.throwing x) := by
      refine e3.trans ?_
      rw [hf₂, State.calling_eq h.top, State.setFrames_setFrames, State.pushFrame, State.frames_setTop _ hr', State.setTop_of_frames _ hr', State.setFrames_setFrames, hr]
      rfl
    rw [← ht]
    exact hsteps
/-- how a call's two ends go on in the caller, as a property of its walk: 'kr' behind a return, 'kt' behind a throw (the note over the caller's frame) -/
def XRun (p : Program) (l : Launch) (e : Env) (R : Room) (s : State) (m : MethodId) (args : Array Value) (below : List Frame) (meth : Method) (c : Code) (H : Heap) (locs : List Loc) (cells slots : Nat) (g : JFrame) (rest : List Value) (Qa : State → Outcome → State → Prop) (free : Addr → Prop) : Prop :=
  ∀ T : State, T.heap = H → Stand p l e R s m args below meth c T locs cells slots → ∃ (o : Outcome) (st₀ t T' : State) (L : List Loc), st₀.heap = H ∧ s.WarmedH st₀.vm ∧ Stand p l e R s m args below meth c T' (locs ++ L) (cells + xk o 1) (slots + xk o 6) ∧ (∀ q ∈ L, free q.base) ∧ T'.heap = t.heap ∧ T'.vm = t.vm ∧ Qa st₀ o t ∧
    ((∃ v, o = .returned v ∧ Goes p e below T g T' { g with pc := g.pc + 3, stack := v.toList ++ rest }) ∨ (∃ x, o = .threw x ∧ ∀ tg, Steps p.tables e below ((T'.setTop { g with stack := rest }).pushFrame (.throwing x)) tg → Steps p.tables e below (T.setTop g) tg))
end TwoCalls
section TwoRuns
variable {p : Program} {l : Launch} {e : Env} {R : Room} {s : State} {m : MethodId} {args : Array Value} {below : List Frame} {meth : Method} {c : Code} {H : Heap} {locs : List Loc} {cells slots : Nat}
variable {y : MethodName} {cc : ByteArray} {nL n index maxL : Nat} {ws : List Cond} {rm : Room} {Pc : Array Value → State → Prop} {Qc : Array Value → State → Outcome → State → Prop} {free : Addr → Prop} {own C : String} {b : Addr} {As rest : List Value} {g : JFrame}
/-- what a caller must know of its callee's code, at every state with warmer tables -/
def XCode (s : State) (y : MethodName) (maxL n : Nat) (ws : List Cond) : Prop :=
  (y.cls ≠ "java/lang/invoke/MethodHandle" ∧ y.cls ≠ "java/lang/invoke/VarHandle") ∧ (∀ (a' : Array Value) (U : State), s.WarmedH U.vm → (allAtoms ws).before a' U = true) ∧
  ∃ (mk : MethodId) (meth : Method) (c : Code), s.methodNamed? y = some mk ∧ s.vm.method? mk = some meth ∧ meth.code = some c ∧ c.maxLocals = maxL ∧ parseMethodDescriptor y.desc = some meth.sig ∧ meth.sig.parameters.length = n
/-- invokevirtual of a method with two ends -/
theorem xc_runV (hx : p.tables.exec = Jvm.exec) (hb : c.code = cc) (hml : c.maxLocals = nL) (hown : s.vm.findClass own = some m.cls) (hM : MetX l y ws rm Pc Qc free) (hbl : FrameBlind Pc)
    (hcode : XCode s y maxL n ws) (hlink : (Cond.methodLink own index y).before args s = true) (hinst : (Cond.instanceMethod y).before args s = true) (hsel : (Cond.selects C y y).before args s = true) (hini : (Cond.initialized y.cls).before args s = true)
    (hR : rm.frames + 1 ≤ R.frames ∧ 8 + (maxL + 11) + rm.locals ≤ R.locals)
    (hrecv : ∃ cellB : Cell, H[b]? = some cellB ∧ cellB.vm.isStatics = false ∧ s.vm.findClass C = some cellB.cls) (hPc : ∀ U : State, U.heap = H → s.WarmedH U.vm → Pc (Value.ref b :: As).toArray U)
    (hg : g.method = m) (hn : As.length = n) (hsize : g.locals.size = nL) (hstack : g.stack = As.reverse ++ .ref b :: rest) (hW : 2 * g.monitorRoom + (rest.map fun v => v.category).sum ≤ 8) (hdg : decode cc g.pc = .ok (.invokevirtual index, 3)) (hf : cells + rm.cells ≤ R.cells ∧ slots + rm.slots ≤ R.slots) :
    XRun p l e R s m args below meth c H locs cells slots g rest (Qc (Value.ref b :: As).toArray) free := by
  intro T hT X
  subst hb
  obtain ⟨hy, hws, mk, methM, cM, hnamed, hmethM, hcM, hmlM, hsigM, hlenM⟩ := hcode
  obtain ⟨mk', methM', hnamed', hmethM', hstM, habM⟩ := Cond.instanceMethod_spec hinst
  cases Option.some.inj (hnamed.symm.trans hnamed')
  cases Option.some.inj (hmethM.symm.trans hmethM')
  obtain ⟨cellB, hcB, hoB, hclB⟩ := hrecv
  obtain ⟨c2, r2, m2, q1, q2, q3, q4, kP, hkP, hkPi⟩ := Cond.selects_spec hsel
  cases Option.some.inj (hclB.symm.trans q1)
  cases Option.some.inj ((State.methodFound?_of_named hnamed hy).symm.trans q2)
  cases Option.some.inj (hnamed.symm.trans q3)
  have hselP : selectMethod e.platform s.vm cellB.cls mk = .method mk := by rw [Launch.admits_selectMethod X.admits]; exact q4
  have hkI : kP.init = .initialized := Cond.initialized_spec (findClass_of_methodNamed hnamed) hkP hini
  obtain ⟨vm₁, X₁, hstep₁⟩ := X.invokevirtual hx hown hlink hnamed hmethM hstM hkP hkPi hy (a := b) (cell := cellB) (by rw [hT]; exact hcB)
    (fun z h => by rw [h] at hoB; cases hoB) hselP hmethM habM hkP hkPi (g := g) hg (argsL := As) (rest := rest) (by rw [hn, hlenM]) hstack hdg
  obtain ⟨kP₁, hkP₁, heP₁⟩ := X₁.warmed.alike.2.2 _ _ hkP
  have hm₁ : (T.setVm vm₁).vm.method? mk = some methM := by rw [X₁.warmed.alike.method?]; exact hmethM
  obtain ⟨o, t, T', L, X', hL, e1, e2, hq, hend⟩ := xc_two hM X₁ (g := { g with stack := rest }) (a := (Value.ref b :: As).toArray) (X₁.named hnamed) hm₁ hcM hkP₁ (by rw [heP₁]; exact hkI) (hws _ _ X₁.warmed) hg (hsize.trans hml.symm) hdg hR.1
    (by rw [hmlM]; show 2 * g.monitorRoom + (rest.map fun v => v.category).sum + (maxL + 11) + rm.locals ≤ R.locals; omega) hf.1 hf.2 (hbl _ _ _ _ (hPc (T.setVm vm₁) hT X₁.warmed))
  refine ⟨o, (T.setVm vm₁).calling { g with stack := rest } mk (Value.ref b :: As).toArray, t, T', L, hT, X₁.warmed, X', hL, e1, e2, hq, ?_⟩
  rcases hend with ⟨v, ho, hs⟩ | ⟨x, ho, hs⟩
  · exact Or.inl ⟨v, ho, fun tg h => hstep₁ _ fun acts => by rw [doInvoke_state]; exact hs.trans h⟩
  · exact Or.inr ⟨x, ho, fun tg h => hstep₁ _ fun acts => by rw [doInvoke_state]; exact hs.trans h⟩
/-- invokestatic of a method with two ends -/
theorem xc_runS (hx : p.tables.exec = Jvm.exec) (hb : c.code = cc) (hml : c.maxLocals = nL) (hown : s.vm.findClass own = some m.cls) (hM : MetX l y ws rm Pc Qc free) (hbl : FrameBlind Pc)
    (hcode : XCode s y maxL n ws) (hlink : (Cond.methodLink own index y).before args s = true) (hstat : (Cond.static y).before args s = true) (hini : (Cond.initialized y.cls).before args s = true)
    (hR : rm.frames + 1 ≤ R.frames ∧ 8 + (maxL + 11) + rm.locals ≤ R.locals)
    (hPc : ∀ U : State, U.heap = H → s.WarmedH U.vm → Pc As.toArray U)
    (hg : g.method = m) (hn : As.length = n) (hsize : g.locals.size = nL) (hstack : g.stack = As.reverse ++ rest) (hW : 2 * g.monitorRoom + (rest.map fun v => v.category).sum ≤ 8) (hdg : decode cc g.pc = .ok (.invokestatic index, 3)) (hf : cells + rm.cells ≤ R.cells ∧ slots + rm.slots ≤ R.slots) :
    XRun p l e R s m args below meth c H locs cells slots g rest (Qc As.toArray) free := by
  intro T hT X
  subst hb
  obtain ⟨hy, hws, mk, methM, cM, hnamed, hmethM, hcM, hmlM, hsigM, hlenM⟩ := hcode
  have hstatic : methM.isStatic = true := Cond.static_spec hnamed hmethM hstat
  obtain ⟨kP, hkP, -⟩ := className_of_methodNamed hnamed
  have hkPi : kP.init = .initialized := Cond.initialized_spec (findClass_of_methodNamed hnamed) hkP hini
  obtain ⟨vm₁, X₁, hstep₁⟩ := X.invokestatic hx hown hlink hnamed hmethM hstatic hkP hkPi hy (g := g) hg (argsL := As) (rest := rest) (by rw [hn, hlenM]) hstack hdg
  obtain ⟨kP₁, hkP₁, heP₁⟩ := X₁.warmed.alike.2.2 _ _ hkP
  have hm₁ : (T.setVm vm₁).vm.method? mk = some methM := by rw [X₁.warmed.alike.method?]; exact hmethM
  obtain ⟨o, t, T', L, X', hL, e1, e2, hq, hend⟩ := xc_two hM X₁ (g := { g with stack := rest }) (a := As.toArray) (X₁.named hnamed) hm₁ hcM hkP₁ (by rw [heP₁]; exact hkPi) (hws _ _ X₁.warmed) hg (hsize.trans hml.symm) hdg hR.1
    (by rw [hmlM]; show 2 * g.monitorRoom + (rest.map fun v => v.category).sum + (maxL + 11) + rm.locals ≤ R.locals; omega) hf.1 hf.2 (hbl _ _ _ _ (hPc (T.setVm vm₁) hT X₁.warmed))
  refine ⟨o, (T.setVm vm₁).calling { g with stack := rest } mk As.toArray, t, T', L, hT, X₁.warmed, X', hL, e1, e2, hq, ?_⟩
  rcases hend with ⟨v, ho, hs⟩ | ⟨x, ho, hs⟩
  · exact Or.inl ⟨v, ho, fun tg h => hstep₁ _ fun acts => by rw [doInvoke_state]; exact hs.trans h⟩
  · exact Or.inr ⟨x, ho, fun tg h => hstep₁ _ fun acts => by rw [doInvoke_state]; exact hs.trans h⟩
end TwoRuns
end
section
/-! Own rows: 'throw new X("text")' in a method without handlers, whatever the method wrote before. -/
section Throw
variable {p : Program} {l : Launch} {e : Env} {R : Room} {s : State} {m : MethodId} {args : Array Value} {below : List Frame} {meth : Method} {c : Code} {H : Heap} {locs : List Loc}
/-- ldc_w of a String constant that is resolved -/
theorem xt_ldcw {cc : ByteArray} {cells slots pc : Nat} {Q : State → Prop} {ls : Array Slot} {rest : List Value} (hexec : p.tables.exec = Jvm.exec) (hb : c.code = cc) {own tx : String} {index q : Nat} (hown : s.vm.findClass own = some m.cls) (hZ : vk_R own index tx q s) (hdg : decode cc pc = .ok (.ldc_w index, 3))
    (kk : W p l e R s m args below meth c H locs cells slots Q (F0 m (pc + 3) ls (.ref q :: rest))) : W p l e R s m args below meth c H locs cells slots Q (F0 m pc ls rest) := by
  intro T hT X
  obtain ⟨t, a1, b1⟩ := kk T hT X
  obtain ⟨k, cf, i, a', hk, hcf, hcp, -, hr, hev'⟩ := Cond.stringRef_spec hown hZ.1
  cases hZ.2.symm.trans hev'
  obtain ⟨k', hk', he⟩ := X.warmed.alike.2.2 _ _ hk
  have hr' : k'.resolved[index]? = some (some (.string q)) := by
    obtain ⟨k2, hk2, -, -, hres, -⟩ := X.warmed.2.2 _ _ hk
    cases Option.some.inj (hk'.symm.trans hk2)
    rcases hres index with h | h
    · rw [h]; exact hr
    · rw [hr] at h; cases h.1
  refine ⟨t, ?_, b1⟩
  subst hb
  jvm_step X.here [hexec, hdg, ldc_w.wp_string (s := T) (f := F0 m pc ls rest) X.here.top hk' (by rw [he]; exact hcf) hcp hr']
  exact a1
/-- old cells, where nothing is free -/
theorem xt_old {s t : State} {k n : Nat} (h : s.sameButNew t [] k n) {q : Nat} (hq : q < s.heap.size) : t.heap[q]? = s.heap[q]? := by
  obtain ⟨cell, hc⟩ : ∃ cell, s.heap[q]? = some cell := ⟨s.heap[q], by simp [hq]⟩
  obtain ⟨c', h1, h2, h3, h4⟩ := h.2.2.2.2.2 q cell hc
  have h5 : c'.slots = cell.slots := by
    apply Array.ext_getElem?
    intro i
    exact h4 i (by simp)
  rw [h1, hc, h2, h5]
end Throw
end
section
/-! Own rows: the constructor X(String) of an exception whose link to its superclass's constructor stands at any place of its constant pool (NoSuchElementException: 13); then athrow. Begun in a walk that has written nothing. -/
section Ctor
variable {p : Program} {l : Launch} {e : Env} {R : Room} {s : State} {m : MethodId} {args : Array Value} {below : List Frame} {meth : Method} {c : Code} {T : State} {cells slots : Nat}
def xt_atoms (own : String) (ic : Nat) (cls nxt : String) (names : List String) (i0 : Nat) (by0 : ByteArray) : List Cond :=
  (Bundle.throwableAtoms ++ Bundle.throwableSAtoms) ++ (Bundle.passSAtoms cls nxt i0 by0 ++ Bundle.chainSAtoms nxt names) ++
  [.methodLink own ic (Bundle.initS cls), .instantiable cls 6, .selects cls Bundle.tFill0 Bundle.tFill0, .selects cls Bundle.tFill Bundle.tFill,
   .lays cls Bundle.tN "cause" "Ljava/lang/Throwable;", .lays cls Bundle.tN "stackTrace" Bundle.steD, .lays cls Bundle.tN "suppressedExceptions" Bundle.listD, .lays cls Bundle.tN "detailMessage" "Ljava/lang/String;",
   .isRef (.static Bundle.tN "UNASSIGNED_STACK" Bundle.steD), .isRef (.static Bundle.tN "SUPPRESSED_SENTINEL" Bundle.listD),
   .fieldLink Bundle.tN 198 Bundle.tN "backtrace" "Ljava/lang/Object;", .lays Bundle.tN Bundle.tN "backtrace" "Ljava/lang/Object;", .lays cls Bundle.tN "backtrace" "Ljava/lang/Object;"]
set_option maxHeartbeats 2000000 in
theorem xt_ctor (X : Stand p l e R s m args below meth c T [] cells slots) (hexec : p.tables.exec = Jvm.exec) (htr : e.platform.stackTraces = false) {own cls nxt : String} {names : List String} {ic i0 : Nat} {by0 : ByteArray}
    (hown : s.vm.findClass own = some m.cls) (hcls : Bundle.fit cls = true) (hnxt : Bundle.fit nxt = true) (hnames : ∀ n ∈ names, Bundle.fit n = true)
    (hd : decode by0 0 = .ok (.aload_n 0, 1) ∧ decode by0 1 = .ok (.aload_n 1, 1) ∧ decode by0 2 = .ok (.invokespecial i0, 3) ∧ decode by0 5 = .ok (.return_, 1))
    (h : ∀ w ∈ xt_atoms own ic cls nxt names i0 by0, w.before args s = true)
    {a : Addr} {cX : ClassId} {kX : Class} (hfX : s.vm.findClass cls = some cX) (hkX : s.vm.classes[cX]? = some kX) (hcell : T.heap[a]? = some (freshCell cX kX)) (hnew : s.heap.size ≤ a)
    {msg : Value} (hmsg : msg.isRef = true) {g : JFrame} (hg : g.method = m) (hsize : g.locals.size = c.maxLocals) (hlocked : g.locked = none) (hentered : g.entered = []) (hstack : g.stack = [msg, .ref a, .ref a])
    (hd6 : decode c.code g.pc = .ok (.invokespecial ic, 3)) (hd9 : decode c.code (g.pc + 3) = .ok (.athrow, 1)) (hout : ∀ x ∈ c.exceptionTable.toList, covers x (g.pc + 3) = false)
    (hRf : names.length + 4 < R.frames) (hRl : 2 * g.monitorRoom + 1 + (13 * (names.length + 2) + 42) ≤ R.locals) (hlk : meth.locks = false) :
    ∃ U : State, Steps p.tables e below (T.setTop g) U ∧ U.status = .running ∧ Ended U below (.threw a) ∧ s.WarmedH U.vm ∧ s.sameButNew ({ U with vm := s.vm } : State) [] cells slots ∧
      ∃ ce, U.heap[a]? = some ce ∧ ce.vm = .none ∧ s.vm.findClass cls = some ce.cls := by
  have hpl : e.platform.magicAccessors = ({} : Platform).magicAccessors := by rw [X.admits.platform]
  have A : ∀ w, w ∈ xt_atoms own ic cls nxt names i0 by0 → w.holds args s none s [] = true := fun w hw => h w hw
  have hTa : ∀ w ∈ Bundle.throwableAtoms, w.before args s = true := fun w hw => h w (by simp [xt_atoms, hw])
  have hTs : ∀ w ∈ Bundle.throwableSAtoms, w.before args s = true := fun w hw => h w (by simp [xt_atoms, hw])
  obtain ⟨K, Z0, L, -, Y⟩ := ThrowableC.of_atoms (args := args) (by rw [X.admits.platform]) (by rw [X.admits.platform]) hpl hTa
  obtain ⟨Z, M, LZ, LM, hnZ⟩ := Init0T.ofS_atoms (args := args) hpl L Y hTs
  -- the chain: the first link by itself, the others as the library has them
  obtain ⟨P1, L1, hP1, hsup⟩ := PassC.ofS_atoms (args := args) (s := s) hpl (X := cls) (Y := nxt) (index := i0) (bytes := by0) (Bundle.fit_spec hcls).1 (Bundle.fit_spec hnxt).2 hd.1 hd.2.1 hd.2.2.1 hd.2.2.2 (fun w hw => h w (by simp [xt_atoms, hw]))
  obtain ⟨P2, Ps, hlen, L2, hLs, hP2, hl2, hls⟩ := Bundle.chainS (args := args) hpl hnZ names nxt hnxt hnames (fun w hw => h w (by simp [xt_atoms, hw]))
  have hfP : s.vm.findClass cls = some P1.m.cls := findClass_of_methodNamed hP1
  cases Option.some.inj (hfX.symm.trans hfP)
  obtain ⟨c1, k1, hc1, hk1, hord, -, -, hn6⟩ := Cond.instantiable_spec (A (.instantiable cls 6) (by simp [xt_atoms]))
  cases Option.some.inj (hc1.symm.trans hfP)
  cases Option.some.inj (hkX.symm.trans hk1)
  have sel : ∀ (x : MethodName) (mx : MethodId), s.methodNamed? x = some mx → (x.cls ≠ "java/lang/invoke/MethodHandle" ∧ x.cls ≠ "java/lang/invoke/VarHandle") → (Cond.selects cls x x).holds args s none s [] = true → selectMethod e.platform s.vm P1.m.cls mx = .method mx := by
    intro x mx hn hx hs
    obtain ⟨c2, r2, m2, q1, q2, q3, q4, -⟩ := Cond.selects_spec hs
    cases Option.some.inj (q1.symm.trans hfP)
    cases Option.some.inj (q2.symm.trans (State.methodFound?_of_named hn hx))
    cases Option.some.inj (q3.symm.trans hn)
    rw [Launch.admits_selectMethod X.admits]
    exact q4
  have hs0 := sel _ _ Y.fill0 (by decide) (A (.selects cls Bundle.tFill0 Bundle.tFill0) (by simp [xt_atoms]))
  have hsF := sel _ _ Y.fill (by decide) (A (.selects cls Bundle.tFill Bundle.tFill) (by simp [xt_atoms]))
  obtain ⟨cS0, hcS0, hiss⟩ := Y.statics
  obtain ⟨u0, hu0⟩ := Cond.staticRefV Y.unassigned L.unassignedStatic L.statics hcS0 hiss (A (.isRef (.static Bundle.tN "UNASSIGNED_STACK" Bundle.steD)) (by simp [xt_atoms]))
  obtain ⟨sen, hsen⟩ := Cond.staticRefV Y.sentinel L.sentinelStatic L.statics hcS0 hiss (A (.isRef (.static Bundle.tN "SUPPRESSED_SENTINEL" Bundle.listD)) (by simp [xt_atoms]))
  have hcS : T.heap[K.aS]? = some cS0 := by
    rw [← hcS0]
    exact xt_old (s := s) (t := T.setVm s.vm) X.same (Array.getElem?_eq_some_iff.mp hcS0).1
  have hkn : cS0.vm ≠ .unknown := by
    intro hu
    rw [hu] at hiss
    cases hiss
  have hne : K.aS ≠ a := Nat.ne_of_lt (Nat.lt_of_lt_of_le (Array.getElem?_eq_some_iff.mp hcS0).1 hnew)
  obtain ⟨iM, hffM⟩ := Y.msg
  obtain ⟨ci, ii, fB, hk198, hg198, ha198, hsB, -, hnB, htB, hffB⟩ := Cond.ownField (t := .object "java/lang/Object") Y.found L.cls (by decide +kernel) (A (.fieldLink Bundle.tN 198 Bundle.tN "backtrace" "Ljava/lang/Object;") (by simp [xt_atoms])) (A (.lays Bundle.tN Bundle.tN "backtrace" "Ljava/lang/Object;") (by simp [xt_atoms])) e.platform hpl
  obtain ⟨tyC, dC, hdC, hdnC⟩ := Cond.laysAt hfP hk1 Y.cause (A (.lays cls Bundle.tN "cause" "Ljava/lang/Throwable;") (by simp [xt_atoms]))
  obtain ⟨tyS, dS, hdS, hdnS⟩ := Cond.laysAt hfP hk1 Y.stack (A (.lays cls Bundle.tN "stackTrace" Bundle.steD) (by simp [xt_atoms]))
  obtain ⟨tyP, dP, hdP, hdnP⟩ := Cond.laysAt hfP hk1 Y.supp (A (.lays cls Bundle.tN "suppressedExceptions" Bundle.listD) (by simp [xt_atoms]))
  obtain ⟨tyM, dM, hdM, hdnM⟩ := Cond.laysAt hfP hk1 hffM (A (.lays cls Bundle.tN "detailMessage" "Ljava/lang/String;") (by simp [xt_atoms]))
  obtain ⟨tyB, dB, hdB, hdnB⟩ := Cond.laysAt hfP hk1 hffB (A (.lays cls Bundle.tN "backtrace" "Ljava/lang/Object;") (by simp [xt_atoms]))
  have bC := Cond.laysApart hdB hdC hdnB hdnC (by rw [hnB, Y.causeName]; decide)
  have bS := Cond.laysApart hdB hdS hdnB hdnS (by rw [hnB, Y.stackName]; decide)
  have bP := Cond.laysApart hdB hdP hdnB hdnP (by rw [hnB, Y.suppName]; decide)
  have hskip : SkipFacts K e.platform s (fun u => u) u0 ((preparedCellV K.toThrowableT (freshCell P1.m.cls kX) a u0 sen).withEntry T.cur) :=
    ⟨{ ci198 := ci, i198 := ii, fBack := fB }, ⟨hk198, hg198, ha198, hsB⟩, by
      have h9 := fresh_default (c := P1.m.cls) tyB
      rw [htB] at h9
      simpa [preparedCellV, Cell.setSlot, Cell.withEntry, Array.getElem?_setIfInBounds, bC, bS, bP, bC.symm, bS.symm, bP.symm, defaultValue] using h9, fun _ _ => rfl⟩
  obtain ⟨tm, methC, cdC, kC, vm₁, hnC, -, -, -, -, -, -, -, hW₁, st1⟩ := Steps.initColdS (tb := p.tables) (e := e) (below := below) (s := s) (U := T) X.here hexec X.warmed hpl hown (t := Bundle.initS cls) rfl rfl (Bundle.fit_spec hcls).2
    (A (.methodLink own ic (Bundle.initS cls)) (by simp [xt_atoms])) (h (.instanceMethod (Bundle.initS cls)) (by simp [xt_atoms, Bundle.passSAtoms])) (bytes := by0) (maxL := 2) (h (.code (Bundle.initS cls) by0 2 none) (by simp [xt_atoms, Bundle.passSAtoms]))
    (f := g) hg (a := a) (msg := msg) (rest := [.ref a]) hstack hd6
  cases Option.some.inj (hnC.symm.trans hP1)
  have X₁ := X.noted hW₁
  have hsup2 : P1.sup = P2.m := Option.some.inj (hsup.symm.trans hP2)
  obtain ⟨vm₂, X₂, st2⟩ := X₁.ctorMessageOffV hexec (g := { g with stack := [.ref a] }) hg hsize K L Z LZ M LM (P1 :: P2 :: Ps)
    (fun P hP => by
      rcases List.mem_cons.mp hP with rfl | hP
      · exact L1
      · rcases List.mem_cons.mp hP with rfl | hP
        · exact L2
        · exact hLs P hP)
    ⟨hsup2, hl2, hls⟩ (u0 := u0) (sen := sen) (self := a) hmsg (cell := freshCell P1.m.cls kX) (cellS := cS0)
    hcell (fun _ => by simp) (by simp) rfl rfl hs0 hsF hcS hne hkn hu0 hsen
    (Takes.of_laid hk1 hord tyC (by rw [Y.causeType]; rfl)) (Takes.of_laid hk1 hord tyS (by rw [Y.stackType]; exact fits_refV_array _ u0)) (Takes.of_laid hk1 hord tyP (by rw [Y.suppType]; exact fits_refV_object _ sen))
    (Takes.of_laid hk1 hord tyM (by rw [Y.msgType]; exact fits_refV_object _ ⟨msg, hmsg⟩)) Y.objLocals hskip htr [] hd6
    (by simp only [List.length_cons, hlen]; omega) (by simp only [List.length_cons, hlen, List.map_cons, List.map_nil, List.sum_cons, List.sum_nil, Value.category]; have h8 : (({ g with stack := [.ref a] } : JFrame)).monitorRoom = g.monitorRoom := rfl; rw [h8]; omega)
  obtain ⟨hwalk, hrun, hended, hWU, hsame⟩ := X₂.athrowLeaves hexec (g := { g with stack := [.ref a], pc := g.pc + 3 }) hg hlocked hentered hout (a := a) (rest := []) rfl hd9 hlk
  have ha : a < T.heap.size := (Array.getElem?_eq_some_iff.mp hcell).1
  refine ⟨_, st1 _ (fun acts => ?_), hrun, hended, hWU, hsame.weaken (fun y hy hlt' => ?_) (Nat.le_refl _) (Nat.le_refl _), plainBareV K.toThrowableT (freshCell P1.m.cls kX) a u0 sen msg, ?_, rfl, hfP⟩
  · rw [doInvoke_state]
    exact st2 _ hwalk
  · exfalso
    have hb : y.base = a := by
      rw [List.nil_append] at hy
      simp only [List.mem_cons, List.not_mem_nil, or_false] at hy
      rcases hy with rfl | rfl | rfl | rfl | rfl <;> rfl
    rw [hb] at hlt'
    exact Nat.not_lt.mpr hnew hlt'
  · show (((T.setVm vm₁).setVm vm₂).setCell a _).heap[a]? = _
    simp [State.setCell, ha]
end Ctor
end
section
/-! Own rows: 'throw new X("text")' in a method without handlers, whatever the method wrote before. -/
section Throw2
variable {p : Program} {l : Launch} {e : Env} {R : Room} {s : State} {m : MethodId} {args : Array Value} {below : List Frame} {meth : Method} {c : Code} {H : Heap} {locs : List Loc}
/-- the words that 'throw new cls(text)' needs at a state -/
def xt_Ok (own cls tx : String) (names : List String) (ix is ic : Nat) (a : Array Value) (U : State) : Prop :=
  (Cond.classLink own ix cls).before a U = true ∧ (Cond.instantiable cls 6).before a U = true ∧ (Cond.initialized cls).before a U = true ∧ ((∀ w ∈ Bundle.ownAtoms own ic cls names, w.before a U = true) ∨ ∃ (nxt : String) (rest : List String) (i0 : Nat) (by0 : ByteArray), names = nxt :: rest ∧ (decode by0 0 = .ok (.aload_n 0, 1) ∧ decode by0 1 = .ok (.aload_n 1, 1) ∧ decode by0 2 = .ok (.invokespecial i0, 3) ∧ decode by0 5 = .ok (.return_, 1)) ∧ ∀ w ∈ xt_atoms own ic cls nxt rest i0 by0, w.before a U = true) ∧ ∃ q : Nat, vk_R own is tx q U
theorem xt_throw {cc : ByteArray} {own cls tx : String} {names : List String} {ix is ic pc n2 : Nat} {ls : Array Slot} {Qc : Array Value → State → Outcome → State → Prop} {free : Addr → Prop}
    (hx : p.tables.exec = Jvm.exec) (hb : c.code = cc) (hsz : ls.size = c.maxLocals) (hown : s.vm.findClass own = some m.cls) (htr : l.stackTraces = false) (hlk : meth.locks = false) (hexc : c.exceptionTable.isEmpty = true) (hcls : Bundle.fit cls = true) (hnames : ∀ n ∈ names, Bundle.fit n = true)
    (hw : ∀ U : State, U.heap = H → s.WarmedH U.vm → xt_Ok own cls tx names ix is ic args U)
    (hR : names.length + 3 < R.frames ∧ 1 + (13 * (names.length + 1) + 42) ≤ R.locals) (hC : 0 + 1 ≤ R.cells) (hS : 0 + 6 ≤ R.slots) (hfree : ∀ q ∈ locs, free q.base)
    (d0 : decode cc pc = .ok (.new ix, 3)) (d1 : decode cc (pc + 3) = .ok (.dup, 1)) (d2 : (decode cc (pc + 3 + 1) = .ok (.ldc is, 2) ∧ n2 = 2) ∨ (decode cc (pc + 3 + 1) = .ok (.ldc_w is, 3) ∧ n2 = 3)) (d3 : decode cc (pc + 3 + 1 + n2) = .ok (.invokespecial ic, 3)) (d4 : decode cc (pc + 3 + 1 + n2 + 3) = .ok (.athrow, 1))
    (hQ : ∀ (U : State) (ce : Cell), s.WarmedH U.vm → H.size ≤ U.heap.size → (∀ q : Nat, q < H.size → U.heap[q]? = H[q]?) → U.heap[H.size]? = some ce → ce.vm = .none → (∃ v : Vm, s.WarmedH v ∧ v.findClass cls = some ce.cls) → Qc args s (.threw H.size) U) :
    W p l e R s m args below meth c H locs 0 0 (MQX below Qc args s free) (F0 m pc ls []) := by
  intro T hT X
  subst hT
  have X' := st_re X 1 6 hC hS
  have hvm : s.WarmedH (T.setFrames (.invoking m args :: below)).vm := X.warmed
  obtain ⟨w1, w2, w3, w4, q, w5⟩ := hw (T.setFrames (.invoking m args :: below)) rfl hvm
  have hown' : (T.setFrames (.invoking m args :: below)).vm.findClass own = some m.cls := by
    show T.vm.findClass own = _
    rw [X.warmed.alike.findClass]; exact hown
  have key : W p l e { R with cells := 1, slots := 6 } (T.setFrames (.invoking m args :: below)) m args below meth c T.heap [] 0 0
      (fun U => ∃ (ce : Cell), U.status = .running ∧ Ended U below (.threw T.heap.size) ∧ (T.setFrames (.invoking m args :: below)).WarmedH U.vm ∧ (T.setFrames (.invoking m args :: below)).sameButNew ({ U with vm := (T.setFrames (.invoking m args :: below)).vm } : State) [] 1 6 ∧ U.heap[T.heap.size]? = some ce ∧ ce.vm = .none ∧ T.vm.findClass cls = some ce.cls) (F0 m pc ls []) := by
    refine W.newc hx hb hown' w1 w2 w3 rfl d0 (Nat.le_refl _) (Nat.le_refl _) (fun cC kC hf hk hord hsz6 => ?_)
    refine lv_dup (rest := []) hx hb d1 rfl ?_
    have key2 : W p l e { R with cells := 1, slots := 6 } (T.setFrames (.invoking m args :: below)) m args below meth c (T.heap.push { cls := cC, slots := kC.instanceTypes.map defaultValue, vm := .none }) [] (0 + 1) (0 + 6)
        (fun U => ∃ (ce : Cell), U.status = .running ∧ Ended U below (.threw T.heap.size) ∧ (T.setFrames (.invoking m args :: below)).WarmedH U.vm ∧ (T.setFrames (.invoking m args :: below)).sameButNew ({ U with vm := (T.setFrames (.invoking m args :: below)).vm } : State) [] 1 6 ∧ U.heap[T.heap.size]? = some ce ∧ ce.vm = .none ∧ T.vm.findClass cls = some ce.cls) (F0 m (pc + 3 + 1 + n2) ls [.ref q, .ref T.heap.size, .ref T.heap.size]) := by
      intro T2 hT2 X2
      subst hb
      have hce0 : T2.heap[T.heap.size]? = some (freshCell cC kC) := by rw [hT2]; simp
      have hout : ∀ x ∈ c.exceptionTable.toList, covers x (pc + 3 + 1 + n2 + 3) = false := fun x hx => by rw [Array.isEmpty_iff.mp hexc] at hx; cases hx
      rcases w4 with w4 | ⟨nxt, nrest, i0, by0, rfl, hdec, w4⟩
      · obtain ⟨U, st, hrun, hend, hW, hsame, ce, hce, hoc⟩ := X2.ctorThrowS hx (by rw [X.admits.platform]; exact htr) (own := own) (cls := cls) (names := names) (ic := ic) hown' hcls hnames w4 (fun x h => by cases h) (a := T.heap.size) hf hk
          hce0 (Nat.le_refl _) (msg := .ref q) rfl (g := F0 m (pc + 3 + 1 + n2) ls [.ref q, .ref T.heap.size, .ref T.heap.size]) rfl hsz rfl rfl (rest := []) rfl d3 d4 hout hR.1 (by simpa [JFrame.monitorRoom, Value.category] using hR.2) hlk
        exact ⟨U, st, ce, hrun, hend, hW, hsame, hce, hoc.vm, hoc.cls⟩
      · obtain ⟨U, st, hrun, hend, hW, hsame, ce, hce, hvm, hcl⟩ := xt_ctor X2 hx (by rw [X.admits.platform]; exact htr) (own := own) (cls := cls) (nxt := nxt) (names := nrest) (ic := ic) (i0 := i0) (by0 := by0) hown' hcls (hnames nxt List.mem_cons_self) (fun n hn => hnames n (List.mem_cons_of_mem _ hn)) hdec w4 (a := T.heap.size) hf hk
          hce0 (Nat.le_refl _) (msg := .ref q) rfl (g := F0 m (pc + 3 + 1 + n2) ls [.ref q, .ref T.heap.size, .ref T.heap.size]) rfl hsz rfl rfl rfl d3 d4 hout (by have h9 := hR.1; simp only [List.length_cons] at h9; omega) (by have h9 := hR.2; simp only [List.length_cons] at h9; show 2 * 0 + 1 + (13 * (nrest.length + 2) + 42) ≤ R.locals; omega) hlk
        exact ⟨U, st, ce, hrun, hend, hW, hsame, hce, hvm, hcl⟩
    rcases d2 with ⟨d2, rfl⟩ | ⟨d2, rfl⟩
    · exact va_ldcS hx hb hown' w5 d2 key2
    · exact xt_ldcw hx hb hown' w5 d2 key2
  obtain ⟨U, st, ce, hrun, hend, hW, hsame, hce, hnone, hcl⟩ := key T rfl X'
  have hW2 : s.WarmedH U.vm := State.WarmedH.trans X.warmed hW
  refine ⟨U, st, .threw T.heap.size, hrun, hend, ?_, locs, ⟨hW2, by have h9 := st_back X hsame; rw [Nat.zero_add, Nat.zero_add] at h9; exact h9⟩, hfree⟩
  exact hQ U ce hW2 hsame.2.1 (fun q hq => xt_old hsame hq) hce hnone ⟨T.vm, X.warmed, hcl⟩
end Throw2
end
section
/-! Own rows: an exception that is caught by a clause of the method's own table, the clauses' classes resolved or not; methods with such clauses. -/
section Catch
/-- one clause of the table: it covers the place, it links to a class; the exception's class can be assigned to it (then its handler takes it), or it can't (then the search goes on) -/
def xk_Hit (pl : Platform) (s : State) (d : ClassId) (pc : Nat) (thrown : ClassId) (h : Nat) : List ExceptionTableEntry → Prop
  | [] => False
  | x :: t => covers x pc = true ∧ x.catchType ≠ 0 ∧ ∃ c, s.vm.ClassLinks pl d x.catchType c ∧ ((s.vm.assignable thrown c = true ∧ x.handlerPc = h) ∨ (s.vm.assignable thrown c = false ∧ xk_Hit pl s d pc thrown h t))
theorem xk_one {e : Env} {f : JFrame} {a : Addr} {cell : Cell} {S : State} {x : ExceptionTableEntry} {t : List ExceptionTableEntry} {c : ClassId} (hobj : ∀ k, cell.vm ≠ .statics k) (hcell : S.heap[a]? = some cell) (hx : covers x f.pc = true) (h0 : x.catchType ≠ 0) (hl : S.vm.ClassLinks e.platform f.method.cls x.catchType c)
    (h1 : ∃ k, S.vm.classes[cell.cls]? = some k) (h2 : ∃ k, S.vm.classes[c]? = some k) (Q : Handler → Pre) (E : CtlPost) (d : Bool) (acts : List Action) :
    wp (findHandler.go f a (x :: t)) Q E e d acts S ↔ if S.vm.assignable cell.cls c = true then Q (.found x.handlerPc) d acts (S.setVm (S.vm.noted f.method.cls x.catchType (.cls c))) else wp (findHandler.go f a t) Q E e d acts (S.setVm (S.vm.noted f.method.cls x.catchType (.cls c))) := by
  have hal : S.vm.Alike (S.vm.noted f.method.cls x.catchType (.cls c)) := (Vm.Alike.refl S.vm).noted _ _ _
  obtain ⟨g1, g2⟩ := (resolveClass_links e.toSetting hl).op (op := VmOp.resolveClass f.method.cls x.catchType) rfl
  obtain ⟨k1, q1⟩ := h1
  obtain ⟨k2, q2⟩ := h2
  obtain ⟨k1', q1', -⟩ := hal.2.2 _ _ q1
  obtain ⟨k2', q2', -⟩ := hal.2.2 _ _ q2
  have hasg := hal.assignable cell.cls c
  simp only [covers] at hx
  cases hfit : S.vm.assignable cell.cls c
  · have hf' : (S.vm.noted f.method.cls x.catchType (.cls c)).assignable cell.cls c = false := by rw [hasg]; exact hfit
    simp [findHandler.go, hx, h0, g1, g2, hcell, hobj, q1', q2', hf', VmOp.dirties, VmOp.acts]
  · have hf' : (S.vm.noted f.method.cls x.catchType (.cls c)).assignable cell.cls c = true := by rw [hasg]; exact hfit
    simp [findHandler.go, hx, h0, g1, g2, hcell, hobj, q1', q2', hf', VmOp.dirties, VmOp.acts]
theorem xk_search {e : Env} {s : State} {f : JFrame} {a : Addr} {cell : Cell} {h : Nat} (hobj : ∀ k, cell.vm ≠ .statics k) (hk : ∃ k, s.vm.classes[cell.cls]? = some k) :
    ∀ (es : List ExceptionTableEntry) (S : State), s.WarmedH S.vm → S.heap[a]? = some cell → xk_Hit e.platform s f.method.cls f.pc cell.cls h es →
      ∃ vm', s.WarmedH vm' ∧ ∀ (Q : Handler → Pre) (E : CtlPost) (d : Bool) (acts : List Action), wp (findHandler.go f a es) Q E e d acts S ↔ Q (.found h) d acts (S.setVm vm') := by
  intro es
  induction es with
  | nil => intro S _ _ hh; exact hh.elim
  | cons x t ih =>
    intro S hW hcell hh
    obtain ⟨hx, h0, c, hl, hor⟩ := hh
    obtain ⟨dk, _, _, kt, hd, _, _, _, _, hkt, _, hop⟩ := hl.here
    obtain ⟨k0, hk0⟩ := hk
    obtain ⟨k0', hk0', -⟩ := hW.alike.2.2 _ _ hk0
    obtain ⟨kt', hkt', -⟩ := hW.alike.2.2 _ _ hkt
    have hW2 : s.WarmedH (S.vm.noted f.method.cls x.catchType (.cls c)) := hW.noted hd hop (State.rightAt_cls hl)
    have one := fun Q E d acts => xk_one (e := e) (f := f) (t := t) hobj hcell hx h0 (hW.classLinks hl) ⟨k0', hk0'⟩ ⟨kt', hkt'⟩ Q E d acts
    have hasg := hW.alike.assignable cell.cls c
    rcases hor with ⟨hfit, rfl⟩ | ⟨hno, hrest⟩
    · exact ⟨_, hW2, fun Q E d acts => by rw [one Q E d acts, if_pos (by rw [hasg]; exact hfit)]⟩
    · obtain ⟨vm', hW', hq⟩ := ih (S.setVm (S.vm.noted f.method.cls x.catchType (.cls c))) hW2 hcell hrest
      exact ⟨vm', hW', fun Q E d acts => by rw [one Q E d acts, if_neg (by rw [hasg, hno]; decide)]; exact hq Q E d acts⟩
theorem xk_caught {p : Program} {l : Launch} {e : Env} {R : Room} {s : State} {m : MethodId} {args : Array Value} {below : List Frame} {meth : Method} {c : Code} {T : State} {locs : List Loc} {cells slots : Nat} (X : Stand p l e R s m args below meth c T locs cells slots)
    (a : Addr) {g : JFrame} (hg : g.method = m) {cell : Cell} (hcell : T.heap[a]? = some cell) (hvm : cell.vm = .none) (hk : ∃ k, s.vm.classes[cell.cls]? = some k) {h : Nat} (hh : xk_Hit e.platform s m.cls g.pc cell.cls h c.exceptionTable.toList) :
    ∃ vm', Stand p l e R s m args below meth c (T.setVm vm') locs cells slots ∧ ∀ tg, Steps p.tables e below ((T.setVm vm').setTop { g with pc := h, stack := [.ref a] }) tg → Steps p.tables e below ((T.setTop g).pushFrame (.throwing a)) tg := by
  subst hg
  obtain ⟨vm', hW', hq⟩ := xk_search (e := e) (s := s) (f := g) (a := a) (cell := cell) (h := h) (fun k hk => by rw [hvm] at hk; cases hk) hk c.exceptionTable.toList ((T.setTop g).pushFrame (.throwing a)) X.warmed hcell hh
  refine ⟨vm', X.noted hW', fun tg hrest => ?_⟩
  have hAt := X.here
  obtain ⟨hgo, hw⟩ := hAt.throwing a
  refine Steps.head hgo hw ?_
  have hstep : (stepThrowing e ((T.setTop g).pushFrame (.throwing a)) a (.java g :: T.frames.tail)).Is ((((T.setTop g).pushFrame (.throwing a)).setVm vm').setFrames (.java { g with pc := h, stack := [.ref a] } :: T.frames.tail)) [] := by
    simp only [stepThrowing, searchFrame, vmDo]
    generalize hr : Sem.go _ e false [] ((T.setTop g).pushFrame (.throwing a)) = res
    have hm : ((T.setTop g).pushFrame (.throwing a)).vm.method? g.method = some meth := X.method'
    obtain ⟨as, rfl, ha⟩ := Sem.eq_ok_of hr (a := Handler.found h) (s' := ((T.setTop g).pushFrame (.throwing a)).setVm vm') (acts' := []) (by simp [W.findHandler_eq hm X.code, hq _ _ _ _])
    exact ⟨rfl, ha⟩
  rw [stepThread_throwing (frames_entered hAt.top _), hstep.1]
  obtain ⟨g₀, hfr⟩ := X.frames_eq
  have hr' : (T.setVm vm').frames = .java g₀ :: below := hfr
  rw [State.setTop_of_frames _ hr'] at hrest
  have e1 : (((T.setTop g).pushFrame (.throwing a)).setVm vm').setFrames (.java { g with pc := h, stack := [.ref a] } :: T.frames.tail) = (T.setVm vm').setFrames (.java { g with pc := h, stack := [.ref a] } :: below) := by
    rw [State.pushFrame, State.setTop_of_frames _ hfr, hfr]
    show (((T.setVm vm').setFrames _).setFrames _).setFrames _ = _
    rw [State.setFrames_setFrames, State.setFrames_setFrames]
    rfl
  rw [e1]
  exact hrest
end Catch
end
