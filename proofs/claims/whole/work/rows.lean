section
-- ===== PART A: goes FIRST, ahead of the names: the tables' words, and 'selects' of the private methods out of them =====
/-- a private method of a class that the tables say can be made, by its rows of tables_1 -/
def lw_okq (q : MethodName × Nat) : Prop := (q.1.cls ≠ "java/lang/invoke/MethodHandle" ∧ q.1.cls ≠ "java/lang/invoke/VarHandle") ∧ Cond.instantiable q.1.cls q.2 ∈ tables_1 ∧ Cond.privateMethod q.1 ∈ tables_1 ∧ Cond.instanceMethod q.1 ∈ tables_1
theorem lw_p0 : lw_okq (⟨"SettingsDesk", "changeTo", "(LSettingsDesk$Settings;)Z"⟩, 12) := ⟨⟨by decide +kernel, by decide +kernel⟩, List.mem_of_getElem? (i := 23) (by decide +kernel), List.mem_of_getElem? (i := 242) (by decide +kernel), List.mem_of_getElem? (i := 243) (by decide +kernel)⟩
theorem lw_p1 : lw_okq (⟨"SettingsDesk", "olderCount", "()I"⟩, 12) := ⟨⟨by decide +kernel, by decide +kernel⟩, List.mem_of_getElem? (i := 23) (by decide +kernel), List.mem_of_getElem? (i := 292) (by decide +kernel), List.mem_of_getElem? (i := 293) (by decide +kernel)⟩
theorem lw_p2 : lw_okq (⟨"SettingsDesk", "requireOpenSchema", "()V"⟩, 12) := ⟨⟨by decide +kernel, by decide +kernel⟩, List.mem_of_getElem? (i := 23) (by decide +kernel), List.mem_of_getElem? (i := 307) (by decide +kernel), List.mem_of_getElem? (i := 308) (by decide +kernel)⟩
theorem lw_p3 : lw_okq (⟨"java/lang/Throwable", "fillInStackTrace", "(I)Ljava/lang/Throwable;"⟩, 6) := ⟨⟨by decide +kernel, by decide +kernel⟩, List.mem_of_getElem? (i := 350) (by decide +kernel), List.mem_of_getElem? (i := 348) (by decide +kernel), List.mem_of_getElem? (i := 349) (by decide +kernel)⟩
theorem lw_p4 : lw_okq (⟨"SettingsDesk", "requireList", "(I)V"⟩, 12) := ⟨⟨by decide +kernel, by decide +kernel⟩, List.mem_of_getElem? (i := 23) (by decide +kernel), List.mem_of_getElem? (i := 390) (by decide +kernel), List.mem_of_getElem? (i := 391) (by decide +kernel)⟩
theorem lw_p5 : lw_okq (⟨"SettingsDesk", "requireLeaf", "(II)V"⟩, 12) := ⟨⟨by decide +kernel, by decide +kernel⟩, List.mem_of_getElem? (i := 23) (by decide +kernel), List.mem_of_getElem? (i := 451) (by decide +kernel), List.mem_of_getElem? (i := 452) (by decide +kernel)⟩
theorem lw_p6 : lw_okq (⟨"SettingsDesk", "requireReady", "()V"⟩, 12) := ⟨⟨by decide +kernel, by decide +kernel⟩, List.mem_of_getElem? (i := 23) (by decide +kernel), List.mem_of_getElem? (i := 569) (by decide +kernel), List.mem_of_getElem? (i := 570) (by decide +kernel)⟩
theorem lw_p7 : lw_okq (⟨"SettingsDesk", "requireSession", "(I)V"⟩, 12) := ⟨⟨by decide +kernel, by decide +kernel⟩, List.mem_of_getElem? (i := 23) (by decide +kernel), List.mem_of_getElem? (i := 574) (by decide +kernel), List.mem_of_getElem? (i := 575) (by decide +kernel)⟩
theorem lw_p8 : lw_okq (⟨"SettingsDesk", "begunSessions", "()I"⟩, 12) := ⟨⟨by decide +kernel, by decide +kernel⟩, List.mem_of_getElem? (i := 23) (by decide +kernel), List.mem_of_getElem? (i := 584) (by decide +kernel), List.mem_of_getElem? (i := 585) (by decide +kernel)⟩
theorem lw_p9 : lw_okq (⟨"SettingsDesk", "requireBegun", "(I)V"⟩, 12) := ⟨⟨by decide +kernel, by decide +kernel⟩, List.mem_of_getElem? (i := 23) (by decide +kernel), List.mem_of_getElem? (i := 596) (by decide +kernel), List.mem_of_getElem? (i := 597) (by decide +kernel)⟩
theorem lw_p10 : lw_okq (⟨"SettingsDesk", "requireCandidateRow", "(IIII)I"⟩, 12) := ⟨⟨by decide +kernel, by decide +kernel⟩, List.mem_of_getElem? (i := 23) (by decide +kernel), List.mem_of_getElem? (i := 642) (by decide +kernel), List.mem_of_getElem? (i := 643) (by decide +kernel)⟩
theorem lw_p11 : lw_okq (⟨"SettingsDesk", "settingsOf", "(I)LSettingsDesk$Settings;"⟩, 12) := ⟨⟨by decide +kernel, by decide +kernel⟩, List.mem_of_getElem? (i := 23) (by decide +kernel), List.mem_of_getElem? (i := 669) (by decide +kernel), List.mem_of_getElem? (i := 670) (by decide +kernel)⟩
theorem lw_p12 : lw_okq (⟨"SettingsDesk", "olderSet", "(I)LSettingsDesk$Settings;"⟩, 12) := ⟨⟨by decide +kernel, by decide +kernel⟩, List.mem_of_getElem? (i := 23) (by decide +kernel), List.mem_of_getElem? (i := 773) (by decide +kernel), List.mem_of_getElem? (i := 774) (by decide +kernel)⟩
theorem lw_p13 : lw_okq (⟨"SettingsDesk", "writePages", "(I)Z"⟩, 12) := ⟨⟨by decide +kernel, by decide +kernel⟩, List.mem_of_getElem? (i := 23) (by decide +kernel), List.mem_of_getElem? (i := 858) (by decide +kernel), List.mem_of_getElem? (i := 859) (by decide +kernel)⟩
theorem lw_p14 : lw_okq (⟨"SettingsDesk", "failPower", "()V"⟩, 12) := ⟨⟨by decide +kernel, by decide +kernel⟩, List.mem_of_getElem? (i := 23) (by decide +kernel), List.mem_of_getElem? (i := 862) (by decide +kernel), List.mem_of_getElem? (i := 863) (by decide +kernel)⟩
theorem lw_p15 : lw_okq (⟨"SettingsDeskModel", "isList", "(I)Z"⟩, 35) := ⟨⟨by decide +kernel, by decide +kernel⟩, List.mem_of_getElem? (i := 874) (by decide +kernel), List.mem_of_getElem? (i := 999) (by decide +kernel), List.mem_of_getElem? (i := 1000) (by decide +kernel)⟩
def lw_privs_1 : List (MethodName × Nat) := [(⟨"SettingsDesk", "changeTo", "(LSettingsDesk$Settings;)Z"⟩, 12), (⟨"SettingsDesk", "olderCount", "()I"⟩, 12), (⟨"SettingsDesk", "requireOpenSchema", "()V"⟩, 12), (⟨"java/lang/Throwable", "fillInStackTrace", "(I)Ljava/lang/Throwable;"⟩, 6), (⟨"SettingsDesk", "requireList", "(I)V"⟩, 12), (⟨"SettingsDesk", "requireLeaf", "(II)V"⟩, 12), (⟨"SettingsDesk", "requireReady", "()V"⟩, 12), (⟨"SettingsDesk", "requireSession", "(I)V"⟩, 12), (⟨"SettingsDesk", "begunSessions", "()I"⟩, 12), (⟨"SettingsDesk", "requireBegun", "(I)V"⟩, 12), (⟨"SettingsDesk", "requireCandidateRow", "(IIII)I"⟩, 12), (⟨"SettingsDesk", "settingsOf", "(I)LSettingsDesk$Settings;"⟩, 12), (⟨"SettingsDesk", "olderSet", "(I)LSettingsDesk$Settings;"⟩, 12), (⟨"SettingsDesk", "writePages", "(I)Z"⟩, 12), (⟨"SettingsDesk", "failPower", "()V"⟩, 12), (⟨"SettingsDeskModel", "isList", "(I)Z"⟩, 35)]
theorem lw_r1 : ∀ q ∈ lw_privs_1, lw_okq q := List.forall_mem_cons.mpr ⟨lw_p0, List.forall_mem_cons.mpr ⟨lw_p1, List.forall_mem_cons.mpr ⟨lw_p2, List.forall_mem_cons.mpr ⟨lw_p3, List.forall_mem_cons.mpr ⟨lw_p4, List.forall_mem_cons.mpr ⟨lw_p5, List.forall_mem_cons.mpr ⟨lw_p6, List.forall_mem_cons.mpr ⟨lw_p7, List.forall_mem_cons.mpr ⟨lw_p8, List.forall_mem_cons.mpr ⟨lw_p9, List.forall_mem_cons.mpr ⟨lw_p10, List.forall_mem_cons.mpr ⟨lw_p11, List.forall_mem_cons.mpr ⟨lw_p12, List.forall_mem_cons.mpr ⟨lw_p13, List.forall_mem_cons.mpr ⟨lw_p14, List.forall_mem_cons.mpr ⟨lw_p15, fun _ h => absurd h List.not_mem_nil⟩⟩⟩⟩⟩⟩⟩⟩⟩⟩⟩⟩⟩⟩⟩⟩
theorem lw_p16 : lw_okq (⟨"SettingsDeskModel", "isLeaf", "(II)Z"⟩, 35) := ⟨⟨by decide +kernel, by decide +kernel⟩, List.mem_of_getElem? (i := 874) (by decide +kernel), List.mem_of_getElem? (i := 1007) (by decide +kernel), List.mem_of_getElem? (i := 1008) (by decide +kernel)⟩
theorem lw_p17 : lw_okq (⟨"SettingsDeskModel", "faultOf", "(I)I"⟩, 35) := ⟨⟨by decide +kernel, by decide +kernel⟩, List.mem_of_getElem? (i := 874) (by decide +kernel), List.mem_of_getElem? (i := 1019) (by decide +kernel), List.mem_of_getElem? (i := 1020) (by decide +kernel)⟩
theorem lw_p18 : lw_okq (⟨"SettingsDeskModel", "wrongEntry", "(III)I"⟩, 35) := ⟨⟨by decide +kernel, by decide +kernel⟩, List.mem_of_getElem? (i := 874) (by decide +kernel), List.mem_of_getElem? (i := 1023) (by decide +kernel), List.mem_of_getElem? (i := 1024) (by decide +kernel)⟩
theorem lw_p19 : lw_okq (⟨"SettingsDeskModel", "isWrong", "(IIIII)Z"⟩, 35) := ⟨⟨by decide +kernel, by decide +kernel⟩, List.mem_of_getElem? (i := 874) (by decide +kernel), List.mem_of_getElem? (i := 1027) (by decide +kernel), List.mem_of_getElem? (i := 1028) (by decide +kernel)⟩
theorem lw_p20 : lw_okq (⟨"SettingsDeskModel", "isSomething", "(III)Z"⟩, 35) := ⟨⟨by decide +kernel, by decide +kernel⟩, List.mem_of_getElem? (i := 874) (by decide +kernel), List.mem_of_getElem? (i := 1031) (by decide +kernel), List.mem_of_getElem? (i := 1032) (by decide +kernel)⟩
theorem lw_p21 : lw_okq (⟨"SettingsDeskModel", "isSet", "(II)Z"⟩, 35) := ⟨⟨by decide +kernel, by decide +kernel⟩, List.mem_of_getElem? (i := 874) (by decide +kernel), List.mem_of_getElem? (i := 1035) (by decide +kernel), List.mem_of_getElem? (i := 1036) (by decide +kernel)⟩
theorem lw_p22 : lw_okq (⟨"SettingsDeskModel", "valueOf", "(III)I"⟩, 35) := ⟨⟨by decide +kernel, by decide +kernel⟩, List.mem_of_getElem? (i := 874) (by decide +kernel), List.mem_of_getElem? (i := 1039) (by decide +kernel), List.mem_of_getElem? (i := 1040) (by decide +kernel)⟩
theorem lw_p23 : lw_okq (⟨"SettingsDeskModel", "find", "(III)I"⟩, 35) := ⟨⟨by decide +kernel, by decide +kernel⟩, List.mem_of_getElem? (i := 874) (by decide +kernel), List.mem_of_getElem? (i := 1043) (by decide +kernel), List.mem_of_getElem? (i := 1044) (by decide +kernel)⟩
theorem lw_p24 : lw_okq (⟨"SettingsDeskModel", "isTwice", "(IIII)Z"⟩, 35) := ⟨⟨by decide +kernel, by decide +kernel⟩, List.mem_of_getElem? (i := 874) (by decide +kernel), List.mem_of_getElem? (i := 1047) (by decide +kernel), List.mem_of_getElem? (i := 1048) (by decide +kernel)⟩
theorem lw_p25 : lw_okq (⟨"SettingsDeskModel", "isBroken", "(II)Z"⟩, 35) := ⟨⟨by decide +kernel, by decide +kernel⟩, List.mem_of_getElem? (i := 874) (by decide +kernel), List.mem_of_getElem? (i := 1051) (by decide +kernel), List.mem_of_getElem? (i := 1052) (by decide +kernel)⟩
theorem lw_p26 : lw_okq (⟨"SettingsDeskModel", "isDown", "()Z"⟩, 35) := ⟨⟨by decide +kernel, by decide +kernel⟩, List.mem_of_getElem? (i := 874) (by decide +kernel), List.mem_of_getElem? (i := 1059) (by decide +kernel), List.mem_of_getElem? (i := 1060) (by decide +kernel)⟩
theorem lw_p27 : lw_okq (⟨"SettingsDeskModel", "copy", "(II)V"⟩, 35) := ⟨⟨by decide +kernel, by decide +kernel⟩, List.mem_of_getElem? (i := 874) (by decide +kernel), List.mem_of_getElem? (i := 1066) (by decide +kernel), List.mem_of_getElem? (i := 1067) (by decide +kernel)⟩
theorem lw_p28 : lw_okq (⟨"SettingsDeskModel", "put", "(II)V"⟩, 35) := ⟨⟨by decide +kernel, by decide +kernel⟩, List.mem_of_getElem? (i := 874) (by decide +kernel), List.mem_of_getElem? (i := 1070) (by decide +kernel), List.mem_of_getElem? (i := 1071) (by decide +kernel)⟩
theorem lw_p29 : lw_okq (⟨"SettingsDeskModel", "remove", "(III)V"⟩, 35) := ⟨⟨by decide +kernel, by decide +kernel⟩, List.mem_of_getElem? (i := 874) (by decide +kernel), List.mem_of_getElem? (i := 1078) (by decide +kernel), List.mem_of_getElem? (i := 1079) (by decide +kernel)⟩
theorem lw_p30 : lw_okq (⟨"SettingsDeskModel", "insert", "(III)I"⟩, 35) := ⟨⟨by decide +kernel, by decide +kernel⟩, List.mem_of_getElem? (i := 874) (by decide +kernel), List.mem_of_getElem? (i := 1082) (by decide +kernel), List.mem_of_getElem? (i := 1083) (by decide +kernel)⟩
theorem lw_p31 : lw_okq (⟨"SettingsDeskModel", "touch", "(IIII)I"⟩, 35) := ⟨⟨by decide +kernel, by decide +kernel⟩, List.mem_of_getElem? (i := 874) (by decide +kernel), List.mem_of_getElem? (i := 1090) (by decide +kernel), List.mem_of_getElem? (i := 1091) (by decide +kernel)⟩
def lw_privs_2 : List (MethodName × Nat) := [(⟨"SettingsDeskModel", "isLeaf", "(II)Z"⟩, 35), (⟨"SettingsDeskModel", "faultOf", "(I)I"⟩, 35), (⟨"SettingsDeskModel", "wrongEntry", "(III)I"⟩, 35), (⟨"SettingsDeskModel", "isWrong", "(IIIII)Z"⟩, 35), (⟨"SettingsDeskModel", "isSomething", "(III)Z"⟩, 35), (⟨"SettingsDeskModel", "isSet", "(II)Z"⟩, 35), (⟨"SettingsDeskModel", "valueOf", "(III)I"⟩, 35), (⟨"SettingsDeskModel", "find", "(III)I"⟩, 35), (⟨"SettingsDeskModel", "isTwice", "(IIII)Z"⟩, 35), (⟨"SettingsDeskModel", "isBroken", "(II)Z"⟩, 35), (⟨"SettingsDeskModel", "isDown", "()Z"⟩, 35), (⟨"SettingsDeskModel", "copy", "(II)V"⟩, 35), (⟨"SettingsDeskModel", "put", "(II)V"⟩, 35), (⟨"SettingsDeskModel", "remove", "(III)V"⟩, 35), (⟨"SettingsDeskModel", "insert", "(III)I"⟩, 35), (⟨"SettingsDeskModel", "touch", "(IIII)I"⟩, 35)]
theorem lw_r2 : ∀ q ∈ lw_privs_2, lw_okq q := List.forall_mem_cons.mpr ⟨lw_p16, List.forall_mem_cons.mpr ⟨lw_p17, List.forall_mem_cons.mpr ⟨lw_p18, List.forall_mem_cons.mpr ⟨lw_p19, List.forall_mem_cons.mpr ⟨lw_p20, List.forall_mem_cons.mpr ⟨lw_p21, List.forall_mem_cons.mpr ⟨lw_p22, List.forall_mem_cons.mpr ⟨lw_p23, List.forall_mem_cons.mpr ⟨lw_p24, List.forall_mem_cons.mpr ⟨lw_p25, List.forall_mem_cons.mpr ⟨lw_p26, List.forall_mem_cons.mpr ⟨lw_p27, List.forall_mem_cons.mpr ⟨lw_p28, List.forall_mem_cons.mpr ⟨lw_p29, List.forall_mem_cons.mpr ⟨lw_p30, List.forall_mem_cons.mpr ⟨lw_p31, fun _ h => absurd h List.not_mem_nil⟩⟩⟩⟩⟩⟩⟩⟩⟩⟩⟩⟩⟩⟩⟩⟩
theorem lw_p32 : lw_okq (⟨"SettingsDeskModel", "needs", "(I)I"⟩, 35) := ⟨⟨by decide +kernel, by decide +kernel⟩, List.mem_of_getElem? (i := 874) (by decide +kernel), List.mem_of_getElem? (i := 1106) (by decide +kernel), List.mem_of_getElem? (i := 1107) (by decide +kernel)⟩
theorem lw_p33 : lw_okq (⟨"SettingsDeskModel", "merge", "(I)Z"⟩, 35) := ⟨⟨by decide +kernel, by decide +kernel⟩, List.mem_of_getElem? (i := 874) (by decide +kernel), List.mem_of_getElem? (i := 1114) (by decide +kernel), List.mem_of_getElem? (i := 1115) (by decide +kernel)⟩
theorem lw_p34 : lw_okq (⟨"SettingsDeskModel", "same", "(II)Z"⟩, 35) := ⟨⟨by decide +kernel, by decide +kernel⟩, List.mem_of_getElem? (i := 874) (by decide +kernel), List.mem_of_getElem? (i := 1118) (by decide +kernel), List.mem_of_getElem? (i := 1119) (by decide +kernel)⟩
theorem lw_p35 : lw_okq (⟨"SettingsDeskModel", "sameEntry", "(II)Z"⟩, 35) := ⟨⟨by decide +kernel, by decide +kernel⟩, List.mem_of_getElem? (i := 874) (by decide +kernel), List.mem_of_getElem? (i := 1122) (by decide +kernel), List.mem_of_getElem? (i := 1123) (by decide +kernel)⟩
theorem lw_p36 : lw_okq (⟨"SettingsDeskModel", "alike", "(III)Z"⟩, 35) := ⟨⟨by decide +kernel, by decide +kernel⟩, List.mem_of_getElem? (i := 874) (by decide +kernel), List.mem_of_getElem? (i := 1126) (by decide +kernel), List.mem_of_getElem? (i := 1127) (by decide +kernel)⟩
theorem lw_p37 : lw_okq (⟨"SettingsDeskModel", "mergeEntry", "(III)Z"⟩, 35) := ⟨⟨by decide +kernel, by decide +kernel⟩, List.mem_of_getElem? (i := 874) (by decide +kernel), List.mem_of_getElem? (i := 1130) (by decide +kernel), List.mem_of_getElem? (i := 1131) (by decide +kernel)⟩
theorem lw_p38 : lw_okq (⟨"SettingsDeskModel", "clashes", "(III)Z"⟩, 35) := ⟨⟨by decide +kernel, by decide +kernel⟩, List.mem_of_getElem? (i := 874) (by decide +kernel), List.mem_of_getElem? (i := 1134) (by decide +kernel), List.mem_of_getElem? (i := 1135) (by decide +kernel)⟩
theorem lw_p39 : lw_okq (⟨"SettingsDeskModel", "note", "(I)V"⟩, 35) := ⟨⟨by decide +kernel, by decide +kernel⟩, List.mem_of_getElem? (i := 874) (by decide +kernel), List.mem_of_getElem? (i := 1138) (by decide +kernel), List.mem_of_getElem? (i := 1139) (by decide +kernel)⟩
theorem lw_p40 : lw_okq (⟨"SettingsDeskModel", "become", "(I)Z"⟩, 35) := ⟨⟨by decide +kernel, by decide +kernel⟩, List.mem_of_getElem? (i := 874) (by decide +kernel), List.mem_of_getElem? (i := 1142) (by decide +kernel), List.mem_of_getElem? (i := 1143) (by decide +kernel)⟩
theorem lw_p41 : lw_okq (⟨"SettingsDeskModel", "isDifference", "(II)Z"⟩, 35) := ⟨⟨by decide +kernel, by decide +kernel⟩, List.mem_of_getElem? (i := 874) (by decide +kernel), List.mem_of_getElem? (i := 1162) (by decide +kernel), List.mem_of_getElem? (i := 1163) (by decide +kernel)⟩
theorem lw_p42 : lw_okq (⟨"SettingsDeskModel", "differs", "(III)I"⟩, 35) := ⟨⟨by decide +kernel, by decide +kernel⟩, List.mem_of_getElem? (i := 874) (by decide +kernel), List.mem_of_getElem? (i := 1166) (by decide +kernel), List.mem_of_getElem? (i := 1167) (by decide +kernel)⟩
def lw_privs_3 : List (MethodName × Nat) := [(⟨"SettingsDeskModel", "needs", "(I)I"⟩, 35), (⟨"SettingsDeskModel", "merge", "(I)Z"⟩, 35), (⟨"SettingsDeskModel", "same", "(II)Z"⟩, 35), (⟨"SettingsDeskModel", "sameEntry", "(II)Z"⟩, 35), (⟨"SettingsDeskModel", "alike", "(III)Z"⟩, 35), (⟨"SettingsDeskModel", "mergeEntry", "(III)Z"⟩, 35), (⟨"SettingsDeskModel", "clashes", "(III)Z"⟩, 35), (⟨"SettingsDeskModel", "note", "(I)V"⟩, 35), (⟨"SettingsDeskModel", "become", "(I)Z"⟩, 35), (⟨"SettingsDeskModel", "isDifference", "(II)Z"⟩, 35), (⟨"SettingsDeskModel", "differs", "(III)I"⟩, 35)]
theorem lw_r3 : ∀ q ∈ lw_privs_3, lw_okq q := List.forall_mem_cons.mpr ⟨lw_p32, List.forall_mem_cons.mpr ⟨lw_p33, List.forall_mem_cons.mpr ⟨lw_p34, List.forall_mem_cons.mpr ⟨lw_p35, List.forall_mem_cons.mpr ⟨lw_p36, List.forall_mem_cons.mpr ⟨lw_p37, List.forall_mem_cons.mpr ⟨lw_p38, List.forall_mem_cons.mpr ⟨lw_p39, List.forall_mem_cons.mpr ⟨lw_p40, List.forall_mem_cons.mpr ⟨lw_p41, List.forall_mem_cons.mpr ⟨lw_p42, fun _ h => absurd h List.not_mem_nil⟩⟩⟩⟩⟩⟩⟩⟩⟩⟩⟩
def lw_privs : List (MethodName × Nat) := lw_privs_1 ++ (lw_privs_2 ++ (lw_privs_3))
def lw_tbl : List Cond := k2_sels lw_privs ++ tables_1
theorem lw_privs_ok : ∀ q ∈ lw_privs, lw_okq q := by
  show ∀ q ∈ lw_privs_1 ++ (lw_privs_2 ++ (lw_privs_3)), lw_okq q
  exact List.forall_mem_append.mpr ⟨lw_r1, List.forall_mem_append.mpr ⟨lw_r2, lw_r3⟩⟩
-- ===== end of PART A; then your names; then what follows =====
end
section
/-! memory (cell, slot), layouts of cells, the world of all cells at addresses ad; names of ours begin with sd -/
abbrev sdM : Type := Nat → Nat → Int32
abbrev sdL : Type := (Nat → Nat) → (Nat → Int32) → va_E
def sd_I (c : ClassId) (n : Nat) : sdL := fun _ f => .inl (c, n, .inl f)
def sd_Q (c : ClassId) (n : Nat) (g : Nat → Nat) : sdL := fun ad _ => .inl (c, n, .inr (.inr (.inr (.inr (fun j => some (ad (g j)))))))
def sd_J (c : ClassId) (n : Nat) (g : Nat → Int64) : sdL := fun _ _ => .inl (c, n, .inr (.inl g))
def sd_fx (ad : Nat → Nat) (x : Int32) : Option (Option Nat) → Value
  | none => .int x
  | some none => .null
  | some (some t) => .ref (ad t)
def sd_fv (ad : Nat → Nat) (f : Nat → Int32) : Nat → List (Option (Option Nat)) → List Value
  | _, [] => []
  | j, q :: r => sd_fx ad (f j) q :: sd_fv ad f (j + 1) r
def sd_O (ci : Nat) (fs : List (Option (Option Nat))) : sdL := fun ad f => .inr (ci, sd_fv ad f 0 fs)
theorem sd_fv_at {ad : Nat → Nat} {f : Nat → Int32} {q : Option (Option Nat)} : ∀ (fs : List (Option (Option Nat))) (i j : Nat), fs[j]? = some q → (sd_fv ad f i fs)[j]? = some (sd_fx ad (f (i + j)) q)
  | [], i, j, h => by simp at h
  | a :: r, i, 0, h => by
    simp at h
    subst h
    simp [sd_fv]
  | a :: r, i, j + 1, h => by
    rw [List.getElem?_cons_succ] at h
    have h2 := sd_fv_at (ad := ad) (f := f) r (i + 1) j h
    simp only [sd_fv, List.getElem?_cons_succ]
    rw [h2, show i + 1 + j = i + (j + 1) by omega]
theorem sd_fv_len {ad : Nat → Nat} {f : Nat → Int32} : ∀ (fs : List (Option (Option Nat))) (i : Nat), (sd_fv ad f i fs).length = fs.length
  | [], i => rfl
  | a :: r, i => by simp only [sd_fv, List.length_cons, sd_fv_len r (i + 1)]
theorem sd_fv_congr {ad : Nat → Nat} {f g : Nat → Int32} : ∀ (fs : List (Option (Option Nat))) (i : Nat), (∀ k, i ≤ k → f k = g k) → sd_fv ad f i fs = sd_fv ad g i fs
  | [], i, h => rfl
  | a :: r, i, h => by
    simp only [sd_fv]
    rw [h i (Nat.le_refl _), sd_fv_congr r (i + 1) (fun k hk => h k (by omega))]
theorem sd_fv_set {ad : Nat → Nat} {f : Nat → Int32} {x : Int32} : ∀ (fs : List (Option (Option Nat))) (i j : Nat), fs[j]? = some none → (sd_fv ad f i fs).set j (.int x) = sd_fv ad (upd f (i + j) x) i fs
  | [], i, j, h => by simp at h
  | a :: r, i, 0, h => by
    simp at h
    subst h
    simp only [sd_fv, List.set_cons_zero, Nat.add_zero]
    rw [pk_us, sd_fv_congr (f := f) (g := upd f i x) r (i + 1) (fun k hk => (pk_un (by omega)).symm)]
    rfl
  | a :: r, i, j + 1, h => by
    rw [List.getElem?_cons_succ] at h
    simp only [sd_fv, List.set_cons_succ]
    rw [sd_fv_set r (i + 1) j h, show i + 1 + j = i + (j + 1) by omega, pk_un (show i ≠ i + (j + 1) by omega)]
theorem sd_fv_setr {ad : Nat → Nat} {f : Nat → Int32} {u : Nat} : ∀ (fs : List (Option (Option Nat))) (i j : Nat), (sd_fv ad f i fs).set j (.ref (ad u)) = sd_fv ad f i (fs.set j (some (some u)))
  | [], i, j => by simp [sd_fv]
  | a :: r, i, 0 => by
    simp only [sd_fv, List.set_cons_zero]
    rfl
  | a :: r, i, j + 1 => by
    simp only [sd_fv, List.set_cons_succ]
    rw [sd_fv_setr r (i + 1) j]
/-- a value whose references are cells' numbers, as the machine has it -/
def sd_v (ad : Nat → Nat) : Value → Value
  | .ref k => .ref (ad k)
  | v => v
theorem sd_v_cat (ad : Nat → Nat) (v : Value) : (sd_v ad v).category = v.category := by cases v <;> rfl
def sd_l (ad : Nat → Nat) (loc : List (Nat × Value)) : List (Nat × Value) := loc.map (fun q => (q.1, sd_v ad q.2))
theorem sd_l_get {ad : Nat → Nat} {loc : List (Nat × Value)} {j i : Nat} {v : Value} (h : loc[j]? = some (i, v)) : (sd_l ad loc)[j]? = some (i, sd_v ad v) := by
  rw [sd_l, List.getElem?_map, h]; rfl
theorem sd_l_flt {ad : Nat → Nat} {i : Nat} : ∀ (loc : List (Nat × Value)), (sd_l ad loc).filter (fun q => !(q.1 == i) && !(q.1 + 1 == i && q.2.category == 2)) = sd_l ad (loc.filter (fun q => !(q.1 == i) && !(q.1 + 1 == i && q.2.category == 2)))
  | [] => rfl
  | (a, v) :: r => by
    have h := sd_l_flt (ad := ad) (i := i) r
    simp only [sd_l, List.map_cons, List.filter_cons, sd_v_cat] at h ⊢
    split <;> simp only [List.map_cons, h]
def sd_A (b : Nat) : Nat → Prop := fun q => b ≤ q
/-- cells 0 .. n-1 lie at the addresses ad, laid out by L, with the numbers M -/
def sd_H (D : va_G) (cl : List vw_C) (n : Nat) (ad : Nat → Nat) (L : Nat → sdL) (M : sdM) (H : Heap) : Prop := ∀ k, k < n → va_at D cl (ad k, L k ad (M k)) H
def sd_ad (b n : Nat) (ad : Nat → Nat) : Prop := (∀ i j, i < n → j < n → ad i = ad j → i = j) ∧ ∀ k, k < n → b ≤ ad k
def sd_G (n : Nat) (ad : Nat → Nat) (L : Nat → sdL) (M : sdM) : va_W := (List.range n).map (fun k => (ad k, L k ad (M k)))
theorem sd_G_get {n k : Nat} {ad : Nat → Nat} {L : Nat → sdL} {M : sdM} (h : k < n) : (sd_G n ad L M)[k]? = some (ad k, L k ad (M k)) := by
  simp [sd_G, List.getElem?_map, List.getElem?_range h]
theorem sd_G_len {n : Nat} {ad : Nat → Nat} {L : Nat → sdL} {M : sdM} : (sd_G n ad L M).length = n := by simp [sd_G]
theorem sd_G_lt {n k : Nat} {ad : Nat → Nat} {L : Nat → sdL} {M : sdM} {q : Nat × va_E} (h : (sd_G n ad L M)[k]? = some q) : k < n ∧ q = (ad k, L k ad (M k)) := by
  have h1 : k < n := by have := (List.getElem?_eq_some_iff.mp h).1; rwa [sd_G_len] at this
  rw [sd_G_get h1] at h
  exact ⟨h1, (Option.some.inj h).symm⟩
theorem sd_H.toP {D : va_G} {cl : List vw_C} {n : Nat} {ad : Nat → Nat} {L : Nat → sdL} {M : sdM} {H : Heap} (h : sd_H D cl n ad L M H) : va_P D cl (sd_G n ad L M) H := fun k q hk => by
  obtain ⟨h1, rfl⟩ := sd_G_lt hk
  exact h k h1
theorem sd_H.ofP {D : va_G} {cl : List vw_C} {n : Nat} {ad : Nat → Nat} {L : Nat → sdL} {M : sdM} {H : Heap} (h : va_P D cl (sd_G n ad L M) H) : sd_H D cl n ad L M H := fun k hk => h k _ (sd_G_get hk)
theorem sd_ad.toD {b n : Nat} {ad : Nat → Nat} {L : Nat → sdL} {M : sdM} (h : sd_ad b n ad) : va_D (sd_A b) (sd_G n ad L M) := by
  refine ⟨fun i j p q hi hj e => ?_, fun k q hk => ?_⟩
  · obtain ⟨h1, rfl⟩ := sd_G_lt hi
    obtain ⟨h2, rfl⟩ := sd_G_lt hj
    exact h.1 i j h1 h2 e
  · obtain ⟨h1, rfl⟩ := sd_G_lt hk
    exact h.2 k h1
theorem sd_G_set {n k : Nat} {ad : Nat → Nat} {L : Nat → sdL} {M : sdM} {f : Nat → Int32} {e : va_E} (hk : k < n) (he : e = L k ad f) : (sd_G n ad L M).set k (ad k, e) = sd_G n ad L (va_up M k f) := by
  subst he
  apply List.ext_getElem?
  intro i
  by_cases hi : i = k
  · subst hi
    rw [List.getElem?_set_self (by rw [sd_G_len]; exact hk), sd_G_get hk, va_up_self]
  · rw [List.getElem?_set_ne (Ne.symm hi)]
    by_cases hn : i < n
    · rw [sd_G_get hn, sd_G_get hn, show va_up M k f i = M i from if_neg hi]
    · rw [List.getElem?_eq_none (by rw [sd_G_len]; omega), List.getElem?_eq_none (by rw [sd_G_len]; omega)]
/-- what the tables, and two static fields of Throwable, say at a state -/
abbrev sdE : Type := List vw_C × List Cond × List (String × Nat × String) × Option (Nat × Nat × (Nat → Int32))
/-- a static field of Throwable: where it lies (below b), and that it holds null or a reference -/
def sd_st (b : Nat) (nm d : String) (U : State) (H : Heap) : Prop := ∃ (c : ClassId) (k : Class) (i : Nat) (f : Field) (a : Nat) (cell : Cell) (v : Value), U.vm.findClass Bundle.tN = some c ∧ U.fieldFound? Bundle.tN nm d = some (c, k, i, f) ∧ f.isStatic = true ∧ k.statics = some a ∧ H[a]? = some cell ∧ cell.vm.isStatics = true ∧ cell.cls = c ∧ f.slot < cell.slots.size ∧ k.staticTypes[f.slot]? = some f.type ∧ cell.slots[f.slot]? = some v ∧ v.isRef = true ∧ a < b
theorem sd_st.go {b : Nat} {nm d : String} {u U : State} {H H1 : Heap} (hvm : u.vm.Alike U.vm) (hq : ∀ a : Nat, a < H.size → a < b → H1[a]? = H[a]?) (h : sd_st b nm d u H) : sd_st b nm d U H1 := by
  obtain ⟨c, k, i, f, a, cell, v, h1, h2, h3, h4, h5, h6, h7, h8, h9, h10, h11, h12⟩ := h
  obtain ⟨k', hi', he⟩ := State.fieldFound?_setVm hvm h2
  exact ⟨c, k', i, f, a, cell, v, by rw [hvm.findClass]; exact h1, hi', h3, by rw [he]; exact h4, by rw [hq a (Array.getElem?_eq_some_iff.mp h5).1 h12]; exact h5, h6, h7, h8, by rw [he]; exact h9, h10, h11, h12⟩
theorem sd_st.lays {b : Nat} {nm d : String} {U : State} {args : Array Value} (h : sd_st b nm d U U.heap) : (Cond.laysStatic Bundle.tN nm d).before args U = true := by
  obtain ⟨c, k, i, f, a, cell, v, h1, h2, h3, h4, h5, h6, h7, h8, h9, -⟩ := h
  show (Cond.laysStatic Bundle.tN nm d).holds args U none U [] = true
  exact Cond.laysStatic_of h1 h2 h3 h4 h5 h6 h7 h8 h9
theorem sd_st.ref {b : Nat} {nm d : String} {U : State} {args : Array Value} (h : sd_st b nm d U U.heap) : (Cond.isRef (.static Bundle.tN nm d)).before args U = true := by
  obtain ⟨c, k, i, f, a, cell, v, h1, h2, h3, h4, h5, h6, h7, h8, h9, h10, h11, -⟩ := h
  have he : (Term.static Bundle.tN nm d).eval args U none [] U = some v := by
    simp [Term.eval, State.fieldNamed?, h2, h3, h4, h5, h6, h10]
  simp only [Cond.before, Cond.holds, Cond.value, he]
  cases v <;> simp_all [Value.isRef]
/-- a word that stays while the tables warm -/
def sd_mv (w : Cond) : Prop := w.onTables = true ∧ ∀ s U : State, s.WarmedH U.vm → va_Nw w s → va_Nw w U
def sd_K (E : sdE) (D : va_G) (tys : List (ClassId × FieldType)) (b : Nat) (U : State) : Prop :=
  va_K D E.1 tys U ∧ (∀ w ∈ E.2.1, va_Nw w U ∧ sd_mv w) ∧ (∀ q ∈ E.2.2.1, ∃ sa, vk_R q.1 q.2.1 q.2.2 sa U) ∧
  (sd_st b "UNASSIGNED_STACK" Bundle.steD U U.heap ∧ sd_st b "SUPPRESSED_SENTINEL" Bundle.listD U U.heap) ∧ b ≤ U.heap.size ∧ ∀ q, E.2.2.2 = some q → va_X q.1 q.2.1 q.2.2 U U.heap ∧ q.1 < b
theorem sd_K.move {E : sdE} {D : va_G} {tys : List (ClassId × FieldType)} {b : Nat} {s U : State} {H : Heap} {locs : List Loc} (h : sd_K E D tys b s) (hW : s.WarmedH U.vm) (hH : U.heap = H) (hS : va_S (sd_A b) s.heap H locs) : sd_K E D tys b U := by
  obtain ⟨h1, h2, h3, h4, h6, h7⟩ := h
  subst hH
  refine ⟨va_K.moved hW.alike h1, fun q hq => ⟨(h2 q hq).2.2 s U hW (h2 q hq).1, (h2 q hq).2⟩, fun q hq => ?_, ⟨h4.1.go hW.alike (fun a h8 h9 => hS.2.1 a h8 (fun z => absurd z (Nat.not_le.mpr h9))), h4.2.go hW.alike (fun a h8 h9 => hS.2.1 a h8 (fun z => absurd z (Nat.not_le.mpr h9)))⟩, Nat.le_trans h6 hS.1, fun q hq => ?_⟩
  · obtain ⟨sa, h⟩ := h3 q hq
    exact ⟨sa, h.warm hW⟩
  · obtain ⟨g1, g2⟩ := h7 q hq
    exact ⟨va_X.moved hW.alike (g1.kept (hS.2.1 q.1 (Nat.lt_of_lt_of_le g2 h6) (fun z => absurd z (Nat.not_le.mpr g2)))), g2⟩
theorem sd_K.call {E : sdE} {D : va_G} {tys : List (ClassId × FieldType)} {b : Nat} {U : State} {g : JFrame} {mk : MethodId} {a : Array Value} (h : sd_K E D tys b U) : sd_K E D tys b (U.calling g mk a) :=
  h.move (H := U.heap) (locs := []) (State.WarmedH.refl U) rfl va_S.rf
/-- a method: its class, code, locals, answer, words, room, and what it may make -/
abbrev sdY : Type := String × ByteArray × Nat × Option FieldType × List Cond × Room × Nat × Nat
def sd_C (Y : sdY) (p : Program) (s : State) (m : MethodId) (args : Array Value) (meth : Method) (c : Code) : Prop :=
  CallFix p m c Y.2.1 Y.2.2.1 s args Y.2.2.2.2.1 Y.1 ∧ meth.locks = false ∧ meth.sig.returnType = Y.2.2.2.1 ∧ ∀ x ∈ c.exceptionTable.toList, False
/-- an end: it returned with Q, or it threw an object of a class E with X; what was written lies from b on; at most mc cells of ms slots are new -/
def sd_R (b : Nat) (aF : Nat → Nat) (F : sdM → Heap → Prop) (Q : Option Value → sdM → Prop) : Array Value → State → Outcome → State → Prop := fun _ st o t => ∃ (v : Option Value) (M : sdM), o = .returned (v.map (sd_v aF)) ∧ Q v M ∧ F M t.heap ∧ va_F (sd_A b) st t
def sd_T (b : Nat) (F : sdM → Heap → Prop) (X : String → sdM → Prop) (mc ms : Nat) (st : State) (q : Addr) (t : State) : Prop :=
  ∃ (E : String) (M : sdM) (ce : Cell) (L : List Loc), X E M ∧ F M t.heap ∧ t.heap[q]? = some ce ∧ ce.vm = .none ∧ st.vm.findClass E = some ce.cls ∧ va_F (sd_A b) st t ∧ st.WarmedH t.vm ∧ st.sameButNew ({ t with vm := st.vm } : State) L mc ms ∧ ∀ z ∈ L, sd_A b z.base
def sd_End (b : Nat) (aF : Nat → Nat) (F : sdM → Heap → Prop) (Q : Option Value → sdM → Prop) (X : String → sdM → Prop) (mc ms : Nat) : Array Value → State → Outcome → State → Prop := fun a st o t =>
  (sd_R b aF F Q a st o t ∧ ∃ L, FrameEnd st o t L mc ms ∧ ∀ z ∈ L, sd_A b z.base) ∨ ∃ q, o = .threw q ∧ sd_T b F X mc ms st q t
def sd_Z (b : Nat) (aF : Nat → Nat) (F : sdM → Heap → Prop) (Q : Option Value → sdM → Prop) (X : String → sdM → Prop) (mc ms : Nat) (below : List Frame) (a : Array Value) (st : State) : State → Prop := fun t => ∃ o, t.status = .running ∧ Ended t below o ∧ sd_End b aF F Q X mc ms a st o t
/-- the contract of a method at a world: started with av in M, it ends with Q or throws with X -/
def sd_Cn (l : Launch) (E : sdE) (y : MethodName) (ws : List Cond) (rm : Room) (mc ms : Nat) (D : va_G) (tys : List (ClassId × FieldType)) (b n : Nat) (ad : Nat → Nat) (L : Nat → sdL) (M : sdM) (av : List Value) (Q : Option Value → sdM → Prop) (X : String → sdM → Prop) : Prop :=
  MetFree l y (headSpec ws rm) (va_Pc (av.map (sd_v ad)) (fun U => sd_K E D tys b U ∧ sd_H D E.1 n ad L M U.heap)) (fun _ _ _ _ _ => True) (sd_End b ad (sd_H D E.1 n ad L) Q X mc ms)
/-- the frame of Y at pc, with the locals loc and the stack st (references by their cells' numbers), in M: comes to its end with Q or X; rc, rs: what it may still make -/
def sdW (l : Launch) (E : sdE) (Y : sdY) (D : va_G) (tys : List (ClassId × FieldType)) (b n : Nat) (ad : Nat → Nat) (L : Nat → sdL) (aF : Nat → Nat) (F : sdM → Heap → Prop) (Q : Option Value → sdM → Prop) (X : String → sdM → Prop)
    (pc : Nat) (loc : List (Nat × Value)) (st : List Value) (M : sdM) (rc rs : Nat) : Prop :=
  ∀ (p : Program) (e : Env) (s : State) (m : MethodId) (args : Array Value) (below : List Frame) (meth : Method) (c : Code) (H : Heap) (locs : List Loc) (ls : Array Slot) (cells slots : Nat),
    sd_C Y p s m args meth c → sd_K E D tys b s → sd_H D E.1 n ad L M H → va_S (sd_A b) s.heap H locs → lv_has ls Y.2.2.1 (sd_l ad loc) → cells + rc ≤ Y.2.2.2.2.2.2.1 → slots + rs ≤ Y.2.2.2.2.2.2.2 →
    W p l e Y.2.2.2.2.2.1 s m args below meth c H locs cells slots (sd_Z b aF F Q X Y.2.2.2.2.2.2.1 Y.2.2.2.2.2.2.2 below args s) (F0 m pc ls (st.map (sd_v ad)))
def sd_s (M : sdM) (t i : Nat) (x : Int32) : sdM := va_up M t (upd (M t) i x)
def sdB (x : Int32) : Prop := x = 0 ∨ x = 1
theorem sdB_n {x : Int32} (h : sdB x) : narrow .boolean (.int x) = .int x := by rcases h with rfl | rfl <;> rfl
theorem sdB_f {x : Int32} (h : sdB x) : fits .boolean (.int x) = true := by rcases h with rfl | rfl <;> rfl
theorem sdB_v {x : Int32} (h : sdB x) : vp_nar .boolean x = x := by rcases h with rfl | rfl <;> rfl
def sd_qi (Q : Int32 → sdM → Prop) : Option Value → sdM → Prop := fun v M => ∃ r : Int32, v = some (.int r) ∧ Q r M
def sd_qv (Q : sdM → Prop) : Option Value → sdM → Prop := fun v M => v = none ∧ Q M
def sd_qr (P : Nat → Prop) (Q : Nat → sdM → Prop) : Option Value → sdM → Prop := fun v M => ∃ t : Nat, v = some (.ref t) ∧ P t ∧ Q t M
def sd_xf : String → sdM → Prop := fun _ _ => False
theorem sd_cats (ad : Nat → Nat) : ∀ (l : List Value), ((l.map (sd_v ad)).map fun v => v.category).sum = (l.map fun v => v.category).sum
  | [] => rfl
  | v :: r => by
    have h := sd_cats ad r
    simp only [List.map_cons, List.sum_cons, sd_v_cat, h]
theorem sd_args (ad : Nat → Nat) : ∀ (l : List Value) (i : Nat), lv_args i (l.map (sd_v ad)) = sd_l ad (lv_args i l)
  | [], i => rfl
  | v :: r, i => by
    simp only [List.map_cons, lv_args, sd_v_cat]
    rw [sd_args ad r]
    rfl
theorem sd_sl (ad : Nat → Nat) : ∀ (l : List Value), (lg_sl (l.map (sd_v ad))).length = (lg_sl l).length
  | [] => rfl
  | v :: r => by
    have h := sd_sl ad r
    simp only [lg_sl, List.map_cons, List.flatMap_cons, List.length_append, sd_v_cat] at h ⊢
    rw [h]
    split <;> rfl
/-- what a call of y (its data Y') by the constant idx of Y's class rests on -/
def sd_cwV (Y Y' : sdY) (y : MethodName) (idx na : Nat) (C : String) : Prop :=
  GoodIn Y.2.2.2.2.1 (wsV Y.1 idx C y Y'.2.2.2.2.1) ∧ (∃ ws', Y'.2.2.2.2.1 = Cond.code y Y'.2.1 Y'.2.2.1 Y'.2.2.2.1 :: ws') ∧ (Y'.2.2.2.2.2.1.cells = Y'.2.2.2.2.2.2.1 ∧ Y'.2.2.2.2.2.1.slots = Y'.2.2.2.2.2.2.2 ∧ Y.2.2.2.2.2.1.cells = Y.2.2.2.2.2.2.1 ∧ Y.2.2.2.2.2.1.slots = Y.2.2.2.2.2.2.2) ∧
  (y.cls = C ∧ y.cls ≠ "java/lang/invoke/MethodHandle" ∧ y.cls ≠ "java/lang/invoke/VarHandle" ∧ (parseMethodDescriptor y.desc).map (fun d => d.parameters.length) = some na) ∧ (Y'.2.2.2.2.2.1.frames + 1 ≤ Y.2.2.2.2.2.1.frames ∧ 8 + (Y'.2.2.1 + 11) + Y'.2.2.2.2.2.1.locals ≤ Y.2.2.2.2.2.1.locals)
def sd_cwS (Y Y' : sdY) (y : MethodName) (idx na : Nat) : Prop :=
  GoodIn Y.2.2.2.2.1 (va_wsS Y.1 idx y Y'.2.2.2.2.1) ∧ (∃ ws', Y'.2.2.2.2.1 = Cond.code y Y'.2.1 Y'.2.2.1 Y'.2.2.2.1 :: ws') ∧ (Y'.2.2.2.2.2.1.cells = Y'.2.2.2.2.2.2.1 ∧ Y'.2.2.2.2.2.1.slots = Y'.2.2.2.2.2.2.2 ∧ Y.2.2.2.2.2.1.cells = Y.2.2.2.2.2.2.1 ∧ Y.2.2.2.2.2.1.slots = Y.2.2.2.2.2.2.2) ∧
  (y.cls ≠ "java/lang/invoke/MethodHandle" ∧ y.cls ≠ "java/lang/invoke/VarHandle" ∧ (parseMethodDescriptor y.desc).map (fun d => d.parameters.length) = some na) ∧ (Y'.2.2.2.2.2.1.frames + 1 ≤ Y.2.2.2.2.2.1.frames ∧ 8 + (Y'.2.2.1 + 11) + Y'.2.2.2.2.2.1.locals ≤ Y.2.2.2.2.2.1.locals)
/-- a call of a method that keeps its contract, from the caller's frame on -/
theorem sd_pay {p : Program} {l : Launch} {e : Env} {R : Room} {s : State} {m : MethodId} {args : Array Value} {below : List Frame} {meth : Method} {c : Code} {U : State} {locs : List Loc} {cells slots mc ms b : Nat} {y : MethodName} {ws : List Cond} {rm : Room} {Pc : Array Value → State → Prop} {ad : Nat → Nat} {F : sdM → Heap → Prop} {Q : Option Value → sdM → Prop} {X : String → sdM → Prop} {bytes : ByteArray} {maxL W9 : Nat} {ret : Option FieldType} {g : JFrame} {ig : Instr} {len : Nat} {mk : MethodId} {a : Array Value}
    (hM : MetFree l y (headSpec ws rm) Pc (fun _ _ _ _ _ => True) (sd_End b ad F Q X mc ms)) (St : Stand p l e R s m args below meth c U locs cells slots) (hg : g.method = m) (hsize : g.locals.size = c.maxLocals) (hdg : decode c.code g.pc = .ok (ig, len)) (hn : U.methodNamed? y = some mk)
    (hws : ∀ w ∈ ws, w.before a U = true) (hcode : (Cond.code y bytes maxL ret).before a U = true) (hinit : (Cond.initialized y.cls).before a U = true) (hrc : rm.cells = mc) (hrs : rm.slots = ms) (hfr : rm.frames + 1 ≤ R.frames) (hlo : W9 + (maxL + 11) + rm.locals ≤ R.locals) (hW : 2 * g.monitorRoom + (g.stack.map fun v => v.category).sum ≤ W9)
    (hc : cells + mc ≤ R.cells) (hs : slots + ms ≤ R.slots) (hP : Pc a (U.calling g mk a)) :
    (∃ (v : Option Value) (M : sdM) (T' : State) (L : List Loc), Stand p l e R s m args below meth c T' (locs ++ L) (cells + mc) (slots + ms) ∧ Q v M ∧ F M T'.heap ∧ (U.heap.size ≤ T'.heap.size ∧ ∀ q : Nat, q < U.heap.size → ¬ sd_A b q → T'.heap[q]? = U.heap[q]?) ∧ (∀ z ∈ L, sd_A b z.base) ∧
      Steps p.tables e below (doInvoke e (U.setTop g) [] mk a).1 (T'.setTop { g with pc := g.pc + len, stack := (v.map (sd_v ad)).toList ++ g.stack })) ∨
    (∃ (q : Addr) (E : String) (M : sdM) (ce : Cell) (T' : State) (L : List Loc), Stand p l e R s m args below meth c T' (locs ++ L) (cells + mc) (slots + ms) ∧ X E M ∧ F M T'.heap ∧ T'.heap[q]? = some ce ∧ ce.vm = .none ∧ U.vm.findClass E = some ce.cls ∧ (U.heap.size ≤ T'.heap.size ∧ ∀ q : Nat, q < U.heap.size → ¬ sd_A b q → T'.heap[q]? = U.heap[q]?) ∧ (∀ z ∈ L, sd_A b z.base) ∧
      Steps p.tables e below (doInvoke e (U.setTop g) [] mk a).1 ((T'.setTop g).pushFrame (.throwing q))) := by
  obtain ⟨methY, cY, hmY, hcY, -, hlY, -, -, -, -⟩ := Cond.code_spec hn hcode
  obtain ⟨kY, hkY, -⟩ := className_of_methodNamed hn
  have hat : At U g.method c below := by rw [hg]; exact St.here
  have happ : (headSpec ws rm).appliesLoose y e.platform (U.calling g mk a) = true :=
    Spec.appliesLoose_calling (g := g) hat hdg hn hkY (Cond.initialized_spec (findClass_of_methodNamed hn) hkY hinit)
      (St.room_calling (g := g) (R' := rm) hsize hmY hcY hfr (by rw [hlY]; omega) (by rw [hrc]; exact hc) (by rw [hrs]; exact hs)) (atoms_intro hws)
  obtain ⟨g0, hfr0⟩ := St.frames_eq
  have htop : (U.setTop g).frames = .java g :: below := by rw [State.frames_setTop' g St.here.top, hfr0]; rfl
  obtain ⟨o, t, hsteps, -, hend, hq⟩ := Free.Steps.callFree hM p St.admits St.cas St.clock (acts := []) (mid := [.java g]) (below := below) htop happ hP trivial
  rw [htop] at hend
  rcases hq with ⟨⟨v, M, rfl, hQ, hF, hFr⟩, L, ⟨-, hWm, hsame⟩, hL⟩ | ⟨q, rfl, E, M, ce, L, hX, hF, hce, hcv, hcl, hFr, hWm, hsame, hL⟩
  · obtain ⟨T', St', -, -, rfl⟩ := St.outOf hg hdg hend hWm hsame
    exact Or.inl ⟨v, M, T', L, St', hQ, hF, hFr, hL, hsteps⟩
  · obtain ⟨T', St', -, -, rfl⟩ := St.outOfThrown hg hend hWm hsame
    exact Or.inr ⟨q, E, M, ce, T', L, St', hX, hF, hce, hcv, hcl, hFr, hL, hsteps⟩
/-- the frame g of a method, with q thrown over it -/
def sd_TW (p : Program) (l : Launch) (e : Env) (R : Room) (s : State) (m : MethodId) (args : Array Value) (below : List Frame) (meth : Method) (c : Code) (H : Heap) (locs : List Loc) (cells slots : Nat) (Q : State → Prop) (g : JFrame) (q : Addr) : Prop :=
  ∀ T : State, T.heap = H → Stand p l e R s m args below meth c T locs cells slots → ∃ t, Steps p.tables e below ((T.setTop g).pushFrame (.throwing q)) t ∧ Q t
theorem sd_S_next {b : Nat} {H0 H H1 : Heap} {locs L : List Loc} (hS : va_S (sd_A b) H0 H locs) (h : H.size ≤ H1.size ∧ ∀ q : Nat, q < H.size → ¬ sd_A b q → H1[q]? = H[q]?) (hL : ∀ z ∈ L, sd_A b z.base) : va_S (sd_A b) H0 H1 (locs ++ L) := by
  refine ⟨Nat.le_trans hS.1 h.1, fun q h1 h2 => ?_, fun z hz => ?_⟩
  · rw [h.2 q (Nat.lt_of_lt_of_le h1 hS.1) h2]
    exact hS.2.1 q h1 h2
  · rcases List.mem_append.mp hz with hz | hz
    · exact hS.2.2 z hz
    · exact hL z hz
/-- no handler here: what was thrown goes on to the caller -/
theorem sd_out {p : Program} {l : Launch} {e : Env} {R : Room} {s : State} {m : MethodId} {args : Array Value} {below : List Frame} {meth : Method} {c : Code} {H : Heap} {locs : List Loc} {cells slots mc ms b : Nat} {aF : Nat → Nat} {F : sdM → Heap → Prop} {Q : Option Value → sdM → Prop} {X : String → sdM → Prop} {pc : Nat} {ls : Array Slot} {st : List Value} {q : Addr} {E : String} {M : sdM} {ce : Cell}
    (hout : ∀ x ∈ c.exceptionTable.toList, False) (hlocks : meth.locks = false) (hX : X E M) (hF : F M H) (hce : H[q]? = some ce) (hcv : ce.vm = .none) (hcl : s.vm.findClass E = some ce.cls) (hS : va_S (sd_A b) s.heap H locs) (hc : cells ≤ mc) (hs : slots ≤ ms) :
    sd_TW p l e R s m args below meth c H locs cells slots (sd_Z b aF F Q X mc ms below args s) (F0 m pc ls st) q := by
  intro T hT St
  subst hT
  obtain ⟨h1, h2, h3, h4, h5⟩ := St.leaveThrown q (g := F0 m pc ls st) rfl rfl rfl (fun x hx => (hout x hx).elim) hlocks
  exact ⟨_, h1, .threw q, h2, h3, Or.inr ⟨q, rfl, E, M, ce, locs, hX, hF, hce, hcv, hcl, hS.F rfl, h4, h5.mono hc hs, hS.2.2⟩⟩
theorem sd_ret {p : Program} {l : Launch} {e : Env} {R : Room} {s : State} {m : MethodId} {args : Array Value} {below : List Frame} {meth : Method} {c : Code} {H : Heap} {locs : List Loc} {cells slots mc ms b : Nat} {aF : Nat → Nat} {F : sdM → Heap → Prop} {Q : Option Value → sdM → Prop} {X : String → sdM → Prop} {g : JFrame} (k : W p l e R s m args below meth c H locs cells slots (MQ below (sd_R b aF F Q) args s mc ms (sd_A b)) g) : W p l e R s m args below meth c H locs cells slots (sd_Z b aF F Q X mc ms below args s) g := by
  intro T hT St
  obtain ⟨t, a1, o, b1, b2, b3, b4⟩ := k T hT St
  exact ⟨t, a1, o, b1, b2, Or.inl ⟨b3, b4⟩⟩
theorem sd_blind {E : sdE} {D : va_G} {tys : List (ClassId × FieldType)} {b n : Nat} {ad : Nat → Nat} {L : Nat → sdL} {M : sdM} {av : List Value} : FrameBlind (va_Pc av (fun U => sd_K E D tys b U ∧ sd_H D E.1 n ad L M U.heap)) :=
  fun _ _ _ _ q => ⟨q.1, q.2.1.call, q.2.2⟩
theorem sd_one {D : va_G} {cl : List vw_C} {q : Nat × va_E} {H : Heap} (h : va_at D cl q H) : va_P D cl [q] H := fun k x hk => by
  have hz : k < 1 := (List.getElem?_eq_some_iff.mp hk).1
  rw [show k = 0 by omega] at hk
  cases hk
  exact h
theorem sd_l_pick {ad : Nat → Nat} (loc : List (Nat × Value)) : ∀ (js : List Nat), lv_pick (sd_l ad loc) js = sd_l ad (lv_pick loc js)
  | [] => rfl
  | j :: js => by
    have h := sd_l_pick (ad := ad) loc js
    simp only [lv_pick, List.filterMap_cons] at h ⊢
    cases hj : loc[j]? with
    | none => 
      have h1 : (sd_l ad loc)[j]? = none := by rw [sd_l, List.getElem?_map, hj]; rfl
      simp only [h1, h]
    | some q =>
      have h1 : (sd_l ad loc)[j]? = some (q.1, sd_v ad q.2) := sd_l_get hj
      simp only [h1, h]
      rfl
section SDR
variable {l : Launch} {E : sdE} {Y : sdY} {D : va_G} {tys : List (ClassId × FieldType)} {b n : Nat} {ad : Nat → Nat} {L : Nat → sdL} {aF : Nat → Nat} {F : sdM → Heap → Prop} {Q : Option Value → sdM → Prop} {X : String → sdM → Prop}
variable {pc : Nat} {loc : List (Nat × Value)} {st : List Value} {M : sdM} {rc rs : Nat}
theorem x_iconst {z : Int} {v : Int32} (d : decode Y.2.1 pc = .ok (.iconst z, 1)) (hv : Int32.ofInt z = v) (k : sdW l E Y D tys b n ad L aF F Q X (pc + 1) loc (.int v :: st) M rc rs) : sdW l E Y D tys b n ad L aF F Q X pc loc st M rc rs := by
  intro p e s m args below meth c H locs ls cells slots hC hK hH hS hl hc hs
  exact lv_iconst hC.1.1 hC.1.2.1 d hv (k p e s m args below meth c H locs ls cells slots hC hK hH hS hl hc hs)
theorem x_bipush {z : Int} {v : Int32} (d : decode Y.2.1 pc = .ok (.bipush z, 2)) (hv : (Int8.ofInt z).toInt32 = v) (k : sdW l E Y D tys b n ad L aF F Q X (pc + 2) loc (.int v :: st) M rc rs) : sdW l E Y D tys b n ad L aF F Q X pc loc st M rc rs := by
  intro p e s m args below meth c H locs ls cells slots hC hK hH hS hl hc hs
  exact lv_bipush hC.1.1 hC.1.2.1 d hv (k p e s m args below meth c H locs ls cells slots hC hK hH hS hl hc hs)
theorem x_sipush {z : Int} {v : Int32} (d : decode Y.2.1 pc = .ok (.sipush z, 3)) (hv : (Int16.ofInt z).toInt32 = v) (k : sdW l E Y D tys b n ad L aF F Q X (pc + 3) loc (.int v :: st) M rc rs) : sdW l E Y D tys b n ad L aF F Q X pc loc st M rc rs := by
  intro p e s m args below meth c H locs ls cells slots hC hK hH hS hl hc hs
  exact lv_sipush hC.1.1 hC.1.2.1 d hv (k p e s m args below meth c H locs ls cells slots hC hK hH hS hl hc hs)
theorem x_iload_n {f : Fin 4} (i j : Nat) {x : Int32} (d : decode Y.2.1 pc = .ok (.iload_n f, 1)) (hi : (f : Nat) = i) (h : loc[j]? = some (i, .int x)) (k : sdW l E Y D tys b n ad L aF F Q X (pc + 1) loc (.int x :: st) M rc rs) : sdW l E Y D tys b n ad L aF F Q X pc loc st M rc rs := by
  intro p e s m args below meth c H locs ls cells slots hC hK hH hS hl hc hs
  exact lv_iload_n hC.1.1 hC.1.2.1 d hi (lv_at hl j (sd_l_get h)) (k p e s m args below meth c H locs ls cells slots hC hK hH hS hl hc hs)
theorem x_iload (i j : Nat) {x : Int32} (d : decode Y.2.1 pc = .ok (.iload i, 2)) (h : loc[j]? = some (i, .int x)) (k : sdW l E Y D tys b n ad L aF F Q X (pc + 2) loc (.int x :: st) M rc rs) : sdW l E Y D tys b n ad L aF F Q X pc loc st M rc rs := by
  intro p e s m args below meth c H locs ls cells slots hC hK hH hS hl hc hs
  exact lv_iload hC.1.1 hC.1.2.1 d (lv_at hl j (sd_l_get h)) (k p e s m args below meth c H locs ls cells slots hC hK hH hS hl hc hs)
theorem x_aload_n {f : Fin 4} (i j : Nat) {x : Nat} (d : decode Y.2.1 pc = .ok (.aload_n f, 1)) (hi : (f : Nat) = i) (h : loc[j]? = some (i, .ref x)) (k : sdW l E Y D tys b n ad L aF F Q X (pc + 1) loc (.ref x :: st) M rc rs) : sdW l E Y D tys b n ad L aF F Q X pc loc st M rc rs := by
  intro p e s m args below meth c H locs ls cells slots hC hK hH hS hl hc hs
  exact lv_aload_n hC.1.1 hC.1.2.1 d hi (lv_at hl j (sd_l_get h)) (k p e s m args below meth c H locs ls cells slots hC hK hH hS hl hc hs)
theorem x_aload (i j : Nat) {x : Nat} (d : decode Y.2.1 pc = .ok (.aload i, 2)) (h : loc[j]? = some (i, .ref x)) (k : sdW l E Y D tys b n ad L aF F Q X (pc + 2) loc (.ref x :: st) M rc rs) : sdW l E Y D tys b n ad L aF F Q X pc loc st M rc rs := by
  intro p e s m args below meth c H locs ls cells slots hC hK hH hS hl hc hs
  exact lv_aload hC.1.1 hC.1.2.1 d (lv_at hl j (sd_l_get h)) (k p e s m args below meth c H locs ls cells slots hC hK hH hS hl hc hs)
theorem x_istore_n {f : Fin 4} (i : Nat) (loc' : List (Nat × Value)) {x : Int32} (d : decode Y.2.1 pc = .ok (.istore_n f, 1)) (hi : (f : Nat) = i) (hn : i < Y.2.2.1) (h : (i, Value.int x) :: loc.filter (fun q => !(q.1 == i) && !(q.1 + 1 == i && q.2.category == 2)) = loc') (k : sdW l E Y D tys b n ad L aF F Q X (pc + 1) loc' st M rc rs) : sdW l E Y D tys b n ad L aF F Q X pc loc (.int x :: st) M rc rs := by
  intro p e s m args below meth c H locs ls cells slots hC hK hH hS hl hc hs
  refine lv_istore_n hC.1.1 hC.1.2.1 d hi hl hn rfl (fun ls' hl' => ?_)
  rw [sd_l_flt] at hl'
  subst h
  exact k p e s m args below meth c H locs ls' cells slots hC hK hH hS hl' hc hs
theorem x_istore (i : Nat) (loc' : List (Nat × Value)) {x : Int32} (d : decode Y.2.1 pc = .ok (.istore i, 2)) (hn : i < Y.2.2.1) (h : (i, Value.int x) :: loc.filter (fun q => !(q.1 == i) && !(q.1 + 1 == i && q.2.category == 2)) = loc') (k : sdW l E Y D tys b n ad L aF F Q X (pc + 2) loc' st M rc rs) : sdW l E Y D tys b n ad L aF F Q X pc loc (.int x :: st) M rc rs := by
  intro p e s m args below meth c H locs ls cells slots hC hK hH hS hl hc hs
  refine lv_istore hC.1.1 hC.1.2.1 d hl hn rfl (fun ls' hl' => ?_)
  rw [sd_l_flt] at hl'
  subst h
  exact k p e s m args below meth c H locs ls' cells slots hC hK hH hS hl' hc hs
theorem x_astore_n {f : Fin 4} (i : Nat) (loc' : List (Nat × Value)) {x : Nat} (d : decode Y.2.1 pc = .ok (.astore_n f, 1)) (hi : (f : Nat) = i) (hn : i < Y.2.2.1) (h : (i, Value.ref x) :: loc.filter (fun q => !(q.1 == i) && !(q.1 + 1 == i && q.2.category == 2)) = loc') (k : sdW l E Y D tys b n ad L aF F Q X (pc + 1) loc' st M rc rs) : sdW l E Y D tys b n ad L aF F Q X pc loc (.ref x :: st) M rc rs := by
  intro p e s m args below meth c H locs ls cells slots hC hK hH hS hl hc hs
  refine lv_astore_n hC.1.1 hC.1.2.1 d hi hl hn rfl (fun ls' hl' => ?_)
  rw [sd_l_flt] at hl'
  subst h
  exact k p e s m args below meth c H locs ls' cells slots hC hK hH hS hl' hc hs
theorem x_astore (i : Nat) (loc' : List (Nat × Value)) {x : Nat} (d : decode Y.2.1 pc = .ok (.astore i, 2)) (hn : i < Y.2.2.1) (h : (i, Value.ref x) :: loc.filter (fun q => !(q.1 == i) && !(q.1 + 1 == i && q.2.category == 2)) = loc') (k : sdW l E Y D tys b n ad L aF F Q X (pc + 2) loc' st M rc rs) : sdW l E Y D tys b n ad L aF F Q X pc loc (.ref x :: st) M rc rs := by
  intro p e s m args below meth c H locs ls cells slots hC hK hH hS hl hc hs
  refine lv_astore hC.1.1 hC.1.2.1 d hl hn rfl (fun ls' hl' => ?_)
  rw [sd_l_flt] at hl'
  subst h
  exact k p e s m args below meth c H locs ls' cells slots hC hK hH hS hl' hc hs
theorem x_iinc (i j : Nat) (loc' : List (Nat × Value)) {z : Int} {x v : Int32} (d : decode Y.2.1 pc = .ok (.iinc i z, 3)) (hj : loc[j]? = some (i, .int x)) (hv : x + Int32.ofInt z = v) (hn : i < Y.2.2.1) (h : (i, Value.int v) :: loc.filter (fun q => !(q.1 == i) && !(q.1 + 1 == i && q.2.category == 2)) = loc') (k : sdW l E Y D tys b n ad L aF F Q X (pc + 3) loc' st M rc rs) : sdW l E Y D tys b n ad L aF F Q X pc loc st M rc rs := by
  intro p e s m args below meth c H locs ls cells slots hC hK hH hS hl hc hs
  refine lv_iinc hC.1.1 hC.1.2.1 d hl (sd_l_get hj) hv hn rfl (fun ls' hl' => ?_)
  rw [sd_l_flt] at hl'
  subst h
  exact k p e s m args below meth c H locs ls' cells slots hC hK hH hS hl' hc hs
theorem x_iadd {x y : Int32} (d : decode Y.2.1 pc = .ok (.iadd, 1)) (k : sdW l E Y D tys b n ad L aF F Q X (pc + 1) loc (.int (x + y) :: st) M rc rs) : sdW l E Y D tys b n ad L aF F Q X pc loc (.int y :: .int x :: st) M rc rs := by
  intro p e s m args below meth c H locs ls cells slots hC hK hH hS hl hc hs
  exact lv_iadd hC.1.1 hC.1.2.1 d (k p e s m args below meth c H locs ls cells slots hC hK hH hS hl hc hs)
theorem x_isub {x y : Int32} (d : decode Y.2.1 pc = .ok (.isub, 1)) (k : sdW l E Y D tys b n ad L aF F Q X (pc + 1) loc (.int (x - y) :: st) M rc rs) : sdW l E Y D tys b n ad L aF F Q X pc loc (.int y :: .int x :: st) M rc rs := by
  intro p e s m args below meth c H locs ls cells slots hC hK hH hS hl hc hs
  exact lv_isub hC.1.1 hC.1.2.1 d (k p e s m args below meth c H locs ls cells slots hC hK hH hS hl hc hs)
theorem x_imul {x y : Int32} (d : decode Y.2.1 pc = .ok (.imul, 1)) (k : sdW l E Y D tys b n ad L aF F Q X (pc + 1) loc (.int (x * y) :: st) M rc rs) : sdW l E Y D tys b n ad L aF F Q X pc loc (.int y :: .int x :: st) M rc rs := by
  intro p e s m args below meth c H locs ls cells slots hC hK hH hS hl hc hs
  exact lv_imul hC.1.1 hC.1.2.1 d (k p e s m args below meth c H locs ls cells slots hC hK hH hS hl hc hs)
theorem x_iand {x y : Int32} (d : decode Y.2.1 pc = .ok (.iand, 1)) (k : sdW l E Y D tys b n ad L aF F Q X (pc + 1) loc (.int (x &&& y) :: st) M rc rs) : sdW l E Y D tys b n ad L aF F Q X pc loc (.int y :: .int x :: st) M rc rs := by
  intro p e s m args below meth c H locs ls cells slots hC hK hH hS hl hc hs
  exact lv_iand hC.1.1 hC.1.2.1 d (k p e s m args below meth c H locs ls cells slots hC hK hH hS hl hc hs)
theorem x_ior {x y : Int32} (d : decode Y.2.1 pc = .ok (.ior, 1)) (k : sdW l E Y D tys b n ad L aF F Q X (pc + 1) loc (.int (x ||| y) :: st) M rc rs) : sdW l E Y D tys b n ad L aF F Q X pc loc (.int y :: .int x :: st) M rc rs := by
  intro p e s m args below meth c H locs ls cells slots hC hK hH hS hl hc hs
  exact lv_ior hC.1.1 hC.1.2.1 d (k p e s m args below meth c H locs ls cells slots hC hK hH hS hl hc hs)
theorem x_ixor {x y : Int32} (d : decode Y.2.1 pc = .ok (.ixor, 1)) (k : sdW l E Y D tys b n ad L aF F Q X (pc + 1) loc (.int (x ^^^ y) :: st) M rc rs) : sdW l E Y D tys b n ad L aF F Q X pc loc (.int y :: .int x :: st) M rc rs := by
  intro p e s m args below meth c H locs ls cells slots hC hK hH hS hl hc hs
  exact lv_ixor hC.1.1 hC.1.2.1 d (k p e s m args below meth c H locs ls cells slots hC hK hH hS hl hc hs)
theorem x_ishl {x y : Int32} (d : decode Y.2.1 pc = .ok (.ishl, 1)) (k : sdW l E Y D tys b n ad L aF F Q X (pc + 1) loc (.int (x <<< (y &&& 31)) :: st) M rc rs) : sdW l E Y D tys b n ad L aF F Q X pc loc (.int y :: .int x :: st) M rc rs := by
  intro p e s m args below meth c H locs ls cells slots hC hK hH hS hl hc hs
  exact lv_ishl hC.1.1 hC.1.2.1 d (k p e s m args below meth c H locs ls cells slots hC hK hH hS hl hc hs)
theorem x_ishr {x y : Int32} (d : decode Y.2.1 pc = .ok (.ishr, 1)) (k : sdW l E Y D tys b n ad L aF F Q X (pc + 1) loc (.int (x >>> (y &&& 31)) :: st) M rc rs) : sdW l E Y D tys b n ad L aF F Q X pc loc (.int y :: .int x :: st) M rc rs := by
  intro p e s m args below meth c H locs ls cells slots hC hK hH hS hl hc hs
  exact lv_ishr hC.1.1 hC.1.2.1 d (k p e s m args below meth c H locs ls cells slots hC hK hH hS hl hc hs)
theorem x_idiv {x y : Int32} (d : decode Y.2.1 pc = .ok (.idiv, 1)) (h : ¬ y = 0) (k : sdW l E Y D tys b n ad L aF F Q X (pc + 1) loc (.int (x / y) :: st) M rc rs) : sdW l E Y D tys b n ad L aF F Q X pc loc (.int y :: .int x :: st) M rc rs := by
  intro p e s m args below meth c H locs ls cells slots hC hK hH hS hl hc hs
  exact lv_idiv hC.1.1 hC.1.2.1 d h (k p e s m args below meth c H locs ls cells slots hC hK hH hS hl hc hs)
theorem x_irem {x y : Int32} (d : decode Y.2.1 pc = .ok (.irem, 1)) (h : ¬ y = 0) (k : sdW l E Y D tys b n ad L aF F Q X (pc + 1) loc (.int (x - x / y * y) :: st) M rc rs) : sdW l E Y D tys b n ad L aF F Q X pc loc (.int y :: .int x :: st) M rc rs := by
  intro p e s m args below meth c H locs ls cells slots hC hK hH hS hl hc hs
  exact lv_irem hC.1.1 hC.1.2.1 d h (k p e s m args below meth c H locs ls cells slots hC hK hH hS hl hc hs)
theorem x_ineg {x : Int32} (d : decode Y.2.1 pc = .ok (.ineg, 1)) (k : sdW l E Y D tys b n ad L aF F Q X (pc + 1) loc (.int (-x) :: st) M rc rs) : sdW l E Y D tys b n ad L aF F Q X pc loc (.int x :: st) M rc rs := by
  intro p e s m args below meth c H locs ls cells slots hC hK hH hS hl hc hs
  exact lv_ineg hC.1.1 hC.1.2.1 d (k p e s m args below meth c H locs ls cells slots hC hK hH hS hl hc hs)
theorem x_dup {va : Value} (d : decode Y.2.1 pc = .ok (.dup, 1)) (hva : va.category = 1) (k : sdW l E Y D tys b n ad L aF F Q X (pc + 1) loc (va :: va :: st) M rc rs) : sdW l E Y D tys b n ad L aF F Q X pc loc (va :: st) M rc rs := by
  intro p e s m args below meth c H locs ls cells slots hC hK hH hS hl hc hs
  exact lv_dup hC.1.1 hC.1.2.1 d ((sd_v_cat ad va).trans hva) (k p e s m args below meth c H locs ls cells slots hC hK hH hS hl hc hs)
theorem x_pop {va : Value} (d : decode Y.2.1 pc = .ok (.pop, 1)) (hva : va.category = 1) (k : sdW l E Y D tys b n ad L aF F Q X (pc + 1) loc st M rc rs) : sdW l E Y D tys b n ad L aF F Q X pc loc (va :: st) M rc rs := by
  intro p e s m args below meth c H locs ls cells slots hC hK hH hS hl hc hs
  exact lv_pop hC.1.1 hC.1.2.1 d ((sd_v_cat ad va).trans hva) (k p e s m args below meth c H locs ls cells slots hC hK hH hS hl hc hs)
theorem x_dup_x1 {va vb : Value} (d : decode Y.2.1 pc = .ok (.dup_x1, 1)) (hva : va.category = 1) (hvb : vb.category = 1) (k : sdW l E Y D tys b n ad L aF F Q X (pc + 1) loc (va :: vb :: va :: st) M rc rs) : sdW l E Y D tys b n ad L aF F Q X pc loc (va :: vb :: st) M rc rs := by
  intro p e s m args below meth c H locs ls cells slots hC hK hH hS hl hc hs
  exact lv_dup_x1 hC.1.1 hC.1.2.1 d ((sd_v_cat ad va).trans hva) ((sd_v_cat ad vb).trans hvb) (k p e s m args below meth c H locs ls cells slots hC hK hH hS hl hc hs)
theorem x_dup_x2 {va vb vd : Value} (d : decode Y.2.1 pc = .ok (.dup_x2, 1)) (hva : va.category = 1) (hvb : vb.category = 1) (hvd : vd.category = 1) (k : sdW l E Y D tys b n ad L aF F Q X (pc + 1) loc (va :: vb :: vd :: va :: st) M rc rs) : sdW l E Y D tys b n ad L aF F Q X pc loc (va :: vb :: vd :: st) M rc rs := by
  intro p e s m args below meth c H locs ls cells slots hC hK hH hS hl hc hs
  exact lv_dup_x2 hC.1.1 hC.1.2.1 d ((sd_v_cat ad va).trans hva) ((sd_v_cat ad vb).trans hvb) ((sd_v_cat ad vd).trans hvd) (k p e s m args below meth c H locs ls cells slots hC hK hH hS hl hc hs)
theorem x_dup2 {va vb : Value} (d : decode Y.2.1 pc = .ok (.dup2, 1)) (hva : va.category = 1) (hvb : vb.category = 1) (k : sdW l E Y D tys b n ad L aF F Q X (pc + 1) loc (va :: vb :: va :: vb :: st) M rc rs) : sdW l E Y D tys b n ad L aF F Q X pc loc (va :: vb :: st) M rc rs := by
  intro p e s m args below meth c H locs ls cells slots hC hK hH hS hl hc hs
  exact lv_dup2_11 hC.1.1 hC.1.2.1 d ((sd_v_cat ad va).trans hva) ((sd_v_cat ad vb).trans hvb) (k p e s m args below meth c H locs ls cells slots hC hK hH hS hl hc hs)
theorem x_if_eq {x : Int32} {off : Int} (tgt : Nat) (d : decode Y.2.1 pc = .ok (.ifCond .eq off, 3)) (ht : (pc : Int) + off = (tgt : Int)) (kt : x = 0 → sdW l E Y D tys b n ad L aF F Q X tgt loc st M rc rs) (kf : ¬ x = 0 → sdW l E Y D tys b n ad L aF F Q X (pc + 3) loc st M rc rs) : sdW l E Y D tys b n ad L aF F Q X pc loc (.int x :: st) M rc rs := by
  intro p e s m args below meth c H locs ls cells slots hC hK hH hS hl hc hs
  exact lv_if_eq hC.1.1 hC.1.2.1 d ht (fun h => kt h p e s m args below meth c H locs ls cells slots hC hK hH hS hl hc hs) (fun h => kf h p e s m args below meth c H locs ls cells slots hC hK hH hS hl hc hs)
theorem x_if_ne {x : Int32} {off : Int} (tgt : Nat) (d : decode Y.2.1 pc = .ok (.ifCond .ne off, 3)) (ht : (pc : Int) + off = (tgt : Int)) (kt : ¬ x = 0 → sdW l E Y D tys b n ad L aF F Q X tgt loc st M rc rs) (kf : x = 0 → sdW l E Y D tys b n ad L aF F Q X (pc + 3) loc st M rc rs) : sdW l E Y D tys b n ad L aF F Q X pc loc (.int x :: st) M rc rs := by
  intro p e s m args below meth c H locs ls cells slots hC hK hH hS hl hc hs
  exact lv_if_ne hC.1.1 hC.1.2.1 d ht (fun h => kt h p e s m args below meth c H locs ls cells slots hC hK hH hS hl hc hs) (fun h => kf h p e s m args below meth c H locs ls cells slots hC hK hH hS hl hc hs)
theorem x_if_lt {x : Int32} {off : Int} (tgt : Nat) (d : decode Y.2.1 pc = .ok (.ifCond .lt off, 3)) (ht : (pc : Int) + off = (tgt : Int)) (kt : x < 0 → sdW l E Y D tys b n ad L aF F Q X tgt loc st M rc rs) (kf : ¬ x < 0 → sdW l E Y D tys b n ad L aF F Q X (pc + 3) loc st M rc rs) : sdW l E Y D tys b n ad L aF F Q X pc loc (.int x :: st) M rc rs := by
  intro p e s m args below meth c H locs ls cells slots hC hK hH hS hl hc hs
  exact lv_if_lt hC.1.1 hC.1.2.1 d ht (fun h => kt h p e s m args below meth c H locs ls cells slots hC hK hH hS hl hc hs) (fun h => kf h p e s m args below meth c H locs ls cells slots hC hK hH hS hl hc hs)
theorem x_if_ge {x : Int32} {off : Int} (tgt : Nat) (d : decode Y.2.1 pc = .ok (.ifCond .ge off, 3)) (ht : (pc : Int) + off = (tgt : Int)) (kt : 0 ≤ x → sdW l E Y D tys b n ad L aF F Q X tgt loc st M rc rs) (kf : ¬ 0 ≤ x → sdW l E Y D tys b n ad L aF F Q X (pc + 3) loc st M rc rs) : sdW l E Y D tys b n ad L aF F Q X pc loc (.int x :: st) M rc rs := by
  intro p e s m args below meth c H locs ls cells slots hC hK hH hS hl hc hs
  exact lv_if_ge hC.1.1 hC.1.2.1 d ht (fun h => kt h p e s m args below meth c H locs ls cells slots hC hK hH hS hl hc hs) (fun h => kf h p e s m args below meth c H locs ls cells slots hC hK hH hS hl hc hs)
theorem x_if_gt {x : Int32} {off : Int} (tgt : Nat) (d : decode Y.2.1 pc = .ok (.ifCond .gt off, 3)) (ht : (pc : Int) + off = (tgt : Int)) (kt : 0 < x → sdW l E Y D tys b n ad L aF F Q X tgt loc st M rc rs) (kf : ¬ 0 < x → sdW l E Y D tys b n ad L aF F Q X (pc + 3) loc st M rc rs) : sdW l E Y D tys b n ad L aF F Q X pc loc (.int x :: st) M rc rs := by
  intro p e s m args below meth c H locs ls cells slots hC hK hH hS hl hc hs
  exact lv_if_gt hC.1.1 hC.1.2.1 d ht (fun h => kt h p e s m args below meth c H locs ls cells slots hC hK hH hS hl hc hs) (fun h => kf h p e s m args below meth c H locs ls cells slots hC hK hH hS hl hc hs)
theorem x_if_le {x : Int32} {off : Int} (tgt : Nat) (d : decode Y.2.1 pc = .ok (.ifCond .le off, 3)) (ht : (pc : Int) + off = (tgt : Int)) (kt : x ≤ 0 → sdW l E Y D tys b n ad L aF F Q X tgt loc st M rc rs) (kf : ¬ x ≤ 0 → sdW l E Y D tys b n ad L aF F Q X (pc + 3) loc st M rc rs) : sdW l E Y D tys b n ad L aF F Q X pc loc (.int x :: st) M rc rs := by
  intro p e s m args below meth c H locs ls cells slots hC hK hH hS hl hc hs
  exact lv_if_le hC.1.1 hC.1.2.1 d ht (fun h => kt h p e s m args below meth c H locs ls cells slots hC hK hH hS hl hc hs) (fun h => kf h p e s m args below meth c H locs ls cells slots hC hK hH hS hl hc hs)
theorem x_icmp_eq {x y : Int32} {off : Int} (tgt : Nat) (d : decode Y.2.1 pc = .ok (.if_icmp .eq off, 3)) (ht : (pc : Int) + off = (tgt : Int)) (kt : x = y → sdW l E Y D tys b n ad L aF F Q X tgt loc st M rc rs) (kf : ¬ x = y → sdW l E Y D tys b n ad L aF F Q X (pc + 3) loc st M rc rs) : sdW l E Y D tys b n ad L aF F Q X pc loc (.int y :: .int x :: st) M rc rs := by
  intro p e s m args below meth c H locs ls cells slots hC hK hH hS hl hc hs
  exact lv_icmp_eq hC.1.1 hC.1.2.1 d ht (fun h => kt h p e s m args below meth c H locs ls cells slots hC hK hH hS hl hc hs) (fun h => kf h p e s m args below meth c H locs ls cells slots hC hK hH hS hl hc hs)
theorem x_icmp_ne {x y : Int32} {off : Int} (tgt : Nat) (d : decode Y.2.1 pc = .ok (.if_icmp .ne off, 3)) (ht : (pc : Int) + off = (tgt : Int)) (kt : ¬ x = y → sdW l E Y D tys b n ad L aF F Q X tgt loc st M rc rs) (kf : x = y → sdW l E Y D tys b n ad L aF F Q X (pc + 3) loc st M rc rs) : sdW l E Y D tys b n ad L aF F Q X pc loc (.int y :: .int x :: st) M rc rs := by
  intro p e s m args below meth c H locs ls cells slots hC hK hH hS hl hc hs
  exact lv_icmp_ne hC.1.1 hC.1.2.1 d ht (fun h => kt h p e s m args below meth c H locs ls cells slots hC hK hH hS hl hc hs) (fun h => kf h p e s m args below meth c H locs ls cells slots hC hK hH hS hl hc hs)
theorem x_icmp_lt {x y : Int32} {off : Int} (tgt : Nat) (d : decode Y.2.1 pc = .ok (.if_icmp .lt off, 3)) (ht : (pc : Int) + off = (tgt : Int)) (kt : x < y → sdW l E Y D tys b n ad L aF F Q X tgt loc st M rc rs) (kf : ¬ x < y → sdW l E Y D tys b n ad L aF F Q X (pc + 3) loc st M rc rs) : sdW l E Y D tys b n ad L aF F Q X pc loc (.int y :: .int x :: st) M rc rs := by
  intro p e s m args below meth c H locs ls cells slots hC hK hH hS hl hc hs
  exact lv_icmp_lt hC.1.1 hC.1.2.1 d ht (fun h => kt h p e s m args below meth c H locs ls cells slots hC hK hH hS hl hc hs) (fun h => kf h p e s m args below meth c H locs ls cells slots hC hK hH hS hl hc hs)
theorem x_icmp_ge {x y : Int32} {off : Int} (tgt : Nat) (d : decode Y.2.1 pc = .ok (.if_icmp .ge off, 3)) (ht : (pc : Int) + off = (tgt : Int)) (kt : y ≤ x → sdW l E Y D tys b n ad L aF F Q X tgt loc st M rc rs) (kf : ¬ y ≤ x → sdW l E Y D tys b n ad L aF F Q X (pc + 3) loc st M rc rs) : sdW l E Y D tys b n ad L aF F Q X pc loc (.int y :: .int x :: st) M rc rs := by
  intro p e s m args below meth c H locs ls cells slots hC hK hH hS hl hc hs
  exact lv_icmp_ge hC.1.1 hC.1.2.1 d ht (fun h => kt h p e s m args below meth c H locs ls cells slots hC hK hH hS hl hc hs) (fun h => kf h p e s m args below meth c H locs ls cells slots hC hK hH hS hl hc hs)
theorem x_icmp_gt {x y : Int32} {off : Int} (tgt : Nat) (d : decode Y.2.1 pc = .ok (.if_icmp .gt off, 3)) (ht : (pc : Int) + off = (tgt : Int)) (kt : y < x → sdW l E Y D tys b n ad L aF F Q X tgt loc st M rc rs) (kf : ¬ y < x → sdW l E Y D tys b n ad L aF F Q X (pc + 3) loc st M rc rs) : sdW l E Y D tys b n ad L aF F Q X pc loc (.int y :: .int x :: st) M rc rs := by
  intro p e s m args below meth c H locs ls cells slots hC hK hH hS hl hc hs
  exact lv_icmp_gt hC.1.1 hC.1.2.1 d ht (fun h => kt h p e s m args below meth c H locs ls cells slots hC hK hH hS hl hc hs) (fun h => kf h p e s m args below meth c H locs ls cells slots hC hK hH hS hl hc hs)
theorem x_icmp_le {x y : Int32} {off : Int} (tgt : Nat) (d : decode Y.2.1 pc = .ok (.if_icmp .le off, 3)) (ht : (pc : Int) + off = (tgt : Int)) (kt : x ≤ y → sdW l E Y D tys b n ad L aF F Q X tgt loc st M rc rs) (kf : ¬ x ≤ y → sdW l E Y D tys b n ad L aF F Q X (pc + 3) loc st M rc rs) : sdW l E Y D tys b n ad L aF F Q X pc loc (.int y :: .int x :: st) M rc rs := by
  intro p e s m args below meth c H locs ls cells slots hC hK hH hS hl hc hs
  exact lv_icmp_le hC.1.1 hC.1.2.1 d ht (fun h => kt h p e s m args below meth c H locs ls cells slots hC hK hH hS hl hc hs) (fun h => kf h p e s m args below meth c H locs ls cells slots hC hK hH hS hl hc hs)
theorem x_goto {off : Int} (tgt : Nat) (d : decode Y.2.1 pc = .ok (.goto off, 3)) (ht : (pc : Int) + off = (tgt : Int)) (k : sdW l E Y D tys b n ad L aF F Q X tgt loc st M rc rs) : sdW l E Y D tys b n ad L aF F Q X pc loc st M rc rs := by
  intro p e s m args below meth c H locs ls cells slots hC hK hH hS hl hc hs
  exact lv_goto hC.1.1 hC.1.2.1 d ht (k p e s m args below meth c H locs ls cells slots hC hK hH hS hl hc hs)
theorem x_sub (js : List Nat) (loc' : List (Nat × Value)) (h : lv_pick loc js = loc') (k : sdW l E Y D tys b n ad L aF F Q X pc loc' st M rc rs) : sdW l E Y D tys b n ad L aF F Q X pc loc st M rc rs := by
  intro p e s m args below meth c H locs ls cells slots hC hK hH hS hl hc hs
  subst h
  exact k p e s m args below meth c H locs ls cells slots hC hK hH hS (lv_sub hl js (sd_l_pick loc js)) hc hs
theorem x_wide (rc' rs' : Nat) (h1 : rc' ≤ rc) (h2 : rs' ≤ rs) (k : sdW l E Y D tys b n ad L aF F Q X pc loc st M rc' rs') : sdW l E Y D tys b n ad L aF F Q X pc loc st M rc rs := by
  intro p e s m args below meth c H locs ls cells slots hC hK hH hS hl hc hs
  exact k p e s m args below meth c H locs ls cells slots hC hK hH hS hl (by omega) (by omega)
theorem x_same {pc' : Nat} {loc' : List (Nat × Value)} {st' : List Value} {M' : sdM} (k : sdW l E Y D tys b n ad L aF F Q X pc' loc' st' M' rc rs) (h1 : pc' = pc) (h2 : loc' = loc) (h3 : st' = st) (h4 : M' = M) : sdW l E Y D tys b n ad L aF F Q X pc loc st M rc rs := by
  subst h1 h2 h3 h4
  exact k
theorem x_geti (j : Nat) {t ci N : Nat} {fs : List (Option (Option Nat))} {C ref : String} {T : u_T} {idx : Nat} (d : decode Y.2.1 pc = .ok (.getfield idx, 3)) (hn : t < n) (hL : L t = sd_O ci fs) (hj : fs[j]? = some none) (hc9 : E.1[ci]? = some (C, T, N)) (hN : j < N) (hin : ∀ w ∈ u_ws C T N, w ∈ Y.2.2.2.2.1) (hlk : Cond.fieldLink Y.1 idx ref (T j).2.1 (T j).2.2.1 ∈ Y.2.2.2.2.1) (href : ref = (T j).1) (k : sdW l E Y D tys b n ad L aF F Q X (pc + 3) loc (.int (M t j) :: st) M rc rs) : sdW l E Y D tys b n ad L aF F Q X pc loc (.ref t :: st) M rc rs := by
  intro p e s m args below meth c H locs ls cells slots hC hK hH hS hl hc hs
  subst href
  have hat := hH t hn
  rw [hL] at hat
  refine va_get hC.1.1 hC.1.2.1 hC.1.2.2.2.2 hin hC.1.2.2.2.1 hK.1 (ws := [(ad t, .inr (ci, sd_fv ad (M t) 0 fs))]) (sd_one hat) 0 rfl hc9 j hN (hC.1.2.2.2.2 _ hlk) (fun _ h => h) (v := .int (M t j)) ?_ d (k p e s m args below meth c H locs ls cells slots hC hK hH hS hl hc hs)
  have h9 := sd_fv_at (ad := ad) (f := M t) fs 0 j hj
  rwa [Nat.zero_add] at h9
theorem x_getr (j u : Nat) {t ci N : Nat} {fs : List (Option (Option Nat))} {C ref : String} {T : u_T} {idx : Nat} (d : decode Y.2.1 pc = .ok (.getfield idx, 3)) (hn : t < n) (hL : L t = sd_O ci fs) (hj : fs[j]? = some (some (some u))) (hc9 : E.1[ci]? = some (C, T, N)) (hN : j < N) (hin : ∀ w ∈ u_ws C T N, w ∈ Y.2.2.2.2.1) (hlk : Cond.fieldLink Y.1 idx ref (T j).2.1 (T j).2.2.1 ∈ Y.2.2.2.2.1) (href : ref = (T j).1) (k : sdW l E Y D tys b n ad L aF F Q X (pc + 3) loc (.ref u :: st) M rc rs) : sdW l E Y D tys b n ad L aF F Q X pc loc (.ref t :: st) M rc rs := by
  intro p e s m args below meth c H locs ls cells slots hC hK hH hS hl hc hs
  subst href
  have hat := hH t hn
  rw [hL] at hat
  exact va_get hC.1.1 hC.1.2.1 hC.1.2.2.2.2 hin hC.1.2.2.2.1 hK.1 (ws := [(ad t, .inr (ci, sd_fv ad (M t) 0 fs))]) (sd_one hat) 0 rfl hc9 j hN (hC.1.2.2.2.2 _ hlk) (fun _ h => h) (v := .ref (ad u)) (sd_fv_at fs 0 j hj) d (k p e s m args below meth c H locs ls cells slots hC hK hH hS hl hc hs)
theorem x_puti (j : Nat) {t ci N : Nat} {fs : List (Option (Option Nat))} {C ref : String} {T : u_T} {idx : Nat} {ty : FieldType} {x : Int32} (hA : sd_ad b n ad) (d : decode Y.2.1 pc = .ok (.putfield idx, 3)) (hn : t < n) (hL : L t = sd_O ci fs) (hj : fs[j]? = some none) (hc9 : E.1[ci]? = some (C, T, N)) (hN : j < N) (hin : ∀ w ∈ u_ws C T N, w ∈ Y.2.2.2.2.1) (hlk : Cond.fieldLink Y.1 idx ref (T j).2.1 (T j).2.2.1 ∈ Y.2.2.2.2.1) (href : ref = (T j).1) (ty0 : Nat → FieldType) (hty : ∀ k, k < N → parseFieldDescriptor (T k).2.2.1 = some (ty0 k)) (hnm : ∀ a, a < N → ∀ b, b < N → a ≠ b → (T a).2.1 ≠ (T b).2.1) (hfin : (T j).2.2.2 = false) (hd : parseFieldDescriptor (T j).2.2.1 = some ty) (hnr : narrow ty (.int x) = .int x) (hft : fits ty (.int x) = true) (k : ∀ M1 : sdM, M1 = sd_s M t j x → sdW l E Y D tys b n ad L aF F Q X (pc + 3) loc st M1 rc rs) : sdW l E Y D tys b n ad L aF F Q X pc loc (.int x :: .ref t :: st) M rc rs := by
  intro p e s m args below meth c H locs ls cells slots hC hK hH hS hl hc hs
  subst href
  have hG : (sd_G n ad L M)[t]? = some (ad t, .inr (ci, sd_fv ad (M t) 0 fs)) := by rw [sd_G_get hn, hL]; rfl
  refine va_put (v := .int x) hC.1.1 hC.1.2.1 hC.1.2.2.2.2 hin ty0 hty hnm hC.1.2.2.2.1 hK.1 hH.toP hA.toD hS t hG hc9 j hN (hC.1.2.2.2.2 _ hlk) (fun _ h => h) hfin hd hnr hft (by rw [sd_fv_len]; exact (List.getElem?_eq_some_iff.mp hj).1) d (fun H1 locs1 hP1 _ hS1 => ?_)
  have he : (Sum.inr (ci, (sd_fv ad (M t) 0 fs).set j (.int x)) : va_E) = L t ad (upd (M t) j x) := by
    rw [hL, sd_fv_set fs 0 j hj, Nat.zero_add]; rfl
  rw [sd_G_set hn he] at hP1
  exact k _ rfl p e s m args below meth c H1 locs1 ls cells slots hC hK (sd_H.ofP hP1) hS1 hl hc hs
theorem x_iald {t len : Nat} {cA : ClassId} {i : Int32} (d : decode Y.2.1 pc = .ok (.iaload, 1)) (hn : t < n) (hL : L t = sd_I cA len) (ht : tys[0]? = some (cA, .int)) (hi : vp_in i len) (k : sdW l E Y D tys b n ad L aF F Q X (pc + 1) loc (.int (M t i.toNatClampNeg) :: st) M rc rs) : sdW l E Y D tys b n ad L aF F Q X pc loc (.int i :: .ref t :: st) M rc rs := by
  intro p e s m args below meth c H locs ls cells slots hC hK hH hS hl hc hs
  have hat := hH t hn
  rw [hL] at hat
  exact va_iald hC.1.1 hC.1.2.1 hK.1 (ws := [(ad t, .inl (cA, len, .inl (M t)))]) (sd_one hat) 0 0 rfl ht hi d (k p e s m args below meth c H locs ls cells slots hC hK hH hS hl hc hs)
theorem x_zald {t len : Nat} {cA : ClassId} {i : Int32} (d : decode Y.2.1 pc = .ok (.baload, 1)) (hn : t < n) (hL : L t = sd_I cA len) (ht : tys[1]? = some (cA, .boolean)) (hi : vp_in i len) (k : sdW l E Y D tys b n ad L aF F Q X (pc + 1) loc (.int (M t i.toNatClampNeg) :: st) M rc rs) : sdW l E Y D tys b n ad L aF F Q X pc loc (.int i :: .ref t :: st) M rc rs := by
  intro p e s m args below meth c H locs ls cells slots hC hK hH hS hl hc hs
  have hat := hH t hn
  rw [hL] at hat
  exact va_zald hC.1.1 hC.1.2.1 hK.1 (ws := [(ad t, .inl (cA, len, .inl (M t)))]) (sd_one hat) 0 1 rfl ht hi d (k p e s m args below meth c H locs ls cells slots hC hK hH hS hl hc hs)
theorem x_aald (j : Nat) {t len t0 : Nat} {cA : ClassId} {C : String} {g : Nat → Nat} {i : Int32} (d : decode Y.2.1 pc = .ok (.aaload, 1)) (hn : t < n) (hL : L t = sd_Q cA len g) (ht : tys[t0]? = some (cA, .object C)) (hi : vp_in i len) (hj : g i.toNatClampNeg = j) (k : sdW l E Y D tys b n ad L aF F Q X (pc + 1) loc (.ref j :: st) M rc rs) : sdW l E Y D tys b n ad L aF F Q X pc loc (.int i :: .ref t :: st) M rc rs := by
  intro p e s m args below meth c H locs ls cells slots hC hK hH hS hl hc hs
  subst hj
  have hat := hH t hn
  rw [hL] at hat
  exact va_aldq hC.1.1 hC.1.2.1 hK.1 (ws := [(ad t, .inl (cA, len, .inr (.inr (.inr (.inr (fun j => some (ad (g j))))))))]) (sd_one hat) 0 t0 rfl ht hi d (k p e s m args below meth c H locs ls cells slots hC hK hH hS hl hc hs)
theorem x_iast {t len : Nat} {cA : ClassId} {i x : Int32} (hA : sd_ad b n ad) (d : decode Y.2.1 pc = .ok (.iastore, 1)) (hn : t < n) (hL : L t = sd_I cA len) (ht : tys[0]? = some (cA, .int)) (hi : vp_in i len) (k : ∀ M1 : sdM, M1 = sd_s M t i.toNatClampNeg x → sdW l E Y D tys b n ad L aF F Q X (pc + 1) loc st M1 rc rs) : sdW l E Y D tys b n ad L aF F Q X pc loc (.int x :: .int i :: .ref t :: st) M rc rs := by
  intro p e s m args below meth c H locs ls cells slots hC hK hH hS hl hc hs
  have hG : (sd_G n ad L M)[t]? = some (ad t, .inl (cA, len, .inl (M t))) := by rw [sd_G_get hn, hL]; rfl
  refine va_iast hC.1.1 hC.1.2.1 hK.1 hH.toP hA.toD hS t 0 hG ht hi d (fun H1 locs1 hP1 _ hS1 => ?_)
  have he : (Sum.inl (cA, len, Sum.inl (upd (M t) i.toNatClampNeg x)) : va_E) = L t ad (upd (M t) i.toNatClampNeg x) := by rw [hL]; rfl
  rw [sd_G_set hn he] at hP1
  exact k _ rfl p e s m args below meth c H1 locs1 ls cells slots hC hK (sd_H.ofP hP1) hS1 hl hc hs
theorem x_zast {t len : Nat} {cA : ClassId} {i x : Int32} (hA : sd_ad b n ad) (d : decode Y.2.1 pc = .ok (.bastore, 1)) (hn : t < n) (hL : L t = sd_I cA len) (ht : tys[1]? = some (cA, .boolean)) (hi : vp_in i len) (hx : vp_nar .boolean x = x) (k : ∀ M1 : sdM, M1 = sd_s M t i.toNatClampNeg x → sdW l E Y D tys b n ad L aF F Q X (pc + 1) loc st M1 rc rs) : sdW l E Y D tys b n ad L aF F Q X pc loc (.int x :: .int i :: .ref t :: st) M rc rs := by
  intro p e s m args below meth c H locs ls cells slots hC hK hH hS hl hc hs
  have hG : (sd_G n ad L M)[t]? = some (ad t, .inl (cA, len, .inl (M t))) := by rw [sd_G_get hn, hL]; rfl
  refine va_zast hC.1.1 hC.1.2.1 hK.1 hH.toP hA.toD hS t 1 hG ht hi d (fun H1 locs1 hP1 _ hS1 => ?_)
  rw [hx] at hP1
  have he : (Sum.inl (cA, len, Sum.inl (upd (M t) i.toNatClampNeg x)) : va_E) = L t ad (upd (M t) i.toNatClampNeg x) := by rw [hL]; rfl
  rw [sd_G_set hn he] at hP1
  exact k _ rfl p e s m args below meth c H1 locs1 ls cells slots hC hK (sd_H.ofP hP1) hS1 hl hc hs
theorem x_iret {x : Int32} (d : decode Y.2.1 pc = .ok (.ireturn, 1)) (hr : Y.2.2.2.1 = some .int) (hF : ∀ H : Heap, sd_H D E.1 n ad L M H → F M H) (k : Q (some (.int x)) M) : sdW l E Y D tys b n ad L aF F Q X pc loc [.int x] M rc rs := by
  intro p e s m args below meth c H locs ls cells slots hC hK hH hS hl hc hs
  refine W.widen (k := Y.2.2.2.2.2.2.1) (n := Y.2.2.2.2.2.2.2) (by omega) (by omega) (sd_ret ?_)
  exact W.iret hC.1.1 hC.1.2.1 (hC.2.2.1.trans hr) (fun t ht _ => ⟨some (.int x), M, rfl, k, by rw [ht]; exact hF H hH, hS.F ht⟩) hS.2.2 d hC.2.1
theorem x_zret {x : Int32} (d : decode Y.2.1 pc = .ok (.ireturn, 1)) (hr : Y.2.2.2.1 = some .boolean) (hx : narrow .boolean (.int x) = .int x) (hF : ∀ H : Heap, sd_H D E.1 n ad L M H → F M H) (k : Q (some (.int x)) M) : sdW l E Y D tys b n ad L aF F Q X pc loc [.int x] M rc rs := by
  intro p e s m args below meth c H locs ls cells slots hC hK hH hS hl hc hs
  refine W.widen (k := Y.2.2.2.2.2.2.1) (n := Y.2.2.2.2.2.2.2) (by omega) (by omega) (sd_ret ?_)
  exact W.zret hC.1.1 hC.1.2.1 (hC.2.2.1.trans hr) hx (fun t ht _ => ⟨some (.int x), M, rfl, k, by rw [ht]; exact hF H hH, hS.F ht⟩) hS.2.2 d hC.2.1
theorem x_vret (d : decode Y.2.1 pc = .ok (.return_, 1)) (hr : Y.2.2.2.1 = none) (hF : ∀ H : Heap, sd_H D E.1 n ad L M H → F M H) (k : Q none M) : sdW l E Y D tys b n ad L aF F Q X pc loc [] M rc rs := by
  intro p e s m args below meth c H locs ls cells slots hC hK hH hS hl hc hs
  refine W.widen (k := Y.2.2.2.2.2.2.1) (n := Y.2.2.2.2.2.2.2) (by omega) (by omega) (sd_ret ?_)
  exact W.vret hC.1.1 hC.1.2.1 (hC.2.2.1.trans hr) (fun t ht _ => ⟨none, M, rfl, k, by rw [ht]; exact hF H hH, hS.F ht⟩) hS.2.2 d hC.2.1
theorem x_aret {t : Nat} {nm : String} (d : decode Y.2.1 pc = .ok (.areturn, 1)) (hr : Y.2.2.2.1 = some (.object nm)) (ha : ad t = aF t) (hF : ∀ H : Heap, sd_H D E.1 n ad L M H → F M H) (k : Q (some (.ref t)) M) : sdW l E Y D tys b n ad L aF F Q X pc loc [.ref t] M rc rs := by
  intro p e s m args below meth c H locs ls cells slots hC hK hH hS hl hc hs
  refine W.widen (k := Y.2.2.2.2.2.2.1) (n := Y.2.2.2.2.2.2.2) (by omega) (by omega) (sd_ret ?_)
  exact W.aret (v := .ref (ad t)) hC.1.1 hC.1.2.1 (hC.2.2.1.trans hr) (Or.inl ⟨_, rfl⟩) (Or.inr ⟨_, rfl⟩) (fun t' ht _ => ⟨some (.ref t), M, by rw [ha]; rfl, k, by rw [ht]; exact hF H hH, hS.F ht⟩) hS.2.2 d hC.2.1
theorem x_callVg {Y' : sdY} {y : MethodName} {idx na : Nat} {As rest st0 : List Value} {Q' : Option Value → sdM → Prop} {X' : String → sdM → Prop} {t ci N : Nat} {fs : List (Option (Option Nat))} {C : String} {T : u_T} (hCn : sd_Cn l E y Y'.2.2.2.2.1 Y'.2.2.2.2.2.1 Y'.2.2.2.2.2.2.1 Y'.2.2.2.2.2.2.2 D tys b n ad L M (.ref t :: As) Q' X') (hcw : sd_cwV Y Y' y idx na C) (hn : t < n) (hL : L t = sd_O ci fs) (hc9 : E.1[ci]? = some (C, T, N)) (d : decode Y.2.1 pc = .ok (.invokevirtual idx, 3)) (hna : As.length = na) (hst : st0 = As.reverse ++ .ref t :: rest) (hcat : (rest.map fun v => v.category).sum ≤ 8) (hX : ∀ E' M', X' E' M' → X E' M') (hF : ∀ (M : sdM) (H : Heap), sd_H D E.1 n ad L M H → F M H)
    (k : ∀ (v : Option Value) (M' : sdM), Q' v M' → sdW l E Y D tys b n ad L aF F Q X (pc + 3) loc (v.toList ++ rest) M' rc rs) : sdW l E Y D tys b n ad L aF F Q X pc loc st0 M (rc + Y'.2.2.2.2.2.2.1) (rs + Y'.2.2.2.2.2.2.2) := by
  intro p e s m args below meth c H locs ls cells slots hC hK hH hS hl hc hs
  subst hst
  obtain ⟨g1, ⟨ws', g2⟩, ⟨g3, g4, g5, g6⟩, g7, g8⟩ := hcw
  intro T hT X0
  subst hT
  have hat := hH t hn
  rw [hL] at hat
  have gws : GoodIn Y.2.2.2.2.1 Y'.2.2.2.2.1 := fun w h => g1 w (by unfold wsV; exact List.mem_append_right _ h)
  have ok : ∀ w ∈ wsV Y.1 idx C y Y'.2.2.2.2.1, w.before args s = true := fun w h => hC.1.2.2.2.2 w (g1 w h).1
  obtain ⟨rfl, hy1, hy2, hy3⟩ := g7
  have hini : (Cond.initialized y.cls).before args s = true := ok _ (by simp [wsV])
  have hinst : (Cond.instanceMethod y).before args s = true := ok _ (by simp [wsV])
  have hsel : (Cond.selects y.cls y y).before args s = true := ok _ (by simp [wsV])
  have hcode : (Cond.code y Y'.2.1 Y'.2.2.1 Y'.2.2.2.1).before args s = true := hC.1.2.2.2.2 _ (gws _ (by rw [g2]; exact List.mem_cons_self)).1
  obtain ⟨cellB, hcB, hoB, hclB⟩ := va_recv (q0 := 0) (a := ad t) (fs := sd_fv ad (M t) 0 fs) hK.1 (sd_one hat) hc9 rfl
  obtain ⟨mk, methM, hnamed, hmethM, hstM, habM⟩ := Cond.instanceMethod_spec hinst
  obtain ⟨methM', cM, hmethM', -, -, -, -, -, -, hsigM⟩ := Cond.code_spec hnamed hcode
  cases hmethM.symm.trans hmethM'
  obtain ⟨c2, r2, m2, q1, q2, q3, q4, kP, hkP, hkPi⟩ := Cond.selects_spec hsel
  cases hclB.symm.trans q1
  cases (State.methodFound?_of_named hnamed ⟨hy1, hy2⟩).symm.trans q2
  cases hnamed.symm.trans q3
  have hlen : (As.map (sd_v ad)).length = methM.sig.parameters.length := by
    rw [hsigM] at hy3
    rw [List.length_map, hna]
    exact (Option.some.inj hy3).symm
  obtain ⟨vm₁, X₁, st1⟩ := X0.invokevirtual hC.1.1 hC.1.2.2.2.1 (ok (.methodLink Y.1 idx y) (by simp [wsV])) hnamed hmethM hstM hkP hkPi ⟨hy1, hy2⟩ (a := ad t) (cell := cellB) hcB
    (fun z h => by rw [h] at hoB; cases hoB) (by rw [Launch.admits_selectMethod X0.admits]; exact q4) hmethM habM hkP hkPi (g := F0 m pc ls ((As.reverse ++ .ref t :: rest).map (sd_v ad))) rfl (argsL := As.map (sd_v ad)) (rest := rest.map (sd_v ad)) hlen (by show List.map (sd_v ad) (As.reverse ++ .ref t :: rest) = _; simp [List.map_append, List.map_reverse, sd_v]) (by rw [hC.1.2.1]; exact d)
  rcases sd_pay hCn X₁ rfl (hl.1.trans hC.1.2.2.1.symm) (by rw [hC.1.2.1]; exact d) (X₁.named hnamed) (fun w hw => pay_in hC.1.2.2.2.2 gws w hw _ _ X₁.warmed) (pay_in hC.1.2.2.2.2 gws _ (by rw [g2]; exact List.mem_cons_self) _ _ X₁.warmed) (word_at X₁.warmed (Or.inl rfl) hini) g3 g4 g8.1 g8.2 (lv_room (rest := rest.map (sd_v ad)) (by rw [sd_cats]; exact hcat)) (by rw [g5]; omega) (by rw [g6]; omega) ⟨rfl, (hK.move X₁.warmed rfl hS).call, hH⟩ with ⟨v, M', T', L', St', hq, hF', hfr, hL', hst'⟩ | ⟨q, E', M', ce, T', L', St', hx, hF', hce, hcv, hcl, hfr, hL', hst'⟩
  · obtain ⟨t2, a1, b1⟩ := k v M' hq p e s m args below meth c T'.heap (locs ++ L') ls (cells + Y'.2.2.2.2.2.2.1) (slots + Y'.2.2.2.2.2.2.2) hC hK hF' (sd_S_next hS hfr hL') hl (by omega) (by omega) T' rfl St'
    refine ⟨t2, st1 _ (fun acts => ?_), b1⟩
    rw [doInvoke_state]
    refine hst'.trans ?_
    cases v <;> exact a1
  · obtain ⟨t2, a1, b1⟩ := sd_out (R := Y.2.2.2.2.2.1) (p := p) (l := l) (e := e) (args := args) (below := below) (pc := pc) (ls := ls) (st := rest.map (sd_v ad)) (aF := aF) (Q := Q) hC.2.2.2 hC.2.1 (hX _ _ hx) (hF _ _ hF') hce hcv (by rw [← X₁.warmed.alike.findClass]; exact hcl) (sd_S_next hS hfr hL') (show cells + Y'.2.2.2.2.2.2.1 ≤ Y.2.2.2.2.2.2.1 by omega) (show slots + Y'.2.2.2.2.2.2.2 ≤ Y.2.2.2.2.2.2.2 by omega) T' rfl St'
    refine ⟨t2, st1 _ (fun acts => ?_), b1⟩
    rw [doInvoke_state]
    exact hst'.trans a1
theorem x_callSg {Y' : sdY} {y : MethodName} {idx na : Nat} {As rest st0 : List Value} {Q' : Option Value → sdM → Prop} {X' : String → sdM → Prop} (hCn : sd_Cn l E y Y'.2.2.2.2.1 Y'.2.2.2.2.2.1 Y'.2.2.2.2.2.2.1 Y'.2.2.2.2.2.2.2 D tys b n ad L M As Q' X') (hcw : sd_cwS Y Y' y idx na) (d : decode Y.2.1 pc = .ok (.invokestatic idx, 3)) (hna : As.length = na) (hst : st0 = As.reverse ++ rest) (hcat : (rest.map fun v => v.category).sum ≤ 8) (hX : ∀ E' M', X' E' M' → X E' M') (hF : ∀ (M : sdM) (H : Heap), sd_H D E.1 n ad L M H → F M H)
    (k : ∀ (v : Option Value) (M' : sdM), Q' v M' → sdW l E Y D tys b n ad L aF F Q X (pc + 3) loc (v.toList ++ rest) M' rc rs) : sdW l E Y D tys b n ad L aF F Q X pc loc st0 M (rc + Y'.2.2.2.2.2.2.1) (rs + Y'.2.2.2.2.2.2.2) := by
  intro p e s m args below meth c H locs ls cells slots hC hK hH hS hl hc hs
  subst hst
  obtain ⟨g1, ⟨ws', g2⟩, ⟨g3, g4, g5, g6⟩, g7, g8⟩ := hcw
  intro T hT X0
  subst hT
  have gws : GoodIn Y.2.2.2.2.1 Y'.2.2.2.2.1 := fun w h => g1 w (by unfold va_wsS; exact List.mem_append_right _ h)
  have ok : ∀ w ∈ va_wsS Y.1 idx y Y'.2.2.2.2.1, w.before args s = true := fun w h => hC.1.2.2.2.2 w (g1 w h).1
  obtain ⟨hy1, hy2, hy3⟩ := g7
  have hini : (Cond.initialized y.cls).before args s = true := ok _ (by simp [va_wsS])
  have hstt : (Cond.static y).before args s = true := ok _ (by simp [va_wsS])
  have hcode : (Cond.code y Y'.2.1 Y'.2.2.1 Y'.2.2.2.1).before args s = true := hC.1.2.2.2.2 _ (gws _ (by rw [g2]; exact List.mem_cons_self)).1
  obtain ⟨mk, hnamed⟩ := Cond.code_named hcode
  obtain ⟨methM, cM, hmethM, -, -, -, -, -, -, hsigM⟩ := Cond.code_spec hnamed hcode
  obtain ⟨kP, hkP, -⟩ := className_of_methodNamed hnamed
  have hlen : (As.map (sd_v ad)).length = methM.sig.parameters.length := by
    rw [hsigM] at hy3
    rw [List.length_map, hna]
    exact (Option.some.inj hy3).symm
  obtain ⟨vm₁, X₁, st1⟩ := X0.invokestatic hC.1.1 hC.1.2.2.2.1 (ok (.methodLink Y.1 idx y) (by simp [va_wsS])) hnamed hmethM (Cond.static_spec hnamed hmethM hstt) hkP (Cond.initialized_spec (findClass_of_methodNamed hnamed) hkP hini) ⟨hy1, hy2⟩ (g := F0 m pc ls ((As.reverse ++ rest).map (sd_v ad))) rfl (argsL := As.map (sd_v ad)) (rest := rest.map (sd_v ad)) hlen (by show List.map (sd_v ad) (As.reverse ++ rest) = _; simp [List.map_append, List.map_reverse]) (by rw [hC.1.2.1]; exact d)
  rcases sd_pay hCn X₁ rfl (hl.1.trans hC.1.2.2.1.symm) (by rw [hC.1.2.1]; exact d) (X₁.named hnamed) (fun w hw => pay_in hC.1.2.2.2.2 gws w hw _ _ X₁.warmed) (pay_in hC.1.2.2.2.2 gws _ (by rw [g2]; exact List.mem_cons_self) _ _ X₁.warmed) (word_at X₁.warmed (Or.inl rfl) hini) g3 g4 g8.1 g8.2 (lv_room (rest := rest.map (sd_v ad)) (by rw [sd_cats]; exact hcat)) (by rw [g5]; omega) (by rw [g6]; omega) ⟨rfl, (hK.move X₁.warmed rfl hS).call, hH⟩ with ⟨v, M', T', L', St', hq, hF', hfr, hL', hst'⟩ | ⟨q, E', M', ce, T', L', St', hx, hF', hce, hcv, hcl, hfr, hL', hst'⟩
  · obtain ⟨t2, a1, b1⟩ := k v M' hq p e s m args below meth c T'.heap (locs ++ L') ls (cells + Y'.2.2.2.2.2.2.1) (slots + Y'.2.2.2.2.2.2.2) hC hK hF' (sd_S_next hS hfr hL') hl (by omega) (by omega) T' rfl St'
    refine ⟨t2, st1 _ (fun acts => ?_), b1⟩
    rw [doInvoke_state]
    refine hst'.trans ?_
    cases v <;> exact a1
  · obtain ⟨t2, a1, b1⟩ := sd_out (R := Y.2.2.2.2.2.1) (p := p) (l := l) (e := e) (args := args) (below := below) (pc := pc) (ls := ls) (st := rest.map (sd_v ad)) (aF := aF) (Q := Q) hC.2.2.2 hC.2.1 (hX _ _ hx) (hF _ _ hF') hce hcv (by rw [← X₁.warmed.alike.findClass]; exact hcl) (sd_S_next hS hfr hL') (show cells + Y'.2.2.2.2.2.2.1 ≤ Y.2.2.2.2.2.2.1 by omega) (show slots + Y'.2.2.2.2.2.2.2 ≤ Y.2.2.2.2.2.2.2 by omega) T' rfl St'
    refine ⟨t2, st1 _ (fun acts => ?_), b1⟩
    rw [doInvoke_state]
    exact hst'.trans a1
theorem x_callVi {Y' : sdY} {y : MethodName} {idx na : Nat} {As rest st0 : List Value} {Q0 : Int32 → sdM → Prop} {X' : String → sdM → Prop} {t ci N : Nat} {fs : List (Option (Option Nat))} {C : String} {T : u_T} (hCn : sd_Cn l E y Y'.2.2.2.2.1 Y'.2.2.2.2.2.1 Y'.2.2.2.2.2.2.1 Y'.2.2.2.2.2.2.2 D tys b n ad L M (.ref t :: As) (sd_qi Q0) X')  (hcw : sd_cwV Y Y' y idx na C) (hn : t < n) (hL : L t = sd_O ci fs) (hc9 : E.1[ci]? = some (C, T, N)) (d : decode Y.2.1 pc = .ok (.invokevirtual idx, 3)) (hna : As.length = na) (hst : st0 = As.reverse ++ .ref t :: rest) (hcat : (rest.map fun v => v.category).sum ≤ 8) (hX : ∀ E' M', X' E' M' → X E' M') (hF : ∀ (M : sdM) (H : Heap), sd_H D E.1 n ad L M H → F M H) (k : ∀ (r : Int32) (M' : sdM), Q0 r M' → sdW l E Y D tys b n ad L aF F Q X (pc + 3) loc (.int r :: rest) M' rc rs) : sdW l E Y D tys b n ad L aF F Q X pc loc st0 M (rc + Y'.2.2.2.2.2.2.1) (rs + Y'.2.2.2.2.2.2.2) :=
  x_callVg hCn hcw hn hL hc9 d hna hst hcat hX hF (fun v M' hq => by obtain ⟨r, rfl, h⟩ := hq; exact k r M' h)
theorem x_callVv {Y' : sdY} {y : MethodName} {idx na : Nat} {As rest st0 : List Value} {Q0 : sdM → Prop} {X' : String → sdM → Prop} {t ci N : Nat} {fs : List (Option (Option Nat))} {C : String} {T : u_T} (hCn : sd_Cn l E y Y'.2.2.2.2.1 Y'.2.2.2.2.2.1 Y'.2.2.2.2.2.2.1 Y'.2.2.2.2.2.2.2 D tys b n ad L M (.ref t :: As) (sd_qv Q0) X')  (hcw : sd_cwV Y Y' y idx na C) (hn : t < n) (hL : L t = sd_O ci fs) (hc9 : E.1[ci]? = some (C, T, N)) (d : decode Y.2.1 pc = .ok (.invokevirtual idx, 3)) (hna : As.length = na) (hst : st0 = As.reverse ++ .ref t :: rest) (hcat : (rest.map fun v => v.category).sum ≤ 8) (hX : ∀ E' M', X' E' M' → X E' M') (hF : ∀ (M : sdM) (H : Heap), sd_H D E.1 n ad L M H → F M H) (k : ∀ (M' : sdM), Q0 M' → sdW l E Y D tys b n ad L aF F Q X (pc + 3) loc rest M' rc rs) : sdW l E Y D tys b n ad L aF F Q X pc loc st0 M (rc + Y'.2.2.2.2.2.2.1) (rs + Y'.2.2.2.2.2.2.2) :=
  x_callVg hCn hcw hn hL hc9 d hna hst hcat hX hF (fun v M' hq => by obtain ⟨rfl, h⟩ := hq; exact k M' h)
theorem x_callVr {Y' : sdY} {y : MethodName} {idx na : Nat} {As rest st0 : List Value} {P0 : Nat → Prop} {Q0 : Nat → sdM → Prop} {X' : String → sdM → Prop} {t ci N : Nat} {fs : List (Option (Option Nat))} {C : String} {T : u_T} (hCn : sd_Cn l E y Y'.2.2.2.2.1 Y'.2.2.2.2.2.1 Y'.2.2.2.2.2.2.1 Y'.2.2.2.2.2.2.2 D tys b n ad L M (.ref t :: As) (sd_qr P0 Q0) X')  (hcw : sd_cwV Y Y' y idx na C) (hn : t < n) (hL : L t = sd_O ci fs) (hc9 : E.1[ci]? = some (C, T, N)) (d : decode Y.2.1 pc = .ok (.invokevirtual idx, 3)) (hna : As.length = na) (hst : st0 = As.reverse ++ .ref t :: rest) (hcat : (rest.map fun v => v.category).sum ≤ 8) (hX : ∀ E' M', X' E' M' → X E' M') (hF : ∀ (M : sdM) (H : Heap), sd_H D E.1 n ad L M H → F M H) (k : ∀ (r : Nat) (M' : sdM), P0 r → Q0 r M' → sdW l E Y D tys b n ad L aF F Q X (pc + 3) loc (.ref r :: rest) M' rc rs) : sdW l E Y D tys b n ad L aF F Q X pc loc st0 M (rc + Y'.2.2.2.2.2.2.1) (rs + Y'.2.2.2.2.2.2.2) :=
  x_callVg hCn hcw hn hL hc9 d hna hst hcat hX hF (fun v M' hq => by obtain ⟨r, rfl, h0, h⟩ := hq; exact k r M' h0 h)
theorem x_callSi {Y' : sdY} {y : MethodName} {idx na : Nat} {As rest st0 : List Value} {Q0 : Int32 → sdM → Prop} {X' : String → sdM → Prop}  (hCn : sd_Cn l E y Y'.2.2.2.2.1 Y'.2.2.2.2.2.1 Y'.2.2.2.2.2.2.1 Y'.2.2.2.2.2.2.2 D tys b n ad L M As (sd_qi Q0) X') (hcw : sd_cwS Y Y' y idx na) (d : decode Y.2.1 pc = .ok (.invokestatic idx, 3)) (hna : As.length = na) (hst : st0 = As.reverse ++ rest) (hcat : (rest.map fun v => v.category).sum ≤ 8) (hX : ∀ E' M', X' E' M' → X E' M') (hF : ∀ (M : sdM) (H : Heap), sd_H D E.1 n ad L M H → F M H) (k : ∀ (r : Int32) (M' : sdM), Q0 r M' → sdW l E Y D tys b n ad L aF F Q X (pc + 3) loc (.int r :: rest) M' rc rs) : sdW l E Y D tys b n ad L aF F Q X pc loc st0 M (rc + Y'.2.2.2.2.2.2.1) (rs + Y'.2.2.2.2.2.2.2) :=
  x_callSg hCn hcw d hna hst hcat hX hF (fun v M' hq => by obtain ⟨r, rfl, h⟩ := hq; exact k r M' h)
theorem x_callSv {Y' : sdY} {y : MethodName} {idx na : Nat} {As rest st0 : List Value} {Q0 : sdM → Prop} {X' : String → sdM → Prop}  (hCn : sd_Cn l E y Y'.2.2.2.2.1 Y'.2.2.2.2.2.1 Y'.2.2.2.2.2.2.1 Y'.2.2.2.2.2.2.2 D tys b n ad L M As (sd_qv Q0) X') (hcw : sd_cwS Y Y' y idx na) (d : decode Y.2.1 pc = .ok (.invokestatic idx, 3)) (hna : As.length = na) (hst : st0 = As.reverse ++ rest) (hcat : (rest.map fun v => v.category).sum ≤ 8) (hX : ∀ E' M', X' E' M' → X E' M') (hF : ∀ (M : sdM) (H : Heap), sd_H D E.1 n ad L M H → F M H) (k : ∀ (M' : sdM), Q0 M' → sdW l E Y D tys b n ad L aF F Q X (pc + 3) loc rest M' rc rs) : sdW l E Y D tys b n ad L aF F Q X pc loc st0 M (rc + Y'.2.2.2.2.2.2.1) (rs + Y'.2.2.2.2.2.2.2) :=
  x_callSg hCn hcw d hna hst hcat hX hF (fun v M' hq => by obtain ⟨rfl, h⟩ := hq; exact k M' h)
theorem x_callSr {Y' : sdY} {y : MethodName} {idx na : Nat} {As rest st0 : List Value} {P0 : Nat → Prop} {Q0 : Nat → sdM → Prop} {X' : String → sdM → Prop}  (hCn : sd_Cn l E y Y'.2.2.2.2.1 Y'.2.2.2.2.2.1 Y'.2.2.2.2.2.2.1 Y'.2.2.2.2.2.2.2 D tys b n ad L M As (sd_qr P0 Q0) X') (hcw : sd_cwS Y Y' y idx na) (d : decode Y.2.1 pc = .ok (.invokestatic idx, 3)) (hna : As.length = na) (hst : st0 = As.reverse ++ rest) (hcat : (rest.map fun v => v.category).sum ≤ 8) (hX : ∀ E' M', X' E' M' → X E' M') (hF : ∀ (M : sdM) (H : Heap), sd_H D E.1 n ad L M H → F M H) (k : ∀ (r : Nat) (M' : sdM), P0 r → Q0 r M' → sdW l E Y D tys b n ad L aF F Q X (pc + 3) loc (.ref r :: rest) M' rc rs) : sdW l E Y D tys b n ad L aF F Q X pc loc st0 M (rc + Y'.2.2.2.2.2.2.1) (rs + Y'.2.2.2.2.2.2.2) :=
  x_callSg hCn hcw d hna hst hcat hX hF (fun v M' hq => by obtain ⟨r, rfl, h0, h⟩ := hq; exact k r M' h0 h)
theorem x_alen {t len : Nat} {cA : ClassId} {v : Int32} (d : decode Y.2.1 pc = .ok (.arraylength, 1)) (hn : t < n) (hL : L t = sd_I cA len) (ht : tys[0]? = some (cA, .int)) (hv : Int32.ofNat len = v) (k : sdW l E Y D tys b n ad L aF F Q X (pc + 1) loc (.int v :: st) M rc rs) : sdW l E Y D tys b n ad L aF F Q X pc loc (.ref t :: st) M rc rs := by
  intro p e s m args below meth c H locs ls cells slots hC hK hH hS hl hc hs
  have hat := hH t hn
  rw [hL] at hat
  exact va_alen hC.1.1 hC.1.2.1 hK.1 (ws := [(ad t, .inl (cA, len, .inl (M t)))]) (sd_one hat) 0 0 rfl ht hv d (k p e s m args below meth c H locs ls cells slots hC hK hH hS hl hc hs)
theorem x_tin {dflt lo hi off : Int} {offs : Array Int} {len : Nat} {x : Int32} (tgt : Nat) (d : decode Y.2.1 pc = .ok (.tableswitch dflt lo hi offs, len)) (h1 : ¬ x.toInt < lo) (h2 : ¬ hi < x.toInt) (ho : offs[(x.toInt - lo).toNat]? = some off) (ht : (pc : Int) + off = (tgt : Int)) (k : sdW l E Y D tys b n ad L aF F Q X tgt loc st M rc rs) : sdW l E Y D tys b n ad L aF F Q X pc loc (.int x :: st) M rc rs := by
  intro p e s m args below meth c H locs ls cells slots hC hK hH hS hl hc hs
  exact lv_tableIn hC.1.1 hC.1.2.1 d h1 h2 ho ht (k p e s m args below meth c H locs ls cells slots hC hK hH hS hl hc hs)
theorem x_tout {dflt lo hi : Int} {offs : Array Int} {len : Nat} {x : Int32} (tgt : Nat) (d : decode Y.2.1 pc = .ok (.tableswitch dflt lo hi offs, len)) (h : x.toInt < lo ∨ hi < x.toInt) (ht : (pc : Int) + dflt = (tgt : Int)) (k : sdW l E Y D tys b n ad L aF F Q X tgt loc st M rc rs) : sdW l E Y D tys b n ad L aF F Q X pc loc (.int x :: st) M rc rs := by
  intro p e s m args below meth c H locs ls cells slots hC hK hH hS hl hc hs
  exact lv_tableOut hC.1.1 hC.1.2.1 d h ht (k p e s m args below meth c H locs ls cells slots hC hK hH hS hl hc hs)
theorem x_mmin {idx : Nat} {x y : Int32} (d : decode Y.2.1 pc = .ok (.invokestatic idx, 3)) (h1 : Cond.methodLink Y.1 idx Lib.Math.min.name ∈ Y.2.2.2.2.1) (h2 : Cond.static Lib.Math.min.name ∈ Y.2.2.2.2.1) (h3 : Cond.initialized "java/lang/Math" ∈ Y.2.2.2.2.1) (h4 : Cond.code Lib.Math.min.name Lib.Math.min.code 2 (some .int) ∈ Y.2.2.2.2.1) (hR1 : 1 ≤ Y.2.2.2.2.2.1.frames) (hR2 : (st.map fun v => v.category).sum + 13 ≤ Y.2.2.2.2.2.1.locals) (hR3 : Y.2.2.2.2.2.1.cells = Y.2.2.2.2.2.2.1) (hR4 : Y.2.2.2.2.2.1.slots = Y.2.2.2.2.2.2.2) (k : sdW l E Y D tys b n ad L aF F Q X (pc + 3) loc (.int (if y < x then y else x) :: st) M rc rs) : sdW l E Y D tys b n ad L aF F Q X pc loc (.int y :: .int x :: st) M rc rs := by
  intro p e s m args below meth c H locs ls cells slots hC hK hH hS hl hc hs
  exact va_mmin (rest := st.map (sd_v ad)) hC.1.1 hC.1.2.1 (hC.1.2.2.1.trans hl.1.symm) hC.1.2.2.2.1 (hC.1.2.2.2.2 _ h1) (hC.1.2.2.2.2 _ h2) (hC.1.2.2.2.2 _ h3) (hC.1.2.2.2.2 _ h4) hR1 (by rw [sd_cats]; exact hR2) (by rw [hR3]; omega) (by rw [hR4]; omega) d (k p e s m args below meth c H locs ls cells slots hC hK hH hS hl hc hs)
/-- System.arraycopy of int arrays -/
theorem x_copyi {idx t u len len' : Nat} {cA : ClassId} {sp dp z : Int32} (hA : sd_ad b n ad) (d : decode Y.2.1 pc = .ok (.invokestatic idx, 3)) (h1 : Cond.methodLink Y.1 idx arraycopyName ∈ Y.2.2.2.2.1) (h2 : Cond.native arraycopyName ∈ Y.2.2.2.2.1) (h3 : Cond.static arraycopyName ∈ Y.2.2.2.2.1) (h4 : Cond.initialized "java/lang/System" ∈ Y.2.2.2.2.1)
    (hn : t < n) (hL : L t = sd_I cA len) (hn' : u < n) (hL' : L u = sd_I cA len') (ht : tys[0]? = some (cA, .int)) (hi : ¬ sp < 0 ∧ ¬ dp < 0 ∧ ¬ z < 0 ∧ sp.toNatClampNeg + z.toNatClampNeg ≤ len ∧ dp.toNatClampNeg + z.toNatClampNeg ≤ len') (hR1 : 1 ≤ Y.2.2.2.2.2.1.frames) (hR2 : (st.map fun v => v.category).sum + (nativeFrameWords "java/lang/System" "arraycopy" 5 + 11) ≤ Y.2.2.2.2.2.1.locals)
    (k : ∀ M1 : sdM, M1 = va_up M u (va_cpy (M t) (M u) sp.toNatClampNeg dp.toNatClampNeg z.toNatClampNeg) → sdW l E Y D tys b n ad L aF F Q X (pc + 3) loc st M1 rc rs) : sdW l E Y D tys b n ad L aF F Q X pc loc (.int z :: .int dp :: .ref u :: .int sp :: .ref t :: st) M rc rs := by
  intro p e s m args below meth c H locs ls cells slots hC hK hH hS hl hc hs
  have hG : (sd_G n ad L M)[t]? = some (ad t, .inl (cA, len, .inl (M t))) := by rw [sd_G_get hn, hL]; rfl
  have hG' : (sd_G n ad L M)[u]? = some (ad u, .inl (cA, len', .inl (M u))) := by rw [sd_G_get hn', hL']; rfl
  refine va_copyi (rest := st.map (sd_v ad)) hC.1.1 hC.1.2.1 (hC.1.2.2.1.trans hl.1.symm) hC.1.2.2.2.1 (hC.1.2.2.2.2 _ h1) (hC.1.2.2.2.2 _ h2) (hC.1.2.2.2.2 _ h3) (hC.1.2.2.2.2 _ h4) hK.1 hH.toP hA.toD hS t u 0 0 hG hG' ht ht rfl hi.1 hi.2.1 hi.2.2.1 hi.2.2.2.1 hi.2.2.2.2 (fun _ _ => rfl) hR1 (by rw [sd_cats]; exact hR2) d (fun H1 locs1 hP1 _ hS1 => ?_)
  have he : (Sum.inl (cA, len', Sum.inl (va_cpy (M t) (M u) sp.toNatClampNeg dp.toNatClampNeg z.toNatClampNeg)) : va_E) = L u ad (va_cpy (M t) (M u) sp.toNatClampNeg dp.toNatClampNeg z.toNatClampNeg) := by rw [hL']; rfl
  rw [sd_G_set hn' he] at hP1
  exact k _ rfl p e s m args below meth c H1 locs1 ls cells slots hC hK (sd_H.ofP hP1) hS1 hl hc hs
end SDR
theorem sd_enter {l : Launch} {E : sdE} {Y : sdY} {D : va_G} {tys : List (ClassId × FieldType)} {b n : Nat} {ad : Nat → Nat} {L : Nat → sdL} {Q : Option Value → sdM → Prop} {X : String → sdM → Prop} {M : sdM} {y : MethodName} {ws' : List Cond} {av : List Value}
    (hy : plainFor y = true) (hyc : y.cls = Y.1) (hw : Y.2.2.2.2.1 = Cond.code y Y.2.1 Y.2.2.1 Y.2.2.2.1 :: ws') (hn : (lg_sl av).length ≤ Y.2.2.1)
    (k : sdW l E Y D tys b n ad L ad (sd_H D E.1 n ad L) Q X 0 (lv_args 0 av) [] M Y.2.2.2.2.2.2.1 Y.2.2.2.2.2.2.2) : sd_Cn l E y Y.2.2.2.2.1 Y.2.2.2.2.2.1 Y.2.2.2.2.2.2.1 Y.2.2.2.2.2.2.2 D tys b n ad L M av Q X := by
  refine MetFree.of_bodySF (code := Y.2.1) (maxLocals := Y.2.2.1) (ret := Y.2.2.2.1) hy ?_ ?_
  · intro args s m h hn
    obtain ⟨meth, c, h1, h2, h3, h4, h5, h6, -, -⟩ := Cond.code_spec hn (atoms_spec (ws := Y.2.2.2.2.1) h _ (by rw [hw]; exact List.mem_cons_self))
    exact ⟨meth, c, h1, h2, h3, h4, h5, h6⟩
  intro p e s m args below meth c s₁ B hml hv _
  have hx : ∀ x ∈ c.exceptionTable.toList, False := by
    obtain ⟨meth9, c9, h1, h2, -, -, -, -, h7, -⟩ := Cond.code_spec B.named (atoms_spec (ws := Y.2.2.2.2.1) B.pre _ (by rw [hw]; exact List.mem_cons_self))
    cases Option.some.inj (h1.symm.trans B.method)
    cases Option.some.inj (h2.symm.trans (Stand.of_body B).code)
    intro x hx
    rw [Array.isEmpty_iff.mp h7] at hx
    cases hx
  obtain ⟨rfl, hK, hH⟩ := hv
  have hown : s.vm.findClass Y.1 = some m.cls := by rw [← hyc]; exact findClass_of_methodNamed B.named
  have hl := lv_entry (av.map (sd_v ad)) (n := Y.2.2.1) (by rw [sd_sl]; exact hn)
  have hh0 : s₁.heap = s.heap := by rw [B.state]; rfl
  have key : W p l e Y.2.2.2.2.2.1 s m (av.map (sd_v ad)).toArray below meth c s₁.heap [] 0 0 (sd_Z b ad (sd_H D E.1 n ad L) Q X Y.2.2.2.2.2.2.1 Y.2.2.2.2.2.2.2 below (av.map (sd_v ad)).toArray s) (entryFrame m (av.map (sd_v ad)).toArray Y.2.2.1) := by
    rw [lg_entry_eq, hh0]
    generalize (lg_sl (av.map (sd_v ad)) ++ List.replicate (Y.2.2.1 - (lg_sl (av.map (sd_v ad))).length) Slot.unset).toArray = ls at hl ⊢
    rw [sd_args] at hl
    exact k p e s m _ below meth c s.heap [] ls 0 0 ⟨⟨B.exec, B.bytes, hml, hown, atoms_spec (ws := Y.2.2.2.2.1) B.pre⟩, B.notSynchronized, B.returns, hx⟩ hK hH va_S.rf hl (by omega) (by omega)
  obtain ⟨t, a1, o, b1, b2, b3⟩ := key s₁ rfl (Stand.of_body B)
  exact ⟨t, o, a1, b1, b2, b3⟩
end
section
/-! the words of the tables that stay good; the classes' fields; array classes -/
def sdB0 : List Cond := lw_tbl.filter goodWord
theorem sdB0_good : ∀ w ∈ sdB0, goodWord w = true := fun w h => (List.mem_filter.mp h).2
theorem sd_tb1 {w : Cond} (i : Nat) (h : tables_1_1[i]? = some w) (g : goodWord w = true) : w ∈ sdB0 := List.mem_filter.mpr ⟨List.mem_append_right _ (show w ∈ tables_1 from List.mem_append_left _ (List.mem_of_getElem? h)), g⟩
theorem sd_tb2 {w : Cond} (i : Nat) (h : tables_1_2[i]? = some w) (g : goodWord w = true) : w ∈ sdB0 := List.mem_filter.mpr ⟨List.mem_append_right _ (show w ∈ tables_1 from List.mem_append_right _ (List.mem_append_left _ (List.mem_of_getElem? h))), g⟩
theorem sd_tb3 {w : Cond} (i : Nat) (h : tables_1_3[i]? = some w) (g : goodWord w = true) : w ∈ sdB0 := List.mem_filter.mpr ⟨List.mem_append_right _ (show w ∈ tables_1 from List.mem_append_right _ (List.mem_append_right _ (List.mem_append_left _ (List.mem_of_getElem? h)))), g⟩
theorem sd_tb4 {w : Cond} (i : Nat) (h : tables_1_4[i]? = some w) (g : goodWord w = true) : w ∈ sdB0 := List.mem_filter.mpr ⟨List.mem_append_right _ (show w ∈ tables_1 from List.mem_append_right _ (List.mem_append_right _ (List.mem_append_right _ (List.mem_append_left _ (List.mem_of_getElem? h))))), g⟩
theorem sd_tb5 {w : Cond} (i : Nat) (h : tables_1_5[i]? = some w) (g : goodWord w = true) : w ∈ sdB0 := List.mem_filter.mpr ⟨List.mem_append_right _ (show w ∈ tables_1 from List.mem_append_right _ (List.mem_append_right _ (List.mem_append_right _ (List.mem_append_right _ (List.mem_of_getElem? h))))), g⟩
theorem sd_tbp {q : MethodName × Nat} (h : q ∈ lw_privs) : Cond.selects q.1.cls q.1 q.1 ∈ sdB0 := List.mem_filter.mpr ⟨List.mem_append_left _ (List.mem_map.mpr ⟨q, h, rfl⟩), rfl⟩
theorem sd_goodB {c c' : Cond} (h : c' ∈ sdB0) : GoodIn (c :: sdB0) (c' :: sdB0) := by
  intro w hw
  have hm : w ∈ sdB0 := by
    rcases List.mem_cons.mp hw with rfl | h1
    · exact h
    · exact h1
  exact ⟨List.mem_cons_of_mem _ hm, good_of_word (sdB0_good w hm)⟩
theorem sd_good1 {c w : Cond} (h : w ∈ sdB0) : w ∈ c :: sdB0 ∧ ((w.onTables && w.keeps) = true ∨ ∃ ty, w = .arrayClass ty) := ⟨List.mem_cons_of_mem _ h, good_of_word (sdB0_good w h)⟩
theorem sd_goodV {c c' : Cond} {own C : String} {idx : Nat} {y : MethodName} (h1 : Cond.methodLink own idx y ∈ sdB0) (h2 : Cond.instanceMethod y ∈ sdB0) (h3 : Cond.selects C y y ∈ sdB0) (h4 : Cond.initialized C ∈ sdB0) (h5 : c' ∈ sdB0) : GoodIn (c :: sdB0) (wsV own idx C y (c' :: sdB0)) := by
  intro w hw
  rcases List.mem_append.mp hw with h | h
  · simp only [List.mem_cons, List.not_mem_nil, or_false] at h
    rcases h with rfl | rfl | rfl | rfl
    · exact sd_good1 h1
    · exact sd_good1 h2
    · exact sd_good1 h3
    · exact sd_good1 h4
  · exact sd_goodB h5 w h
theorem sd_goodS {c c' : Cond} {own : String} {idx : Nat} {y : MethodName} (h1 : Cond.methodLink own idx y ∈ sdB0) (h2 : Cond.static y ∈ sdB0) (h4 : Cond.initialized y.cls ∈ sdB0) (h5 : c' ∈ sdB0) : GoodIn (c :: sdB0) (va_wsS own idx y (c' :: sdB0)) := by
  intro w hw
  rcases List.mem_append.mp hw with h | h
  · simp only [List.mem_cons, List.not_mem_nil, or_false] at h
    rcases h with rfl | rfl | rfl
    · exact sd_good1 h1
    · exact sd_good1 h2
    · exact sd_good1 h4
  · exact sd_goodB h5 w h
def T_D : u_T := fun k => match k with
  | 0 => ("SettingsDesk", "schema", "LSettingsDesk$Schema;", true)
  | 1 => ("SettingsDesk", "running", "LSettingsDesk$Settings;", true)
  | 2 => ("SettingsDesk", "saved", "LSettingsDesk$Settings;", true)
  | 3 => ("SettingsDesk", "outcome", "LSettingsDesk$Settings;", true)
  | 4 => ("SettingsDesk", "older", "[LSettingsDesk$Settings;", true)
  | 5 => ("SettingsDesk", "sessions", "[LSettingsDesk$Session;", true)
  | 6 => ("SettingsDesk", "trouble", "LSettingsDesk$Trouble;", true)
  | 7 => ("SettingsDesk", "changes", "I", false)
  | 8 => ("SettingsDesk", "ticksLeft", "I", false)
  | 9 => ("SettingsDesk", "lockOwner", "I", false)
  | 10 => ("SettingsDesk", "powerOff", "Z", false)
  | _ => ("SettingsDesk", "pagesToFailure", "I", false)
def ty_D : Nat → FieldType := fun k => match k with
  | 0 => .object "SettingsDesk$Schema"
  | 1 => .object "SettingsDesk$Settings"
  | 2 => .object "SettingsDesk$Settings"
  | 3 => .object "SettingsDesk$Settings"
  | 4 => .array (.object "SettingsDesk$Settings")
  | 5 => .array (.object "SettingsDesk$Session")
  | 6 => .object "SettingsDesk$Trouble"
  | 7 => .int
  | 8 => .int
  | 9 => .int
  | 10 => .boolean
  | _ => .int
theorem ty_D_ok : ∀ k, k < 12 → parseFieldDescriptor (T_D k).2.2.1 = some (ty_D k) := by decide +kernel
theorem nm_D : ∀ a, a < 12 → ∀ b, b < 12 → a ≠ b → (T_D a).2.1 ≠ (T_D b).2.1 := by decide +kernel
theorem l_D_0 : (.laysFinal "SettingsDesk" "SettingsDesk" "schema" "LSettingsDesk$Schema;" : Cond) ∈ sdB0 := sd_tb1 212 rfl rfl
theorem l_D_1 : (.laysFinal "SettingsDesk" "SettingsDesk" "running" "LSettingsDesk$Settings;" : Cond) ∈ sdB0 := sd_tb1 214 rfl rfl
theorem l_D_2 : (.laysFinal "SettingsDesk" "SettingsDesk" "saved" "LSettingsDesk$Settings;" : Cond) ∈ sdB0 := sd_tb1 216 rfl rfl
theorem l_D_3 : (.laysFinal "SettingsDesk" "SettingsDesk" "outcome" "LSettingsDesk$Settings;" : Cond) ∈ sdB0 := sd_tb1 218 rfl rfl
theorem l_D_4 : (.laysFinal "SettingsDesk" "SettingsDesk" "older" "[LSettingsDesk$Settings;" : Cond) ∈ sdB0 := sd_tb1 220 rfl rfl
theorem l_D_5 : (.laysFinal "SettingsDesk" "SettingsDesk" "sessions" "[LSettingsDesk$Session;" : Cond) ∈ sdB0 := sd_tb1 222 rfl rfl
theorem l_D_6 : (.laysFinal "SettingsDesk" "SettingsDesk" "trouble" "LSettingsDesk$Trouble;" : Cond) ∈ sdB0 := sd_tb1 224 rfl rfl
theorem l_D_7 : (.lays "SettingsDesk" "SettingsDesk" "changes" "I" : Cond) ∈ sdB0 := sd_tb1 226 rfl rfl
theorem l_D_8 : (.lays "SettingsDesk" "SettingsDesk" "ticksLeft" "I" : Cond) ∈ sdB0 := sd_tb1 228 rfl rfl
theorem l_D_9 : (.lays "SettingsDesk" "SettingsDesk" "lockOwner" "I" : Cond) ∈ sdB0 := sd_tb1 230 rfl rfl
theorem l_D_10 : (.lays "SettingsDesk" "SettingsDesk" "powerOff" "Z" : Cond) ∈ sdB0 := sd_tb1 232 rfl rfl
theorem l_D_11 : (.lays "SettingsDesk" "SettingsDesk" "pagesToFailure" "I" : Cond) ∈ sdB0 := sd_tb1 234 rfl rfl
theorem lay_D {c : Cond} : ∀ w ∈ u_ws "SettingsDesk" T_D 12, w ∈ c :: sdB0 := by
  show ∀ w ∈ ([.laysFinal "SettingsDesk" "SettingsDesk" "schema" "LSettingsDesk$Schema;", .laysFinal "SettingsDesk" "SettingsDesk" "running" "LSettingsDesk$Settings;", .laysFinal "SettingsDesk" "SettingsDesk" "saved" "LSettingsDesk$Settings;", .laysFinal "SettingsDesk" "SettingsDesk" "outcome" "LSettingsDesk$Settings;", .laysFinal "SettingsDesk" "SettingsDesk" "older" "[LSettingsDesk$Settings;", .laysFinal "SettingsDesk" "SettingsDesk" "sessions" "[LSettingsDesk$Session;", .laysFinal "SettingsDesk" "SettingsDesk" "trouble" "LSettingsDesk$Trouble;", .lays "SettingsDesk" "SettingsDesk" "changes" "I", .lays "SettingsDesk" "SettingsDesk" "ticksLeft" "I", .lays "SettingsDesk" "SettingsDesk" "lockOwner" "I", .lays "SettingsDesk" "SettingsDesk" "powerOff" "Z", .lays "SettingsDesk" "SettingsDesk" "pagesToFailure" "I"] : List Cond), w ∈ c :: sdB0
  exact List.forall_mem_cons.mpr ⟨List.mem_cons_of_mem _ l_D_0, List.forall_mem_cons.mpr ⟨List.mem_cons_of_mem _ l_D_1, List.forall_mem_cons.mpr ⟨List.mem_cons_of_mem _ l_D_2, List.forall_mem_cons.mpr ⟨List.mem_cons_of_mem _ l_D_3, List.forall_mem_cons.mpr ⟨List.mem_cons_of_mem _ l_D_4, List.forall_mem_cons.mpr ⟨List.mem_cons_of_mem _ l_D_5, List.forall_mem_cons.mpr ⟨List.mem_cons_of_mem _ l_D_6, List.forall_mem_cons.mpr ⟨List.mem_cons_of_mem _ l_D_7, List.forall_mem_cons.mpr ⟨List.mem_cons_of_mem _ l_D_8, List.forall_mem_cons.mpr ⟨List.mem_cons_of_mem _ l_D_9, List.forall_mem_cons.mpr ⟨List.mem_cons_of_mem _ l_D_10, List.forall_mem_cons.mpr ⟨List.mem_cons_of_mem _ l_D_11, fun _ h => absurd h List.not_mem_nil⟩⟩⟩⟩⟩⟩⟩⟩⟩⟩⟩⟩
def T_C : u_T := fun k => match k with
  | 0 => ("SettingsDesk$Schema", "isReady", "Z", false)
  | 1 => ("SettingsDesk$Schema", "lists", "I", false)
  | 2 => ("SettingsDesk$Schema", "leaves", "[I", true)
  | 3 => ("SettingsDesk$Schema", "leafTable", "[LSettingsDesk$Leaf;", true)
  | 4 => ("SettingsDesk$Schema", "ruleCount", "I", false)
  | _ => ("SettingsDesk$Schema", "rules", "[LSettingsDesk$Rule;", true)
def ty_C : Nat → FieldType := fun k => match k with
  | 0 => .boolean
  | 1 => .int
  | 2 => .array .int
  | 3 => .array (.object "SettingsDesk$Leaf")
  | 4 => .int
  | _ => .array (.object "SettingsDesk$Rule")
theorem ty_C_ok : ∀ k, k < 6 → parseFieldDescriptor (T_C k).2.2.1 = some (ty_C k) := by decide +kernel
theorem nm_C : ∀ a, a < 6 → ∀ b, b < 6 → a ≠ b → (T_C a).2.1 ≠ (T_C b).2.1 := by decide +kernel
theorem l_C_0 : (.lays "SettingsDesk$Schema" "SettingsDesk$Schema" "isReady" "Z" : Cond) ∈ sdB0 := sd_tb1 118 rfl rfl
theorem l_C_1 : (.lays "SettingsDesk$Schema" "SettingsDesk$Schema" "lists" "I" : Cond) ∈ sdB0 := sd_tb1 120 rfl rfl
theorem l_C_2 : (.laysFinal "SettingsDesk$Schema" "SettingsDesk$Schema" "leaves" "[I" : Cond) ∈ sdB0 := sd_tb1 122 rfl rfl
theorem l_C_3 : (.laysFinal "SettingsDesk$Schema" "SettingsDesk$Schema" "leafTable" "[LSettingsDesk$Leaf;" : Cond) ∈ sdB0 := sd_tb1 124 rfl rfl
theorem l_C_4 : (.lays "SettingsDesk$Schema" "SettingsDesk$Schema" "ruleCount" "I" : Cond) ∈ sdB0 := sd_tb1 126 rfl rfl
theorem l_C_5 : (.laysFinal "SettingsDesk$Schema" "SettingsDesk$Schema" "rules" "[LSettingsDesk$Rule;" : Cond) ∈ sdB0 := sd_tb1 128 rfl rfl
theorem lay_C {c : Cond} : ∀ w ∈ u_ws "SettingsDesk$Schema" T_C 6, w ∈ c :: sdB0 := by
  show ∀ w ∈ ([.lays "SettingsDesk$Schema" "SettingsDesk$Schema" "isReady" "Z", .lays "SettingsDesk$Schema" "SettingsDesk$Schema" "lists" "I", .laysFinal "SettingsDesk$Schema" "SettingsDesk$Schema" "leaves" "[I", .laysFinal "SettingsDesk$Schema" "SettingsDesk$Schema" "leafTable" "[LSettingsDesk$Leaf;", .lays "SettingsDesk$Schema" "SettingsDesk$Schema" "ruleCount" "I", .laysFinal "SettingsDesk$Schema" "SettingsDesk$Schema" "rules" "[LSettingsDesk$Rule;"] : List Cond), w ∈ c :: sdB0
  exact List.forall_mem_cons.mpr ⟨List.mem_cons_of_mem _ l_C_0, List.forall_mem_cons.mpr ⟨List.mem_cons_of_mem _ l_C_1, List.forall_mem_cons.mpr ⟨List.mem_cons_of_mem _ l_C_2, List.forall_mem_cons.mpr ⟨List.mem_cons_of_mem _ l_C_3, List.forall_mem_cons.mpr ⟨List.mem_cons_of_mem _ l_C_4, List.forall_mem_cons.mpr ⟨List.mem_cons_of_mem _ l_C_5, fun _ h => absurd h List.not_mem_nil⟩⟩⟩⟩⟩⟩
def T_S : u_T := fun k => match k with
  | 0 => ("SettingsDesk$Settings", "counts", "[I", true)
  | 1 => ("SettingsDesk$Settings", "keys", "[I", true)
  | 2 => ("SettingsDesk$Settings", "values", "[I", true)
  | _ => ("SettingsDesk$Settings", "given", "[I", true)
def ty_S : Nat → FieldType := fun k => match k with
  | 0 => .array .int
  | 1 => .array .int
  | 2 => .array .int
  | _ => .array .int
theorem ty_S_ok : ∀ k, k < 4 → parseFieldDescriptor (T_S k).2.2.1 = some (ty_S k) := by decide +kernel
theorem nm_S : ∀ a, a < 4 → ∀ b, b < 4 → a ≠ b → (T_S a).2.1 ≠ (T_S b).2.1 := by decide +kernel
theorem l_S_0 : (.laysFinal "SettingsDesk$Settings" "SettingsDesk$Settings" "counts" "[I" : Cond) ∈ sdB0 := sd_tb1 144 rfl rfl
theorem l_S_1 : (.laysFinal "SettingsDesk$Settings" "SettingsDesk$Settings" "keys" "[I" : Cond) ∈ sdB0 := sd_tb1 146 rfl rfl
theorem l_S_2 : (.laysFinal "SettingsDesk$Settings" "SettingsDesk$Settings" "values" "[I" : Cond) ∈ sdB0 := sd_tb1 148 rfl rfl
theorem l_S_3 : (.laysFinal "SettingsDesk$Settings" "SettingsDesk$Settings" "given" "[I" : Cond) ∈ sdB0 := sd_tb1 150 rfl rfl
theorem lay_S {c : Cond} : ∀ w ∈ u_ws "SettingsDesk$Settings" T_S 4, w ∈ c :: sdB0 := by
  show ∀ w ∈ ([.laysFinal "SettingsDesk$Settings" "SettingsDesk$Settings" "counts" "[I", .laysFinal "SettingsDesk$Settings" "SettingsDesk$Settings" "keys" "[I", .laysFinal "SettingsDesk$Settings" "SettingsDesk$Settings" "values" "[I", .laysFinal "SettingsDesk$Settings" "SettingsDesk$Settings" "given" "[I"] : List Cond), w ∈ c :: sdB0
  exact List.forall_mem_cons.mpr ⟨List.mem_cons_of_mem _ l_S_0, List.forall_mem_cons.mpr ⟨List.mem_cons_of_mem _ l_S_1, List.forall_mem_cons.mpr ⟨List.mem_cons_of_mem _ l_S_2, List.forall_mem_cons.mpr ⟨List.mem_cons_of_mem _ l_S_3, fun _ h => absurd h List.not_mem_nil⟩⟩⟩⟩
def T_N : u_T := fun k => match k with
  | 0 => ("SettingsDesk$Session", "begun", "Z", false)
  | 1 => ("SettingsDesk$Session", "candidate", "LSettingsDesk$Settings;", true)
  | _ => ("SettingsDesk$Session", "base", "LSettingsDesk$Settings;", true)
def ty_N : Nat → FieldType := fun k => match k with
  | 0 => .boolean
  | 1 => .object "SettingsDesk$Settings"
  | _ => .object "SettingsDesk$Settings"
theorem ty_N_ok : ∀ k, k < 3 → parseFieldDescriptor (T_N k).2.2.1 = some (ty_N k) := by decide +kernel
theorem nm_N : ∀ a, a < 3 → ∀ b, b < 3 → a ≠ b → (T_N a).2.1 ≠ (T_N b).2.1 := by decide +kernel
theorem l_N_0 : (.lays "SettingsDesk$Session" "SettingsDesk$Session" "begun" "Z" : Cond) ∈ sdB0 := sd_tb1 193 rfl rfl
theorem l_N_1 : (.laysFinal "SettingsDesk$Session" "SettingsDesk$Session" "candidate" "LSettingsDesk$Settings;" : Cond) ∈ sdB0 := sd_tb1 195 rfl rfl
theorem l_N_2 : (.laysFinal "SettingsDesk$Session" "SettingsDesk$Session" "base" "LSettingsDesk$Settings;" : Cond) ∈ sdB0 := sd_tb1 197 rfl rfl
theorem lay_N {c : Cond} : ∀ w ∈ u_ws "SettingsDesk$Session" T_N 3, w ∈ c :: sdB0 := by
  show ∀ w ∈ ([.lays "SettingsDesk$Session" "SettingsDesk$Session" "begun" "Z", .laysFinal "SettingsDesk$Session" "SettingsDesk$Session" "candidate" "LSettingsDesk$Settings;", .laysFinal "SettingsDesk$Session" "SettingsDesk$Session" "base" "LSettingsDesk$Settings;"] : List Cond), w ∈ c :: sdB0
  exact List.forall_mem_cons.mpr ⟨List.mem_cons_of_mem _ l_N_0, List.forall_mem_cons.mpr ⟨List.mem_cons_of_mem _ l_N_1, List.forall_mem_cons.mpr ⟨List.mem_cons_of_mem _ l_N_2, fun _ h => absurd h List.not_mem_nil⟩⟩⟩
def T_T : u_T := fun k => match k with
  | 0 => ("SettingsDesk$Trouble", "fault", "I", false)
  | 1 => ("SettingsDesk$Trouble", "atList", "I", false)
  | 2 => ("SettingsDesk$Trouble", "atKey", "I", false)
  | _ => ("SettingsDesk$Trouble", "atPart", "I", false)
def ty_T : Nat → FieldType := fun k => match k with
  | 0 => .int
  | 1 => .int
  | 2 => .int
  | _ => .int
theorem ty_T_ok : ∀ k, k < 4 → parseFieldDescriptor (T_T k).2.2.1 = some (ty_T k) := by decide +kernel
theorem nm_T : ∀ a, a < 4 → ∀ b, b < 4 → a ≠ b → (T_T a).2.1 ≠ (T_T b).2.1 := by decide +kernel
theorem l_T_0 : (.lays "SettingsDesk$Trouble" "SettingsDesk$Trouble" "fault" "I" : Cond) ∈ sdB0 := sd_tb1 170 rfl rfl
theorem l_T_1 : (.lays "SettingsDesk$Trouble" "SettingsDesk$Trouble" "atList" "I" : Cond) ∈ sdB0 := sd_tb1 172 rfl rfl
theorem l_T_2 : (.lays "SettingsDesk$Trouble" "SettingsDesk$Trouble" "atKey" "I" : Cond) ∈ sdB0 := sd_tb1 174 rfl rfl
theorem l_T_3 : (.lays "SettingsDesk$Trouble" "SettingsDesk$Trouble" "atPart" "I" : Cond) ∈ sdB0 := sd_tb1 176 rfl rfl
theorem lay_T {c : Cond} : ∀ w ∈ u_ws "SettingsDesk$Trouble" T_T 4, w ∈ c :: sdB0 := by
  show ∀ w ∈ ([.lays "SettingsDesk$Trouble" "SettingsDesk$Trouble" "fault" "I", .lays "SettingsDesk$Trouble" "SettingsDesk$Trouble" "atList" "I", .lays "SettingsDesk$Trouble" "SettingsDesk$Trouble" "atKey" "I", .lays "SettingsDesk$Trouble" "SettingsDesk$Trouble" "atPart" "I"] : List Cond), w ∈ c :: sdB0
  exact List.forall_mem_cons.mpr ⟨List.mem_cons_of_mem _ l_T_0, List.forall_mem_cons.mpr ⟨List.mem_cons_of_mem _ l_T_1, List.forall_mem_cons.mpr ⟨List.mem_cons_of_mem _ l_T_2, List.forall_mem_cons.mpr ⟨List.mem_cons_of_mem _ l_T_3, fun _ h => absurd h List.not_mem_nil⟩⟩⟩⟩
def T_F : u_T := fun k => match k with
  | 0 => ("SettingsDesk$Leaf", "isReference", "Z", false)
  | 1 => ("SettingsDesk$Leaf", "low", "I", false)
  | 2 => ("SettingsDesk$Leaf", "high", "I", false)
  | 3 => ("SettingsDesk$Leaf", "required", "Z", false)
  | 4 => ("SettingsDesk$Leaf", "unique", "Z", false)
  | 5 => ("SettingsDesk$Leaf", "hasStandard", "Z", false)
  | _ => ("SettingsDesk$Leaf", "standardValue", "I", false)
def ty_F : Nat → FieldType := fun k => match k with
  | 0 => .boolean
  | 1 => .int
  | 2 => .int
  | 3 => .boolean
  | 4 => .boolean
  | 5 => .boolean
  | _ => .int
theorem ty_F_ok : ∀ k, k < 7 → parseFieldDescriptor (T_F k).2.2.1 = some (ty_F k) := by decide +kernel
theorem nm_F : ∀ a, a < 7 → ∀ b, b < 7 → a ≠ b → (T_F a).2.1 ≠ (T_F b).2.1 := by decide +kernel
theorem l_F_0 : (.lays "SettingsDesk$Leaf" "SettingsDesk$Leaf" "isReference" "Z" : Cond) ∈ sdB0 := sd_tb1 62 rfl rfl
theorem l_F_1 : (.lays "SettingsDesk$Leaf" "SettingsDesk$Leaf" "low" "I" : Cond) ∈ sdB0 := sd_tb1 64 rfl rfl
theorem l_F_2 : (.lays "SettingsDesk$Leaf" "SettingsDesk$Leaf" "high" "I" : Cond) ∈ sdB0 := sd_tb1 66 rfl rfl
theorem l_F_3 : (.lays "SettingsDesk$Leaf" "SettingsDesk$Leaf" "required" "Z" : Cond) ∈ sdB0 := sd_tb1 68 rfl rfl
theorem l_F_4 : (.lays "SettingsDesk$Leaf" "SettingsDesk$Leaf" "unique" "Z" : Cond) ∈ sdB0 := sd_tb1 70 rfl rfl
theorem l_F_5 : (.lays "SettingsDesk$Leaf" "SettingsDesk$Leaf" "hasStandard" "Z" : Cond) ∈ sdB0 := sd_tb1 72 rfl rfl
theorem l_F_6 : (.lays "SettingsDesk$Leaf" "SettingsDesk$Leaf" "standardValue" "I" : Cond) ∈ sdB0 := sd_tb1 74 rfl rfl
theorem lay_F {c : Cond} : ∀ w ∈ u_ws "SettingsDesk$Leaf" T_F 7, w ∈ c :: sdB0 := by
  show ∀ w ∈ ([.lays "SettingsDesk$Leaf" "SettingsDesk$Leaf" "isReference" "Z", .lays "SettingsDesk$Leaf" "SettingsDesk$Leaf" "low" "I", .lays "SettingsDesk$Leaf" "SettingsDesk$Leaf" "high" "I", .lays "SettingsDesk$Leaf" "SettingsDesk$Leaf" "required" "Z", .lays "SettingsDesk$Leaf" "SettingsDesk$Leaf" "unique" "Z", .lays "SettingsDesk$Leaf" "SettingsDesk$Leaf" "hasStandard" "Z", .lays "SettingsDesk$Leaf" "SettingsDesk$Leaf" "standardValue" "I"] : List Cond), w ∈ c :: sdB0
  exact List.forall_mem_cons.mpr ⟨List.mem_cons_of_mem _ l_F_0, List.forall_mem_cons.mpr ⟨List.mem_cons_of_mem _ l_F_1, List.forall_mem_cons.mpr ⟨List.mem_cons_of_mem _ l_F_2, List.forall_mem_cons.mpr ⟨List.mem_cons_of_mem _ l_F_3, List.forall_mem_cons.mpr ⟨List.mem_cons_of_mem _ l_F_4, List.forall_mem_cons.mpr ⟨List.mem_cons_of_mem _ l_F_5, List.forall_mem_cons.mpr ⟨List.mem_cons_of_mem _ l_F_6, fun _ h => absurd h List.not_mem_nil⟩⟩⟩⟩⟩⟩⟩
def T_R : u_T := fun k => match k with
  | 0 => ("SettingsDesk$Rule", "ofList", "I", false)
  | 1 => ("SettingsDesk$Rule", "a", "I", false)
  | 2 => ("SettingsDesk$Rule", "value", "I", false)
  | 3 => ("SettingsDesk$Rule", "b", "I", false)
  | _ => ("SettingsDesk$Rule", "there", "Z", false)
def ty_R : Nat → FieldType := fun k => match k with
  | 0 => .int
  | 1 => .int
  | 2 => .int
  | 3 => .int
  | _ => .boolean
theorem ty_R_ok : ∀ k, k < 5 → parseFieldDescriptor (T_R k).2.2.1 = some (ty_R k) := by decide +kernel
theorem nm_R : ∀ a, a < 5 → ∀ b, b < 5 → a ≠ b → (T_R a).2.1 ≠ (T_R b).2.1 := by decide +kernel
theorem l_R_0 : (.lays "SettingsDesk$Rule" "SettingsDesk$Rule" "ofList" "I" : Cond) ∈ sdB0 := sd_tb1 93 rfl rfl
theorem l_R_1 : (.lays "SettingsDesk$Rule" "SettingsDesk$Rule" "a" "I" : Cond) ∈ sdB0 := sd_tb1 95 rfl rfl
theorem l_R_2 : (.lays "SettingsDesk$Rule" "SettingsDesk$Rule" "value" "I" : Cond) ∈ sdB0 := sd_tb1 97 rfl rfl
theorem l_R_3 : (.lays "SettingsDesk$Rule" "SettingsDesk$Rule" "b" "I" : Cond) ∈ sdB0 := sd_tb1 99 rfl rfl
theorem l_R_4 : (.lays "SettingsDesk$Rule" "SettingsDesk$Rule" "there" "Z" : Cond) ∈ sdB0 := sd_tb1 101 rfl rfl
theorem lay_R {c : Cond} : ∀ w ∈ u_ws "SettingsDesk$Rule" T_R 5, w ∈ c :: sdB0 := by
  show ∀ w ∈ ([.lays "SettingsDesk$Rule" "SettingsDesk$Rule" "ofList" "I", .lays "SettingsDesk$Rule" "SettingsDesk$Rule" "a" "I", .lays "SettingsDesk$Rule" "SettingsDesk$Rule" "value" "I", .lays "SettingsDesk$Rule" "SettingsDesk$Rule" "b" "I", .lays "SettingsDesk$Rule" "SettingsDesk$Rule" "there" "Z"] : List Cond), w ∈ c :: sdB0
  exact List.forall_mem_cons.mpr ⟨List.mem_cons_of_mem _ l_R_0, List.forall_mem_cons.mpr ⟨List.mem_cons_of_mem _ l_R_1, List.forall_mem_cons.mpr ⟨List.mem_cons_of_mem _ l_R_2, List.forall_mem_cons.mpr ⟨List.mem_cons_of_mem _ l_R_3, List.forall_mem_cons.mpr ⟨List.mem_cons_of_mem _ l_R_4, fun _ h => absurd h List.not_mem_nil⟩⟩⟩⟩⟩
def T_G : u_T := fun k => match k with
  | 0 => ("SettingsDesk$Merge", "candidate", "LSettingsDesk$Settings;", true)
  | 1 => ("SettingsDesk$Merge", "base", "LSettingsDesk$Settings;", true)
  | 2 => ("SettingsDesk$Merge", "running", "LSettingsDesk$Settings;", true)
  | 3 => ("SettingsDesk$Merge", "outcome", "LSettingsDesk$Settings;", true)
  | _ => ("SettingsDesk$Merge", "trouble", "LSettingsDesk$Trouble;", true)
def ty_G : Nat → FieldType := fun k => match k with
  | 0 => .object "SettingsDesk$Settings"
  | 1 => .object "SettingsDesk$Settings"
  | 2 => .object "SettingsDesk$Settings"
  | 3 => .object "SettingsDesk$Settings"
  | _ => .object "SettingsDesk$Trouble"
theorem ty_G_ok : ∀ k, k < 5 → parseFieldDescriptor (T_G k).2.2.1 = some (ty_G k) := by decide +kernel
theorem nm_G : ∀ a, a < 5 → ∀ b, b < 5 → a ≠ b → (T_G a).2.1 ≠ (T_G b).2.1 := by decide +kernel
theorem l_G_0 : (.laysFinal "SettingsDesk$Merge" "SettingsDesk$Merge" "candidate" "LSettingsDesk$Settings;" : Cond) ∈ sdB0 := sd_tb3 221 rfl rfl
theorem l_G_1 : (.laysFinal "SettingsDesk$Merge" "SettingsDesk$Merge" "base" "LSettingsDesk$Settings;" : Cond) ∈ sdB0 := sd_tb3 223 rfl rfl
theorem l_G_2 : (.laysFinal "SettingsDesk$Merge" "SettingsDesk$Merge" "running" "LSettingsDesk$Settings;" : Cond) ∈ sdB0 := sd_tb3 225 rfl rfl
theorem l_G_3 : (.laysFinal "SettingsDesk$Merge" "SettingsDesk$Merge" "outcome" "LSettingsDesk$Settings;" : Cond) ∈ sdB0 := sd_tb3 227 rfl rfl
theorem l_G_4 : (.laysFinal "SettingsDesk$Merge" "SettingsDesk$Merge" "trouble" "LSettingsDesk$Trouble;" : Cond) ∈ sdB0 := sd_tb3 229 rfl rfl
theorem lay_G {c : Cond} : ∀ w ∈ u_ws "SettingsDesk$Merge" T_G 5, w ∈ c :: sdB0 := by
  show ∀ w ∈ ([.laysFinal "SettingsDesk$Merge" "SettingsDesk$Merge" "candidate" "LSettingsDesk$Settings;", .laysFinal "SettingsDesk$Merge" "SettingsDesk$Merge" "base" "LSettingsDesk$Settings;", .laysFinal "SettingsDesk$Merge" "SettingsDesk$Merge" "running" "LSettingsDesk$Settings;", .laysFinal "SettingsDesk$Merge" "SettingsDesk$Merge" "outcome" "LSettingsDesk$Settings;", .laysFinal "SettingsDesk$Merge" "SettingsDesk$Merge" "trouble" "LSettingsDesk$Trouble;"] : List Cond), w ∈ c :: sdB0
  exact List.forall_mem_cons.mpr ⟨List.mem_cons_of_mem _ l_G_0, List.forall_mem_cons.mpr ⟨List.mem_cons_of_mem _ l_G_1, List.forall_mem_cons.mpr ⟨List.mem_cons_of_mem _ l_G_2, List.forall_mem_cons.mpr ⟨List.mem_cons_of_mem _ l_G_3, List.forall_mem_cons.mpr ⟨List.mem_cons_of_mem _ l_G_4, fun _ h => absurd h List.not_mem_nil⟩⟩⟩⟩⟩
def T_K : u_T := fun k => match k with
  | 0 => ("SettingsDesk$Check", "schema", "LSettingsDesk$Schema;", true)
  | 1 => ("SettingsDesk$Check", "settings", "LSettingsDesk$Settings;", true)
  | _ => ("SettingsDesk$Check", "trouble", "LSettingsDesk$Trouble;", true)
def ty_K : Nat → FieldType := fun k => match k with
  | 0 => .object "SettingsDesk$Schema"
  | 1 => .object "SettingsDesk$Settings"
  | _ => .object "SettingsDesk$Trouble"
theorem ty_K_ok : ∀ k, k < 3 → parseFieldDescriptor (T_K k).2.2.1 = some (ty_K k) := by decide +kernel
theorem nm_K : ∀ a, a < 3 → ∀ b, b < 3 → a ≠ b → (T_K a).2.1 ≠ (T_K b).2.1 := by decide +kernel
theorem l_K_0 : (.laysFinal "SettingsDesk$Check" "SettingsDesk$Check" "schema" "LSettingsDesk$Schema;" : Cond) ∈ sdB0 := sd_tb3 13 rfl rfl
theorem l_K_1 : (.laysFinal "SettingsDesk$Check" "SettingsDesk$Check" "settings" "LSettingsDesk$Settings;" : Cond) ∈ sdB0 := sd_tb3 15 rfl rfl
theorem l_K_2 : (.laysFinal "SettingsDesk$Check" "SettingsDesk$Check" "trouble" "LSettingsDesk$Trouble;" : Cond) ∈ sdB0 := sd_tb3 17 rfl rfl
theorem lay_K {c : Cond} : ∀ w ∈ u_ws "SettingsDesk$Check" T_K 3, w ∈ c :: sdB0 := by
  show ∀ w ∈ ([.laysFinal "SettingsDesk$Check" "SettingsDesk$Check" "schema" "LSettingsDesk$Schema;", .laysFinal "SettingsDesk$Check" "SettingsDesk$Check" "settings" "LSettingsDesk$Settings;", .laysFinal "SettingsDesk$Check" "SettingsDesk$Check" "trouble" "LSettingsDesk$Trouble;"] : List Cond), w ∈ c :: sdB0
  exact List.forall_mem_cons.mpr ⟨List.mem_cons_of_mem _ l_K_0, List.forall_mem_cons.mpr ⟨List.mem_cons_of_mem _ l_K_1, List.forall_mem_cons.mpr ⟨List.mem_cons_of_mem _ l_K_2, fun _ h => absurd h List.not_mem_nil⟩⟩⟩
def T_E : u_T := fun k => match k with
  | 0 => ("SettingsDesk$Difference", "candidate", "LSettingsDesk$Settings;", true)
  | 1 => ("SettingsDesk$Difference", "running", "LSettingsDesk$Settings;", true)
  | 2 => ("SettingsDesk$Difference", "toPass", "I", false)
  | 3 => ("SettingsDesk$Difference", "found", "Z", false)
  | 4 => ("SettingsDesk$Difference", "atList", "I", false)
  | 5 => ("SettingsDesk$Difference", "atKey", "I", false)
  | 6 => ("SettingsDesk$Difference", "atLeaf", "I", false)
  | _ => ("SettingsDesk$Difference", "kind", "I", false)
def ty_E : Nat → FieldType := fun k => match k with
  | 0 => .object "SettingsDesk$Settings"
  | 1 => .object "SettingsDesk$Settings"
  | 2 => .int
  | 3 => .boolean
  | 4 => .int
  | 5 => .int
  | 6 => .int
  | _ => .int
theorem ty_E_ok : ∀ k, k < 8 → parseFieldDescriptor (T_E k).2.2.1 = some (ty_E k) := by decide +kernel
theorem nm_E : ∀ a, a < 8 → ∀ b, b < 8 → a ≠ b → (T_E a).2.1 ≠ (T_E b).2.1 := by decide +kernel
theorem l_E_0 : (.laysFinal "SettingsDesk$Difference" "SettingsDesk$Difference" "candidate" "LSettingsDesk$Settings;" : Cond) ∈ sdB0 := sd_tb4 89 rfl rfl
theorem l_E_1 : (.laysFinal "SettingsDesk$Difference" "SettingsDesk$Difference" "running" "LSettingsDesk$Settings;" : Cond) ∈ sdB0 := sd_tb4 91 rfl rfl
theorem l_E_2 : (.lays "SettingsDesk$Difference" "SettingsDesk$Difference" "toPass" "I" : Cond) ∈ sdB0 := sd_tb4 93 rfl rfl
theorem l_E_3 : (.lays "SettingsDesk$Difference" "SettingsDesk$Difference" "found" "Z" : Cond) ∈ sdB0 := sd_tb4 95 rfl rfl
theorem l_E_4 : (.lays "SettingsDesk$Difference" "SettingsDesk$Difference" "atList" "I" : Cond) ∈ sdB0 := sd_tb4 97 rfl rfl
theorem l_E_5 : (.lays "SettingsDesk$Difference" "SettingsDesk$Difference" "atKey" "I" : Cond) ∈ sdB0 := sd_tb4 99 rfl rfl
theorem l_E_6 : (.lays "SettingsDesk$Difference" "SettingsDesk$Difference" "atLeaf" "I" : Cond) ∈ sdB0 := sd_tb4 101 rfl rfl
theorem l_E_7 : (.lays "SettingsDesk$Difference" "SettingsDesk$Difference" "kind" "I" : Cond) ∈ sdB0 := sd_tb4 103 rfl rfl
theorem lay_E {c : Cond} : ∀ w ∈ u_ws "SettingsDesk$Difference" T_E 8, w ∈ c :: sdB0 := by
  show ∀ w ∈ ([.laysFinal "SettingsDesk$Difference" "SettingsDesk$Difference" "candidate" "LSettingsDesk$Settings;", .laysFinal "SettingsDesk$Difference" "SettingsDesk$Difference" "running" "LSettingsDesk$Settings;", .lays "SettingsDesk$Difference" "SettingsDesk$Difference" "toPass" "I", .lays "SettingsDesk$Difference" "SettingsDesk$Difference" "found" "Z", .lays "SettingsDesk$Difference" "SettingsDesk$Difference" "atList" "I", .lays "SettingsDesk$Difference" "SettingsDesk$Difference" "atKey" "I", .lays "SettingsDesk$Difference" "SettingsDesk$Difference" "atLeaf" "I", .lays "SettingsDesk$Difference" "SettingsDesk$Difference" "kind" "I"] : List Cond), w ∈ c :: sdB0
  exact List.forall_mem_cons.mpr ⟨List.mem_cons_of_mem _ l_E_0, List.forall_mem_cons.mpr ⟨List.mem_cons_of_mem _ l_E_1, List.forall_mem_cons.mpr ⟨List.mem_cons_of_mem _ l_E_2, List.forall_mem_cons.mpr ⟨List.mem_cons_of_mem _ l_E_3, List.forall_mem_cons.mpr ⟨List.mem_cons_of_mem _ l_E_4, List.forall_mem_cons.mpr ⟨List.mem_cons_of_mem _ l_E_5, List.forall_mem_cons.mpr ⟨List.mem_cons_of_mem _ l_E_6, List.forall_mem_cons.mpr ⟨List.mem_cons_of_mem _ l_E_7, fun _ h => absurd h List.not_mem_nil⟩⟩⟩⟩⟩⟩⟩⟩
def T_O : u_T := fun k => match k with
  | 0 => ("SettingsDeskModel", "thrown", "I", false)
  | 1 => ("SettingsDeskModel", "ready", "Z", false)
  | 2 => ("SettingsDeskModel", "lists", "I", false)
  | 3 => ("SettingsDeskModel", "leaves", "[I", true)
  | 4 => ("SettingsDeskModel", "refers", "[Z", true)
  | 5 => ("SettingsDeskModel", "lows", "[I", true)
  | 6 => ("SettingsDeskModel", "highs", "[I", true)
  | 7 => ("SettingsDeskModel", "flags", "[I", true)
  | 8 => ("SettingsDeskModel", "hasStandard", "[Z", true)
  | 9 => ("SettingsDeskModel", "standards", "[I", true)
  | 10 => ("SettingsDeskModel", "rules", "I", false)
  | 11 => ("SettingsDeskModel", "ruleList", "[I", true)
  | 12 => ("SettingsDeskModel", "ruleA", "[I", true)
  | 13 => ("SettingsDeskModel", "ruleValue", "[I", true)
  | 14 => ("SettingsDeskModel", "ruleB", "[I", true)
  | 15 => ("SettingsDeskModel", "ruleThere", "[Z", true)
  | 16 => ("SettingsDeskModel", "sizes", "[I", true)
  | 17 => ("SettingsDeskModel", "keys", "[I", true)
  | 18 => ("SettingsDeskModel", "bits", "[I", true)
  | 19 => ("SettingsDeskModel", "values", "[I", true)
  | 20 => ("SettingsDeskModel", "older", "I", false)
  | 21 => ("SettingsDeskModel", "changes", "I", false)
  | 22 => ("SettingsDeskModel", "begun", "[Z", true)
  | 23 => ("SettingsDeskModel", "holder", "I", false)
  | 24 => ("SettingsDeskModel", "waits", "I", false)
  | 25 => ("SettingsDeskModel", "off", "Z", false)
  | 26 => ("SettingsDeskModel", "failing", "I", false)
  | 27 => ("SettingsDeskModel", "fault", "I", false)
  | 28 => ("SettingsDeskModel", "faultList", "I", false)
  | 29 => ("SettingsDeskModel", "faultKey", "I", false)
  | 30 => ("SettingsDeskModel", "faultLeaf", "I", false)
  | 31 => ("SettingsDeskModel", "foundList", "I", false)
  | 32 => ("SettingsDeskModel", "foundKey", "I", false)
  | 33 => ("SettingsDeskModel", "foundLeaf", "I", false)
  | _ => ("SettingsDeskModel", "foundKind", "I", false)
def ty_O : Nat → FieldType := fun k => match k with
  | 0 => .int
  | 1 => .boolean
  | 2 => .int
  | 3 => .array .int
  | 4 => .array .boolean
  | 5 => .array .int
  | 6 => .array .int
  | 7 => .array .int
  | 8 => .array .boolean
  | 9 => .array .int
  | 10 => .int
  | 11 => .array .int
  | 12 => .array .int
  | 13 => .array .int
  | 14 => .array .int
  | 15 => .array .boolean
  | 16 => .array .int
  | 17 => .array .int
  | 18 => .array .int
  | 19 => .array .int
  | 20 => .int
  | 21 => .int
  | 22 => .array .boolean
  | 23 => .int
  | 24 => .int
  | 25 => .boolean
  | 26 => .int
  | 27 => .int
  | 28 => .int
  | 29 => .int
  | 30 => .int
  | 31 => .int
  | 32 => .int
  | 33 => .int
  | _ => .int
theorem ty_O_ok : ∀ k, k < 35 → parseFieldDescriptor (T_O k).2.2.1 = some (ty_O k) := by decide +kernel
theorem nm_O : ∀ a, a < 35 → ∀ b, b < 35 → a ≠ b → (T_O a).2.1 ≠ (T_O b).2.1 := by decide +kernel
theorem l_O_0 : (.lays "SettingsDeskModel" "SettingsDeskModel" "thrown" "I" : Cond) ∈ sdB0 := sd_tb4 194 rfl rfl
theorem l_O_1 : (.lays "SettingsDeskModel" "SettingsDeskModel" "ready" "Z" : Cond) ∈ sdB0 := sd_tb4 196 rfl rfl
theorem l_O_2 : (.lays "SettingsDeskModel" "SettingsDeskModel" "lists" "I" : Cond) ∈ sdB0 := sd_tb4 198 rfl rfl
theorem l_O_3 : (.laysFinal "SettingsDeskModel" "SettingsDeskModel" "leaves" "[I" : Cond) ∈ sdB0 := sd_tb4 200 rfl rfl
theorem l_O_4 : (.laysFinal "SettingsDeskModel" "SettingsDeskModel" "refers" "[Z" : Cond) ∈ sdB0 := sd_tb4 202 rfl rfl
theorem l_O_5 : (.laysFinal "SettingsDeskModel" "SettingsDeskModel" "lows" "[I" : Cond) ∈ sdB0 := sd_tb4 204 rfl rfl
theorem l_O_6 : (.laysFinal "SettingsDeskModel" "SettingsDeskModel" "highs" "[I" : Cond) ∈ sdB0 := sd_tb4 206 rfl rfl
theorem l_O_7 : (.laysFinal "SettingsDeskModel" "SettingsDeskModel" "flags" "[I" : Cond) ∈ sdB0 := sd_tb4 208 rfl rfl
theorem l_O_8 : (.laysFinal "SettingsDeskModel" "SettingsDeskModel" "hasStandard" "[Z" : Cond) ∈ sdB0 := sd_tb4 210 rfl rfl
theorem l_O_9 : (.laysFinal "SettingsDeskModel" "SettingsDeskModel" "standards" "[I" : Cond) ∈ sdB0 := sd_tb4 212 rfl rfl
theorem l_O_10 : (.lays "SettingsDeskModel" "SettingsDeskModel" "rules" "I" : Cond) ∈ sdB0 := sd_tb4 214 rfl rfl
theorem l_O_11 : (.laysFinal "SettingsDeskModel" "SettingsDeskModel" "ruleList" "[I" : Cond) ∈ sdB0 := sd_tb4 216 rfl rfl
theorem l_O_12 : (.laysFinal "SettingsDeskModel" "SettingsDeskModel" "ruleA" "[I" : Cond) ∈ sdB0 := sd_tb4 218 rfl rfl
theorem l_O_13 : (.laysFinal "SettingsDeskModel" "SettingsDeskModel" "ruleValue" "[I" : Cond) ∈ sdB0 := sd_tb4 220 rfl rfl
theorem l_O_14 : (.laysFinal "SettingsDeskModel" "SettingsDeskModel" "ruleB" "[I" : Cond) ∈ sdB0 := sd_tb4 222 rfl rfl
theorem l_O_15 : (.laysFinal "SettingsDeskModel" "SettingsDeskModel" "ruleThere" "[Z" : Cond) ∈ sdB0 := sd_tb4 224 rfl rfl
theorem l_O_16 : (.laysFinal "SettingsDeskModel" "SettingsDeskModel" "sizes" "[I" : Cond) ∈ sdB0 := sd_tb4 226 rfl rfl
theorem l_O_17 : (.laysFinal "SettingsDeskModel" "SettingsDeskModel" "keys" "[I" : Cond) ∈ sdB0 := sd_tb4 228 rfl rfl
theorem l_O_18 : (.laysFinal "SettingsDeskModel" "SettingsDeskModel" "bits" "[I" : Cond) ∈ sdB0 := sd_tb4 230 rfl rfl
theorem l_O_19 : (.laysFinal "SettingsDeskModel" "SettingsDeskModel" "values" "[I" : Cond) ∈ sdB0 := sd_tb4 232 rfl rfl
theorem l_O_20 : (.lays "SettingsDeskModel" "SettingsDeskModel" "older" "I" : Cond) ∈ sdB0 := sd_tb4 234 rfl rfl
theorem l_O_21 : (.lays "SettingsDeskModel" "SettingsDeskModel" "changes" "I" : Cond) ∈ sdB0 := sd_tb4 236 rfl rfl
theorem l_O_22 : (.laysFinal "SettingsDeskModel" "SettingsDeskModel" "begun" "[Z" : Cond) ∈ sdB0 := sd_tb4 238 rfl rfl
theorem l_O_23 : (.lays "SettingsDeskModel" "SettingsDeskModel" "holder" "I" : Cond) ∈ sdB0 := sd_tb5 0 rfl rfl
theorem l_O_24 : (.lays "SettingsDeskModel" "SettingsDeskModel" "waits" "I" : Cond) ∈ sdB0 := sd_tb5 2 rfl rfl
theorem l_O_25 : (.lays "SettingsDeskModel" "SettingsDeskModel" "off" "Z" : Cond) ∈ sdB0 := sd_tb5 4 rfl rfl
theorem l_O_26 : (.lays "SettingsDeskModel" "SettingsDeskModel" "failing" "I" : Cond) ∈ sdB0 := sd_tb5 6 rfl rfl
theorem l_O_27 : (.lays "SettingsDeskModel" "SettingsDeskModel" "fault" "I" : Cond) ∈ sdB0 := sd_tb5 8 rfl rfl
theorem l_O_28 : (.lays "SettingsDeskModel" "SettingsDeskModel" "faultList" "I" : Cond) ∈ sdB0 := sd_tb5 10 rfl rfl
theorem l_O_29 : (.lays "SettingsDeskModel" "SettingsDeskModel" "faultKey" "I" : Cond) ∈ sdB0 := sd_tb5 12 rfl rfl
theorem l_O_30 : (.lays "SettingsDeskModel" "SettingsDeskModel" "faultLeaf" "I" : Cond) ∈ sdB0 := sd_tb5 14 rfl rfl
theorem l_O_31 : (.lays "SettingsDeskModel" "SettingsDeskModel" "foundList" "I" : Cond) ∈ sdB0 := sd_tb5 16 rfl rfl
theorem l_O_32 : (.lays "SettingsDeskModel" "SettingsDeskModel" "foundKey" "I" : Cond) ∈ sdB0 := sd_tb5 18 rfl rfl
theorem l_O_33 : (.lays "SettingsDeskModel" "SettingsDeskModel" "foundLeaf" "I" : Cond) ∈ sdB0 := sd_tb5 20 rfl rfl
theorem l_O_34 : (.lays "SettingsDeskModel" "SettingsDeskModel" "foundKind" "I" : Cond) ∈ sdB0 := sd_tb5 22 rfl rfl
theorem lay_O {c : Cond} : ∀ w ∈ u_ws "SettingsDeskModel" T_O 35, w ∈ c :: sdB0 := by
  show ∀ w ∈ ([.lays "SettingsDeskModel" "SettingsDeskModel" "thrown" "I", .lays "SettingsDeskModel" "SettingsDeskModel" "ready" "Z", .lays "SettingsDeskModel" "SettingsDeskModel" "lists" "I", .laysFinal "SettingsDeskModel" "SettingsDeskModel" "leaves" "[I", .laysFinal "SettingsDeskModel" "SettingsDeskModel" "refers" "[Z", .laysFinal "SettingsDeskModel" "SettingsDeskModel" "lows" "[I", .laysFinal "SettingsDeskModel" "SettingsDeskModel" "highs" "[I", .laysFinal "SettingsDeskModel" "SettingsDeskModel" "flags" "[I", .laysFinal "SettingsDeskModel" "SettingsDeskModel" "hasStandard" "[Z", .laysFinal "SettingsDeskModel" "SettingsDeskModel" "standards" "[I", .lays "SettingsDeskModel" "SettingsDeskModel" "rules" "I", .laysFinal "SettingsDeskModel" "SettingsDeskModel" "ruleList" "[I", .laysFinal "SettingsDeskModel" "SettingsDeskModel" "ruleA" "[I", .laysFinal "SettingsDeskModel" "SettingsDeskModel" "ruleValue" "[I", .laysFinal "SettingsDeskModel" "SettingsDeskModel" "ruleB" "[I", .laysFinal "SettingsDeskModel" "SettingsDeskModel" "ruleThere" "[Z", .laysFinal "SettingsDeskModel" "SettingsDeskModel" "sizes" "[I", .laysFinal "SettingsDeskModel" "SettingsDeskModel" "keys" "[I", .laysFinal "SettingsDeskModel" "SettingsDeskModel" "bits" "[I", .laysFinal "SettingsDeskModel" "SettingsDeskModel" "values" "[I", .lays "SettingsDeskModel" "SettingsDeskModel" "older" "I", .lays "SettingsDeskModel" "SettingsDeskModel" "changes" "I", .laysFinal "SettingsDeskModel" "SettingsDeskModel" "begun" "[Z", .lays "SettingsDeskModel" "SettingsDeskModel" "holder" "I", .lays "SettingsDeskModel" "SettingsDeskModel" "waits" "I", .lays "SettingsDeskModel" "SettingsDeskModel" "off" "Z", .lays "SettingsDeskModel" "SettingsDeskModel" "failing" "I", .lays "SettingsDeskModel" "SettingsDeskModel" "fault" "I", .lays "SettingsDeskModel" "SettingsDeskModel" "faultList" "I", .lays "SettingsDeskModel" "SettingsDeskModel" "faultKey" "I", .lays "SettingsDeskModel" "SettingsDeskModel" "faultLeaf" "I", .lays "SettingsDeskModel" "SettingsDeskModel" "foundList" "I", .lays "SettingsDeskModel" "SettingsDeskModel" "foundKey" "I", .lays "SettingsDeskModel" "SettingsDeskModel" "foundLeaf" "I", .lays "SettingsDeskModel" "SettingsDeskModel" "foundKind" "I"] : List Cond), w ∈ c :: sdB0
  exact List.forall_mem_cons.mpr ⟨List.mem_cons_of_mem _ l_O_0, List.forall_mem_cons.mpr ⟨List.mem_cons_of_mem _ l_O_1, List.forall_mem_cons.mpr ⟨List.mem_cons_of_mem _ l_O_2, List.forall_mem_cons.mpr ⟨List.mem_cons_of_mem _ l_O_3, List.forall_mem_cons.mpr ⟨List.mem_cons_of_mem _ l_O_4, List.forall_mem_cons.mpr ⟨List.mem_cons_of_mem _ l_O_5, List.forall_mem_cons.mpr ⟨List.mem_cons_of_mem _ l_O_6, List.forall_mem_cons.mpr ⟨List.mem_cons_of_mem _ l_O_7, List.forall_mem_cons.mpr ⟨List.mem_cons_of_mem _ l_O_8, List.forall_mem_cons.mpr ⟨List.mem_cons_of_mem _ l_O_9, List.forall_mem_cons.mpr ⟨List.mem_cons_of_mem _ l_O_10, List.forall_mem_cons.mpr ⟨List.mem_cons_of_mem _ l_O_11, List.forall_mem_cons.mpr ⟨List.mem_cons_of_mem _ l_O_12, List.forall_mem_cons.mpr ⟨List.mem_cons_of_mem _ l_O_13, List.forall_mem_cons.mpr ⟨List.mem_cons_of_mem _ l_O_14, List.forall_mem_cons.mpr ⟨List.mem_cons_of_mem _ l_O_15, List.forall_mem_cons.mpr ⟨List.mem_cons_of_mem _ l_O_16, List.forall_mem_cons.mpr ⟨List.mem_cons_of_mem _ l_O_17, List.forall_mem_cons.mpr ⟨List.mem_cons_of_mem _ l_O_18, List.forall_mem_cons.mpr ⟨List.mem_cons_of_mem _ l_O_19, List.forall_mem_cons.mpr ⟨List.mem_cons_of_mem _ l_O_20, List.forall_mem_cons.mpr ⟨List.mem_cons_of_mem _ l_O_21, List.forall_mem_cons.mpr ⟨List.mem_cons_of_mem _ l_O_22, List.forall_mem_cons.mpr ⟨List.mem_cons_of_mem _ l_O_23, List.forall_mem_cons.mpr ⟨List.mem_cons_of_mem _ l_O_24, List.forall_mem_cons.mpr ⟨List.mem_cons_of_mem _ l_O_25, List.forall_mem_cons.mpr ⟨List.mem_cons_of_mem _ l_O_26, List.forall_mem_cons.mpr ⟨List.mem_cons_of_mem _ l_O_27, List.forall_mem_cons.mpr ⟨List.mem_cons_of_mem _ l_O_28, List.forall_mem_cons.mpr ⟨List.mem_cons_of_mem _ l_O_29, List.forall_mem_cons.mpr ⟨List.mem_cons_of_mem _ l_O_30, List.forall_mem_cons.mpr ⟨List.mem_cons_of_mem _ l_O_31, List.forall_mem_cons.mpr ⟨List.mem_cons_of_mem _ l_O_32, List.forall_mem_cons.mpr ⟨List.mem_cons_of_mem _ l_O_33, List.forall_mem_cons.mpr ⟨List.mem_cons_of_mem _ l_O_34, fun _ h => absurd h List.not_mem_nil⟩⟩⟩⟩⟩⟩⟩⟩⟩⟩⟩⟩⟩⟩⟩⟩⟩⟩⟩⟩⟩⟩⟩⟩⟩⟩⟩⟩⟩⟩⟩⟩⟩⟩⟩
abbrev sdCl : List vw_C := [("SettingsDesk", T_D, 12), ("SettingsDesk$Schema", T_C, 6), ("SettingsDesk$Settings", T_S, 4), ("SettingsDesk$Session", T_N, 3), ("SettingsDesk$Trouble", T_T, 4), ("SettingsDesk$Leaf", T_F, 7), ("SettingsDesk$Rule", T_R, 5), ("SettingsDesk$Merge", T_G, 5), ("SettingsDesk$Check", T_K, 3), ("SettingsDesk$Difference", T_E, 8), ("SettingsDeskModel", T_O, 35)]
def sd_tys (dA : Nat → ClassId) : List (ClassId × FieldType) := [(dA 0, .int), (dA 1, .boolean), (dA 2, .long), (dA 3, .object "SettingsDesk$Leaf"), (dA 4, .object "SettingsDesk$Rule"), (dA 5, .object "SettingsDesk$Settings"), (dA 6, .object "SettingsDesk$Session")]
def sdNw : List Cond := [.methodLinkNest "SettingsDesk$Schema" 38 ⟨"SettingsDesk$Leaf", "<init>", "()V"⟩ "SettingsDesk", .methodLinkNest "SettingsDesk$Schema" 39 ⟨"SettingsDesk$Rule", "<init>", "()V"⟩ "SettingsDesk", .methodLinkNest "SettingsDesk" 41 ⟨"SettingsDesk$Trouble", "<init>", "()V"⟩ "SettingsDesk", .methodLinkNest "SettingsDesk" 63 ⟨"SettingsDesk$Session", "<init>", "()V"⟩ "SettingsDesk", .castable "java/lang/IllegalStateException" "java/lang/IllegalStateException", .declares ⟨"java/lang/RuntimeException", "<init>", "()V"⟩, .declares ⟨"java/lang/RuntimeException", "<init>", "(Ljava/lang/String;)V"⟩, .declares ⟨"java/lang/Exception", "<init>", "()V"⟩, .declares ⟨"java/lang/Exception", "<init>", "(Ljava/lang/String;)V"⟩, .declares ⟨"java/lang/Throwable", "<init>", "()V"⟩, .declares ⟨"java/lang/Throwable", "<init>", "(Ljava/lang/String;)V"⟩, .castable "java/lang/IndexOutOfBoundsException" "java/lang/IndexOutOfBoundsException", .castable "java/lang/IllegalArgumentException" "java/lang/IllegalArgumentException", .castable "java/lang/UnsupportedOperationException" "java/lang/UnsupportedOperationException"]
def sdSs : List (String × Nat × String) := [("SettingsDesk", 292, "the power is off, or the schema is ready"), ("SettingsDesk", 72, "there are as many lists as there may be"), ("SettingsDesk", 299, "there is no such list"), ("SettingsDesk", 85, "the list has as many leaves as it may have"), ("SettingsDesk", 93, "there can be no such leaf"), ("SettingsDesk", 304, "there is no such list or leaf"), ("SettingsDesk", 117, "the leaf can have no such standard"), ("SettingsDesk", 128, "there are as many rules as there may be"), ("SettingsDesk", 294, "the power is off, or the schema is not ready"), ("SettingsDesk", 306, "there is no such session"), ("SettingsDesk", 308, "the session has not begun"), ("SettingsDesk", 166, "there can be no such entry"), ("SettingsDesk", 183, "the list has as many entries as it may have"), ("SettingsDesk", 310, "the candidate has no such entry"), ("SettingsDesk", 193, "the leaf takes no such value"), ("SettingsDesk", 208, "there is no such set"), ("SettingsDesk", 219, "there is no such entry, or the leaf is nothing"), ("SettingsDesk", 225, "there can be no such number of ticks"), ("SettingsDesk", 245, "there are not so many older sets"), ("SettingsDesk", 255, "there is no such difference, or nothing such of it"), ("SettingsDesk", 279, "there can be no such number of pages")]
abbrev sdE0 (sc : Option (Nat × Nat × (Nat → Int32))) : sdE := (sdCl, sdNw, sdSs, sc)
def isI (n : Nat) (L : Nat → sdL) (c : ClassId) (t len : Nat) : Prop := t < n ∧ L t = sd_I c len
def isQ (n : Nat) (L : Nat → sdL) (c : ClassId) (t len : Nat) (g : Nat → Nat) : Prop := t < n ∧ L t = sd_Q c len g
def isT (n : Nat) (L : Nat → sdL) (o : Nat) : Prop := o < n ∧ L o = sd_O 4 [none, none, none, none]
def isF (n : Nat) (L : Nat → sdL) (o : Nat) : Prop := o < n ∧ L o = sd_O 5 [none, none, none, none, none, none, none]
def isR (n : Nat) (L : Nat → sdL) (o : Nat) : Prop := o < n ∧ L o = sd_O 6 [none, none, none, none, none]
def isS (n : Nat) (L : Nat → sdL) (dA : Nat → ClassId) (o : Nat) : Prop := o < n ∧ L o = sd_O 2 [some (some (o + 1)), some (some (o + 2)), some (some (o + 3)), some (some (o + 4))] ∧ isI n L (dA 0) (o + 1) 4 ∧ isI n L (dA 0) (o + 2) 48 ∧ isI n L (dA 0) (o + 3) 192 ∧ isI n L (dA 0) (o + 4) 48
theorem isS.counts {n : Nat} {L : Nat → sdL} {dA : Nat → ClassId} {o : Nat} (h : isS n L dA o) : isI n L (dA 0) (o + 1) 4 := h.2.2.1
theorem isS.keys {n : Nat} {L : Nat → sdL} {dA : Nat → ClassId} {o : Nat} (h : isS n L dA o) : isI n L (dA 0) (o + 2) 48 := h.2.2.2.1
theorem isS.values {n : Nat} {L : Nat → sdL} {dA : Nat → ClassId} {o : Nat} (h : isS n L dA o) : isI n L (dA 0) (o + 3) 192 := h.2.2.2.2.1
theorem isS.given {n : Nat} {L : Nat → sdL} {dA : Nat → ClassId} {o : Nat} (h : isS n L dA o) : isI n L (dA 0) (o + 4) 48 := h.2.2.2.2.2
def isN (n : Nat) (L : Nat → sdL) (dA : Nat → ClassId) (o : Nat) : Prop := o < n ∧ L o = sd_O 3 [none, some (some (o + 1)), some (some (o + 6))] ∧ isS n L dA (o + 1) ∧ isS n L dA (o + 6)
theorem isN.candidate {n : Nat} {L : Nat → sdL} {dA : Nat → ClassId} {o : Nat} (h : isN n L dA o) : isS n L dA (o + 1) := h.2.2.1
theorem isN.base {n : Nat} {L : Nat → sdL} {dA : Nat → ClassId} {o : Nat} (h : isN n L dA o) : isS n L dA (o + 6) := h.2.2.2
def isC (n : Nat) (L : Nat → sdL) (dA : Nat → ClassId) : Prop := 1 < n ∧ L 1 = sd_O 1 [none, none, some (some 2), some (some 3), none, some (some 4)] ∧ isI n L (dA 0) 2 4 ∧ isQ n L (dA 3) 3 16 (fun j => 5 + j) ∧ isQ n L (dA 4) 4 4 (fun j => 21 + j) ∧ (∀ j, j < 16 → isF n L (5 + j)) ∧ ∀ j, j < 4 → isR n L (21 + j)
theorem isC.leaves {n : Nat} {L : Nat → sdL} {dA : Nat → ClassId} (h : isC n L dA) : isI n L (dA 0) 2 4 := h.2.2.1
theorem isC.leafTable {n : Nat} {L : Nat → sdL} {dA : Nat → ClassId} (h : isC n L dA) : isQ n L (dA 3) 3 16 (fun j => 5 + j) := h.2.2.2.1
theorem isC.rules {n : Nat} {L : Nat → sdL} {dA : Nat → ClassId} (h : isC n L dA) : isQ n L (dA 4) 4 4 (fun j => 21 + j) := h.2.2.2.2.1
theorem sd_lt {i : Int32} {n : Nat} (h : vp_in i n) : i.toNatClampNeg < n := Nat.not_le.mp fun q => h (Or.inr q)
theorem isC.leafTableAt {n : Nat} {L : Nat → sdL} {dA : Nat → ClassId} (h : isC n L dA) {i : Int32} (hi : vp_in i 16) : isF n L (5 + i.toNatClampNeg) := h.2.2.2.2.2.1 _ (sd_lt hi)
theorem isC.rulesAt {n : Nat} {L : Nat → sdL} {dA : Nat → ClassId} (h : isC n L dA) {i : Int32} (hi : vp_in i 4) : isR n L (21 + i.toNatClampNeg) := h.2.2.2.2.2.2 _ (sd_lt hi)
def isD (n : Nat) (L : Nat → sdL) (dA : Nat → ClassId) : Prop := 0 < n ∧ L 0 = sd_O 0 [some (some 1), some (some 25), some (some 30), some (some 35), some (some 40), some (some 41), some (some 42), none, none, none, none, none] ∧ isC n L dA ∧ isS n L dA 25 ∧ isS n L dA 30 ∧ isS n L dA 35 ∧ isQ n L (dA 5) 40 8 (fun j => 43 + 5 * j) ∧ isQ n L (dA 6) 41 3 (fun j => 83 + 11 * j) ∧ isT n L 42 ∧ (∀ j, j < 8 → isS n L dA (43 + 5 * j)) ∧ ∀ j, j < 3 → isN n L dA (83 + 11 * j)
theorem isD.schema {n : Nat} {L : Nat → sdL} {dA : Nat → ClassId} (h : isD n L dA) : isC n L dA := h.2.2.1
theorem isD.running {n : Nat} {L : Nat → sdL} {dA : Nat → ClassId} (h : isD n L dA) : isS n L dA 25 := h.2.2.2.1
theorem isD.saved {n : Nat} {L : Nat → sdL} {dA : Nat → ClassId} (h : isD n L dA) : isS n L dA 30 := h.2.2.2.2.1
theorem isD.outcome {n : Nat} {L : Nat → sdL} {dA : Nat → ClassId} (h : isD n L dA) : isS n L dA 35 := h.2.2.2.2.2.1
theorem isD.older {n : Nat} {L : Nat → sdL} {dA : Nat → ClassId} (h : isD n L dA) : isQ n L (dA 5) 40 8 (fun j => 43 + 5 * j) := h.2.2.2.2.2.2.1
theorem isD.sessions {n : Nat} {L : Nat → sdL} {dA : Nat → ClassId} (h : isD n L dA) : isQ n L (dA 6) 41 3 (fun j => 83 + 11 * j) := h.2.2.2.2.2.2.2.1
theorem isD.trouble {n : Nat} {L : Nat → sdL} {dA : Nat → ClassId} (h : isD n L dA) : isT n L 42 := h.2.2.2.2.2.2.2.2.1
theorem isD.olderAt {n : Nat} {L : Nat → sdL} {dA : Nat → ClassId} (h : isD n L dA) {i : Int32} (hi : vp_in i 8) : isS n L dA (43 + 5 * i.toNatClampNeg) := h.2.2.2.2.2.2.2.2.2.1 _ (sd_lt hi)
theorem isD.sessionsAt {n : Nat} {L : Nat → sdL} {dA : Nat → ClassId} (h : isD n L dA) {i : Int32} (hi : vp_in i 3) : isN n L dA (83 + 11 * i.toNatClampNeg) := h.2.2.2.2.2.2.2.2.2.2 _ (sd_lt hi)
def isG (n : Nat) (L : Nat → sdL) (dA : Nat → ClassId) (o ca ba ru ou tr : Nat) : Prop := o < n ∧ L o = sd_O 7 [some (some ca), some (some ba), some (some ru), some (some ou), some (some tr)] ∧ isS n L dA ca ∧ isS n L dA ba ∧ isS n L dA ru ∧ isS n L dA ou ∧ isT n L tr
theorem isG.candidate {n : Nat} {L : Nat → sdL} {dA : Nat → ClassId} {o ca ba ru ou tr : Nat} (h : isG n L dA o ca ba ru ou tr) : isS n L dA ca := h.2.2.1
theorem isG.base {n : Nat} {L : Nat → sdL} {dA : Nat → ClassId} {o ca ba ru ou tr : Nat} (h : isG n L dA o ca ba ru ou tr) : isS n L dA ba := h.2.2.2.1
theorem isG.running {n : Nat} {L : Nat → sdL} {dA : Nat → ClassId} {o ca ba ru ou tr : Nat} (h : isG n L dA o ca ba ru ou tr) : isS n L dA ru := h.2.2.2.2.1
theorem isG.outcome {n : Nat} {L : Nat → sdL} {dA : Nat → ClassId} {o ca ba ru ou tr : Nat} (h : isG n L dA o ca ba ru ou tr) : isS n L dA ou := h.2.2.2.2.2.1
theorem isG.trouble {n : Nat} {L : Nat → sdL} {dA : Nat → ClassId} {o ca ba ru ou tr : Nat} (h : isG n L dA o ca ba ru ou tr) : isT n L tr := h.2.2.2.2.2.2
def isK (n : Nat) (L : Nat → sdL) (dA : Nat → ClassId) (o se tr : Nat) : Prop := o < n ∧ L o = sd_O 8 [some (some 1), some (some se), some (some tr)] ∧ isC n L dA ∧ isS n L dA se ∧ isT n L tr
theorem isK.schema {n : Nat} {L : Nat → sdL} {dA : Nat → ClassId} {o se tr : Nat} (h : isK n L dA o se tr) : isC n L dA := h.2.2.1
theorem isK.settings {n : Nat} {L : Nat → sdL} {dA : Nat → ClassId} {o se tr : Nat} (h : isK n L dA o se tr) : isS n L dA se := h.2.2.2.1
theorem isK.trouble {n : Nat} {L : Nat → sdL} {dA : Nat → ClassId} {o se tr : Nat} (h : isK n L dA o se tr) : isT n L tr := h.2.2.2.2
def isE (n : Nat) (L : Nat → sdL) (dA : Nat → ClassId) (o ca ru : Nat) : Prop := o < n ∧ L o = sd_O 9 [some (some ca), some (some ru), none, none, none, none, none, none] ∧ isS n L dA ca ∧ isS n L dA ru
theorem isE.candidate {n : Nat} {L : Nat → sdL} {dA : Nat → ClassId} {o ca ru : Nat} (h : isE n L dA o ca ru) : isS n L dA ca := h.2.2.1
theorem isE.running {n : Nat} {L : Nat → sdL} {dA : Nat → ClassId} {o ca ru : Nat} (h : isE n L dA o ca ru) : isS n L dA ru := h.2.2.2
def isO (n : Nat) (L : Nat → sdL) (dA : Nat → ClassId) : Prop := 116 < n ∧ L 116 = sd_O 10 [none, none, none, some (some 117), some (some 118), some (some 119), some (some 120), some (some 121), some (some 122), some (some 123), none, some (some 124), some (some 125), some (some 126), some (some 127), some (some 128), some (some 129), some (some 130), some (some 131), some (some 132), none, none, some (some 133), none, none, none, none, none, none, none, none, none, none, none, none] ∧ isI n L (dA 0) 117 4 ∧ isI n L (dA 1) 118 16 ∧ isI n L (dA 0) 119 16 ∧ isI n L (dA 0) 120 16 ∧ isI n L (dA 0) 121 16 ∧ isI n L (dA 1) 122 16 ∧ isI n L (dA 0) 123 16 ∧ isI n L (dA 0) 124 4 ∧ isI n L (dA 0) 125 4 ∧ isI n L (dA 0) 126 4 ∧ isI n L (dA 0) 127 4 ∧ isI n L (dA 1) 128 4 ∧ isI n L (dA 0) 129 68 ∧ isI n L (dA 0) 130 816 ∧ isI n L (dA 0) 131 816 ∧ isI n L (dA 0) 132 3264 ∧ isI n L (dA 1) 133 3
theorem isO.leaves {n : Nat} {L : Nat → sdL} {dA : Nat → ClassId} (h : isO n L dA) : isI n L (dA 0) 117 4 := h.2.2.1
theorem isO.refers {n : Nat} {L : Nat → sdL} {dA : Nat → ClassId} (h : isO n L dA) : isI n L (dA 1) 118 16 := h.2.2.2.1
theorem isO.lows {n : Nat} {L : Nat → sdL} {dA : Nat → ClassId} (h : isO n L dA) : isI n L (dA 0) 119 16 := h.2.2.2.2.1
theorem isO.highs {n : Nat} {L : Nat → sdL} {dA : Nat → ClassId} (h : isO n L dA) : isI n L (dA 0) 120 16 := h.2.2.2.2.2.1
theorem isO.flags {n : Nat} {L : Nat → sdL} {dA : Nat → ClassId} (h : isO n L dA) : isI n L (dA 0) 121 16 := h.2.2.2.2.2.2.1
theorem isO.hasStandard {n : Nat} {L : Nat → sdL} {dA : Nat → ClassId} (h : isO n L dA) : isI n L (dA 1) 122 16 := h.2.2.2.2.2.2.2.1
theorem isO.standards {n : Nat} {L : Nat → sdL} {dA : Nat → ClassId} (h : isO n L dA) : isI n L (dA 0) 123 16 := h.2.2.2.2.2.2.2.2.1
theorem isO.ruleList {n : Nat} {L : Nat → sdL} {dA : Nat → ClassId} (h : isO n L dA) : isI n L (dA 0) 124 4 := h.2.2.2.2.2.2.2.2.2.1
theorem isO.ruleA {n : Nat} {L : Nat → sdL} {dA : Nat → ClassId} (h : isO n L dA) : isI n L (dA 0) 125 4 := h.2.2.2.2.2.2.2.2.2.2.1
theorem isO.ruleValue {n : Nat} {L : Nat → sdL} {dA : Nat → ClassId} (h : isO n L dA) : isI n L (dA 0) 126 4 := h.2.2.2.2.2.2.2.2.2.2.2.1
theorem isO.ruleB {n : Nat} {L : Nat → sdL} {dA : Nat → ClassId} (h : isO n L dA) : isI n L (dA 0) 127 4 := h.2.2.2.2.2.2.2.2.2.2.2.2.1
theorem isO.ruleThere {n : Nat} {L : Nat → sdL} {dA : Nat → ClassId} (h : isO n L dA) : isI n L (dA 1) 128 4 := h.2.2.2.2.2.2.2.2.2.2.2.2.2.1
theorem isO.sizes {n : Nat} {L : Nat → sdL} {dA : Nat → ClassId} (h : isO n L dA) : isI n L (dA 0) 129 68 := h.2.2.2.2.2.2.2.2.2.2.2.2.2.2.1
theorem isO.keys {n : Nat} {L : Nat → sdL} {dA : Nat → ClassId} (h : isO n L dA) : isI n L (dA 0) 130 816 := h.2.2.2.2.2.2.2.2.2.2.2.2.2.2.2.1
theorem isO.bits {n : Nat} {L : Nat → sdL} {dA : Nat → ClassId} (h : isO n L dA) : isI n L (dA 0) 131 816 := h.2.2.2.2.2.2.2.2.2.2.2.2.2.2.2.2.1
theorem isO.values {n : Nat} {L : Nat → sdL} {dA : Nat → ClassId} (h : isO n L dA) : isI n L (dA 0) 132 3264 := h.2.2.2.2.2.2.2.2.2.2.2.2.2.2.2.2.2.1
theorem isO.begun {n : Nat} {L : Nat → sdL} {dA : Nat → ClassId} (h : isO n L dA) : isI n L (dA 1) 133 3 := h.2.2.2.2.2.2.2.2.2.2.2.2.2.2.2.2.2.2
end
section
/-! exceptions: 'throw new E("text")' out of a method -/
/-- the frame of a method, seen from here: as if it had been entered in this heap -/
theorem sd_anew {p : Program} {l : Launch} {e : Env} {R : Room} {s : State} {m : MethodId} {args : Array Value} {below : List Frame} {meth : Method} {c : Code} {T : State} {locs : List Loc} {cells slots kc ks : Nat}
    (X : Stand p l e R s m args below meth c T locs cells slots) (h1 : cells + kc ≤ R.cells) (h2 : slots + ks ≤ R.slots) :
    Stand p l e { frames := R.frames, locals := R.locals, cells := kc, slots := ks } ((T.setVm s.vm).setFrames (.invoking m args :: below)) m args below meth c T [] 0 0 := by
  have hcur : (T.setVm s.vm).cur < (T.setVm s.vm).threads.size := State.cur_lt_of_top (show (T.setVm s.vm).topJava?.isSome from X.here.top)
  have hF : ((T.setVm s.vm).setFrames (.invoking m args :: below)).frames = .invoking m args :: below := State.frames_setFrames _ hcur
  have hlim : e.platform.stackLimits (T.setVm s.vm).me = e.platform.stackLimits s.me := X.limits
  have hbyt : (T.setVm s.vm).me.stackBytes = s.me.stackBytes := X.bytes
  have hnil : ∀ a : Array Cell, a.toList.drop a.size = [] := fun a => List.drop_eq_nil_of_le (Nat.le_of_eq Array.length_toList)
  refine { admits := X.admits, cas := X.cas, clock := X.clock, frames := hF, room := ?_, hears := X.hears, method := X.method, code := X.code, here := X.here, tail := X.tail, warmed := X.warmed, limits := ?_, bytes := ?_, same := ?_ }
  · have h := X.room
    have e1 := State.localsInUse_invoking hF X.method X.code
    have e2 := State.localsInUse_invoking X.frames X.method X.code
    have q1 := X.heapSize
    have q2 := X.used
    simp only [State.hasRoom, Bool.and_eq_true, decide_eq_true_eq, e1, e2, hF, X.frames, List.length_cons, State.stackLimits_setFrames, State.stackBytes_setFrames, hlim, hbyt] at h ⊢
    obtain ⟨⟨⟨⟨a1, a2, a3, a4, a5, a6⟩, a7⟩, a8⟩, a9⟩ := h
    refine ⟨⟨⟨⟨by omega, by omega, by omega, by omega, by omega, a6⟩, ?_⟩, ?_⟩, X.book⟩
    · show T.heap.size + kc ≤ e.platform.maxCells
      omega
    · show T.slotsUsed + ks ≤ e.platform.maxSlots
      omega
  · rw [State.stackLimits_setFrames]; rfl
  · rw [State.stackBytes_setFrames]; rfl
  · obtain ⟨g0, hg0⟩ := X.frames_eq
    obtain ⟨th, hth, -⟩ := State.frames_cons (show (T.setVm s.vm).frames = .java g0 :: below from hg0)
    refine ⟨?_, Nat.le_refl _, Nat.le_refl _, ?_, ?_, fun a c9 h9 => ⟨c9, h9, rfl, rfl, fun _ _ => rfl⟩⟩
    · show T.setVm s.vm = { ((T.setVm s.vm).setFrames (.invoking m args :: below)).setFrames (T.setVm s.vm).frames with heap := T.heap, slotsUsed := T.slotsUsed }
      rw [State.setFrames_setFrames, State.setFrames_self hth]
      rfl
    · show T.slotsUsed = T.slotsUsed + ((T.heap.toList.drop T.heap.size).map (·.slots.size)).sum
      rw [hnil]; rfl
    · show ((T.heap.toList.drop T.heap.size).map (·.slots.size)).sum ≤ 0
      rw [hnil]; exact Nat.le_refl _
/-- nothing old was written: every old cell is as it was -/
theorem sd_same0 {s U : State} {k n : Nat} (h : s.sameButNew U [] k n) : s.heap.size ≤ U.heap.size ∧ ∀ q : Nat, q < s.heap.size → U.heap[q]? = s.heap[q]? := by
  obtain ⟨-, h2, -, -, -, h6⟩ := h
  refine ⟨h2, fun q hq => ?_⟩
  obtain ⟨c9, e1, e2, e3, e4⟩ := h6 q _ (Array.getElem?_eq_getElem hq)
  have hs : c9.slots = (s.heap[q]).slots := Array.ext_getElem? fun i => e4 i (fun hm => nomatch hm)
  rw [hs] at e2
  rw [e1, e2, Array.getElem?_eq_getElem hq]
/-- a word of the tables, one that stays, or one of the four on Throwable's statics -/
def sd_ok (ws nw : List Cond) (w : Cond) : Prop := w ∈ ws ∨ w ∈ nw ∨ w = .isRef (.static Bundle.tN "UNASSIGNED_STACK" Bundle.steD) ∨ w = .isRef (.static Bundle.tN "SUPPRESSED_SENTINEL" Bundle.listD) ∨ w = .laysStatic Bundle.tN "UNASSIGNED_STACK" Bundle.steD ∨ w = .laysStatic Bundle.tN "SUPPRESSED_SENTINEL" Bundle.listD
section
variable {l : Launch} {E : sdE} {Y : sdY} {D : va_G} {tys : List (ClassId × FieldType)} {b n : Nat} {ad : Nat → Nat} {L : Nat → sdL} {aF : Nat → Nat} {F : sdM → Heap → Prop} {Q : Option Value → sdM → Prop} {X : String → sdM → Prop}
variable {pc : Nat} {loc : List (Nat × Value)} {st : List Value} {M : sdM} {rc rs : Nat}
set_option maxHeartbeats 1000000 in
theorem x_throwS {cls text : String} {names : List String} {ik is ic wd : Nat} (hT : l.stackTraces = false) (hcls : Bundle.fit cls = true) (hnames : ∀ n ∈ names, Bundle.fit n = true) (hgw : GoodIn Y.2.2.2.2.1 Y.2.2.2.2.1) (hk : Cond.classLink Y.1 ik cls ∈ Y.2.2.2.2.1) (hini : Cond.initialized cls ∈ Y.2.2.2.2.1) (hins : Cond.instantiable cls 6 ∈ Y.2.2.2.2.1) (hss : (Y.1, is, text) ∈ E.2.2.1)
    (hat : ∀ w ∈ Bundle.ownAtoms Y.1 ic cls names, sd_ok Y.2.2.2.2.1 E.2.1 w)
    (d0 : decode Y.2.1 pc = .ok (.new ik, 3)) (d3 : decode Y.2.1 (pc + 3) = .ok (.dup, 1)) (d4 : (decode Y.2.1 (pc + 4) = .ok (.ldc is, 2) ∧ wd = 2) ∨ (decode Y.2.1 (pc + 4) = .ok (.ldc_w is, 3) ∧ wd = 3)) (d6 : decode Y.2.1 (pc + 4 + wd) = .ok (.invokespecial ic, 3)) (d9 : decode Y.2.1 (pc + 4 + wd + 3) = .ok (.athrow, 1))
    (hR1 : names.length + 3 < Y.2.2.2.2.2.1.frames) (hR2 : (st.map fun v => v.category).sum + (13 * (names.length + 1) + 43) ≤ Y.2.2.2.2.2.1.locals) (hR3 : Y.2.2.2.2.2.1.cells = Y.2.2.2.2.2.2.1) (hR4 : Y.2.2.2.2.2.1.slots = Y.2.2.2.2.2.2.2)
    (hF : ∀ (M : sdM) (H : Heap), sd_H D E.1 n ad L M H → F M H) (k : X cls M) : sdW l E Y D tys b n ad L aF F Q X pc loc st M (rc + 1) (rs + 6) := by
  intro p e s m args below meth c H locs ls cells slots hC hK hH hS hl hc hs T hT0 X0
  subst hT0
  have htr : e.platform.stackTraces = false := (show e.platform.stackTraces = l.stackTraces by rw [X0.admits.platform]).trans hT
  have Z := sd_anew X0 (kc := 1) (ks := 6) (by rw [hR3]; omega) (by rw [hR4]; omega)
  obtain ⟨s', hs'⟩ : ∃ z, z = (T.setVm s.vm).setFrames (.invoking m args :: below) := ⟨_, rfl⟩
  rw [← hs'] at Z
  have hvm : s'.vm = s.vm := by rw [hs']; rfl
  have hhp : s'.heap = T.heap := by rw [hs']; rfl
  have hW0 : s.WarmedH s'.vm := by rw [hvm]; exact State.WarmedH.refl s
  have hK' := hK.move hW0 hhp hS
  have hws : ∀ w ∈ Y.2.2.2.2.1, w.before args s' = true := fun w hw => word_at hW0 (hgw w hw).2 (hC.1.2.2.2.2 w hw)
  have h : ∀ w ∈ Bundle.ownAtoms Y.1 ic cls names, w.before args s' = true := by
    intro w hw
    rcases hat w hw with h | h | h | h | h | h
    · exact hws w h
    · exact va_Nw.use (hK'.2.1 w h).2.1 (hK'.2.1 w h).1
    · rw [h]; exact hK'.2.2.2.1.1.ref
    · rw [h]; exact hK'.2.2.2.1.2.ref
    · rw [h]; exact hK'.2.2.2.1.1.lays
    · rw [h]; exact hK'.2.2.2.1.2.lays
  have hown' : s'.vm.findClass Y.1 = some m.cls := by rw [hvm]; exact hC.1.2.2.2.1
  obtain ⟨sa, hsa⟩ := hK'.2.2.1 _ hss
  have hres : W p l e { frames := Y.2.2.2.2.2.1.frames, locals := Y.2.2.2.2.2.1.locals, cells := 1, slots := 6 } s' m args below meth c T.heap [] 0 0 (sd_Z b aF F Q X Y.2.2.2.2.2.2.1 Y.2.2.2.2.2.2.2 below args s) (F0 m pc ls (st.map (sd_v ad))) := by
    refine W.newc hC.1.1 hC.1.2.1 hown' (hws _ hk) (hws _ hins) (hws _ hini) rfl d0 (Nat.le_refl _) (Nat.le_refl _) fun cX kX g1 g2 g3 g4 => ?_
    refine W.eq (g2 := F0 m (pc + 3) ls (.ref T.heap.size :: st.map (sd_v ad))) rfl ?_
    refine lv_dup hC.1.1 hC.1.2.1 d3 rfl ?_
    have fin : W p l e { frames := Y.2.2.2.2.2.1.frames, locals := Y.2.2.2.2.2.1.locals, cells := 1, slots := 6 } s' m args below meth c (T.heap.push { cls := cX, slots := kX.instanceTypes.map defaultValue, vm := .none }) [] (0 + 1) (0 + 6) (sd_Z b aF F Q X Y.2.2.2.2.2.2.1 Y.2.2.2.2.2.2.2 below args s) (F0 m (pc + 4 + wd) ls (.ref sa :: .ref T.heap.size :: .ref T.heap.size :: st.map (sd_v ad))) := by
      intro T2 hT2 X2
      obtain ⟨U, hsteps, hrun, hend, hWm, hsame, ce, hce, hO⟩ := X2.ctorThrowS hC.1.1 htr (own := Y.1) (cls := cls) (names := names) (ic := ic) hown' hcls hnames h (fun x hx => nomatch hx) g1 g2 (a := T.heap.size) (by rw [hT2]; simp) (by rw [hhp]; exact Nat.le_refl _) (msg := .ref sa) rfl
        (g := F0 m (pc + 4 + wd) ls (.ref sa :: .ref T.heap.size :: .ref T.heap.size :: st.map (sd_v ad))) rfl (hl.1.trans hC.1.2.2.1.symm) rfl rfl (rest := st.map (sd_v ad)) rfl (by rw [hC.1.2.1]; exact d6) (by rw [hC.1.2.1]; exact d9) (fun x hx => (hC.2.2.2 x hx).elim) hR1
        (by
          have hcat := sd_cats ad st
          have h1 : (Value.ref T.heap.size).category = 1 := rfl
          show 2 * 0 + ((Value.ref T.heap.size :: st.map (sd_v ad)).map fun v => v.category).sum + (13 * (names.length + 1) + 42) ≤ Y.2.2.2.2.2.1.locals
          simp only [List.map_cons, List.sum_cons, h1, hcat]
          omega) hC.2.1
      obtain ⟨f1, f2⟩ := sd_same0 hsame
      rw [hhp] at f1 f2
      have hcl : s.vm.findClass cls = some ce.cls := by
        have h9 := hO.cls
        rw [hvm] at h9
        exact h9
      have hall : s.sameButNew ({ U with vm := s.vm } : State) locs Y.2.2.2.2.2.2.1 Y.2.2.2.2.2.2.2 := by
        subst hs'
        obtain ⟨e1, e2⟩ := hsame
        rw [State.setFrames_setFrames] at e1
        have h2 : (T.setVm s.vm).sameButNew ({ U with vm := s.vm } : State) [] (0 + 1) (0 + 6) := ⟨e1, e2⟩
        have h3 := X0.same.trans h2
        rw [List.append_nil] at h3
        exact h3.mono (by omega) (by omega)
      refine ⟨U, hsteps, .threw T.heap.size, hrun, hend, Or.inr ⟨T.heap.size, rfl, cls, M, ce, locs, k, hF _ _ (fun j hj => (hH j hj).kept (f2 _ (hH j hj).lt)), hce, hO.vm, hcl, ⟨Nat.le_trans hS.1 f1, fun q h1 h2 => ?_⟩, State.WarmedH.trans hW0 hWm, hall, hS.2.2⟩⟩
      rw [show U.heap[q]? = T.heap[q]? from f2 q (Nat.lt_of_lt_of_le h1 hS.1)]
      exact hS.2.1 q h1 h2
    rcases d4 with ⟨d4, rfl⟩ | ⟨d4, rfl⟩
    · exact va_ldcS hC.1.1 hC.1.2.1 hown' hsa d4 fin
    · intro T2 hT2 X2
      obtain ⟨t, a1, b1⟩ := fin T2 hT2 X2
      exact ⟨t, X2.ldcStringW hC.1.1 hown' (text := text) (a := sa) hsa.1 hsa.2 (g := F0 m (pc + 4) ls (.ref T.heap.size :: .ref T.heap.size :: st.map (sd_v ad))) rfl (by rw [hC.1.2.1]; exact d4) t a1, b1⟩
  exact hres T rfl Z
end
end
section
/-! the words that the four exceptions rest on -/
def sdExN : List String := ["java/lang/RuntimeException", "java/lang/Exception"]
theorem fit_N : ∀ n ∈ sdExN, Bundle.fit n = true := by decide +kernel
def sd_okb (w : Cond) : Bool := decide (w ∈ sdB0) || (decide (w ∈ sdNw) || (decide (w = .isRef (.static Bundle.tN "UNASSIGNED_STACK" Bundle.steD)) || (decide (w = .isRef (.static Bundle.tN "SUPPRESSED_SENTINEL" Bundle.listD)) || (decide (w = .laysStatic Bundle.tN "UNASSIGNED_STACK" Bundle.steD) || decide (w = .laysStatic Bundle.tN "SUPPRESSED_SENTINEL" Bundle.listD)))))
theorem sd_okb_ok {c : Cond} {L : List Cond} (h : L.all sd_okb = true) : ∀ w ∈ L, sd_ok (c :: sdB0) sdNw w := by
  intro w hw
  have h1 := List.all_eq_true.mp h w hw
  simp only [sd_okb, Bool.or_eq_true, decide_eq_true_eq] at h1
  rcases h1 with h1 | h1 | h1 | h1 | h1 | h1
  · exact Or.inl (List.mem_cons_of_mem _ h1)
  · exact Or.inr (Or.inl h1)
  · exact Or.inr (Or.inr (Or.inl h1))
  · exact Or.inr (Or.inr (Or.inr (Or.inl h1)))
  · exact Or.inr (Or.inr (Or.inr (Or.inr (Or.inl h1))))
  · exact Or.inr (Or.inr (Or.inr (Or.inr (Or.inr h1))))
theorem fit_IAE : Bundle.fit "java/lang/IllegalArgumentException" = true := by decide +kernel
set_option maxRecDepth 100000 in
theorem oa_IAE {c : Cond} : ∀ w ∈ Bundle.ownAtoms "SettingsDesk" 95 "java/lang/IllegalArgumentException" sdExN, sd_ok (c :: sdB0) sdNw w := sd_okb_ok (by decide +kernel)
theorem fit_IOB : Bundle.fit "java/lang/IndexOutOfBoundsException" = true := by decide +kernel
set_option maxRecDepth 100000 in
theorem oa_IOB {c : Cond} : ∀ w ∈ Bundle.ownAtoms "SettingsDesk" 210 "java/lang/IndexOutOfBoundsException" sdExN, sd_ok (c :: sdB0) sdNw w := sd_okb_ok (by decide +kernel)
theorem fit_ISE : Bundle.fit "java/lang/IllegalStateException" = true := by decide +kernel
set_option maxRecDepth 100000 in
theorem oa_ISE {c : Cond} : ∀ w ∈ Bundle.ownAtoms "SettingsDesk" 74 "java/lang/IllegalStateException" sdExN, sd_ok (c :: sdB0) sdNw w := sd_okb_ok (by decide +kernel)
theorem fit_UOE : Bundle.fit "java/lang/UnsupportedOperationException" = true := by decide +kernel
set_option maxRecDepth 100000 in
theorem oa_UOE {c : Cond} : ∀ w ∈ Bundle.ownAtoms "SettingsDesk" 185 "java/lang/UnsupportedOperationException" sdExN, sd_ok (c :: sdB0) sdNw w := sd_okb_ok (by decide +kernel)
end
section
abbrev y_S_firstRow : MethodName := ⟨"SettingsDesk$Settings", "firstRow", "(I)I"⟩
theorem d_S_firstRow_0 : decode prog_9_method_4_code 0 = .ok (.iload_n 1, 1) := by decide +kernel
theorem d_S_firstRow_1 : decode prog_9_method_4_code 1 = .ok (.bipush (12), 2) := by decide +kernel
theorem d_S_firstRow_3 : decode prog_9_method_4_code 3 = .ok (.imul, 1) := by decide +kernel
theorem d_S_firstRow_4 : decode prog_9_method_4_code 4 = .ok (.ireturn, 1) := by decide +kernel
def Y_S_firstRow : sdY := ("SettingsDesk$Settings", prog_9_method_4_code, 2, (some .int), .code y_S_firstRow prog_9_method_4_code 2 (some .int) :: sdB0, { frames := 0, cells := 0, slots := 0, locals := 0 }, 0, 0)
section
variable {l : Launch} {D : va_G} {dA : Nat → ClassId} {b n : Nat} {ad : Nat → Nat} {L : Nat → sdL} {sc : Option (Nat × Nat × (Nat → Int32))}
def w_S_firstRow (o : Nat) (M : sdM) (a1 : Int32) (Q : Int32 → sdM → Prop) : Prop := Q (a1 * (12 : Int32)) M
set_option maxHeartbeats 1000000 in
theorem c_S_firstRow {a1 : Int32} {o : Nat} (hA : sd_ad b n ad) (hT : l.stackTraces = false) (ho : isS n L dA o) {Q : Int32 → sdM → Prop} {M : sdM} (hw : w_S_firstRow o M a1 Q) : sd_Cn l (sdE0 sc) y_S_firstRow Y_S_firstRow.2.2.2.2.1 Y_S_firstRow.2.2.2.2.2.1 0 0 D (sd_tys dA) b n ad L M [.ref o, .int a1] (sd_qi Q) sd_xf := by
  refine sd_enter (Y := Y_S_firstRow) rfl rfl rfl (Nat.le_of_ble_eq_true rfl) ?_
  show sdW l (sdE0 sc) Y_S_firstRow D (sd_tys dA) b n ad L ad (sd_H D (sdE0 sc).1 n ad L) (sd_qi Q) sd_xf 0 [(0, .ref o), (1, .int a1)] [] M 0 0
  unfold w_S_firstRow at hw
  refine x_iload_n 1 1 d_S_firstRow_0 rfl rfl ?_
  refine x_bipush (v := 12) d_S_firstRow_1 (by decide) ?_
  refine x_imul d_S_firstRow_3 ?_
  exact x_iret d_S_firstRow_4 rfl (fun _ h => h) ⟨_, rfl, hw⟩
end
theorem q0 : (.fieldLink "SettingsDesk$Settings" 9 "SettingsDesk$Settings" "counts" "[I" : Cond) ∈ sdB0 := sd_tb1 137 rfl rfl
abbrev y_S_endRow : MethodName := ⟨"SettingsDesk$Settings", "endRow", "(I)I"⟩
theorem d_S_endRow_0 : decode prog_9_method_5_code 0 = .ok (.iload_n 1, 1) := by decide +kernel
theorem d_S_endRow_1 : decode prog_9_method_5_code 1 = .ok (.bipush (12), 2) := by decide +kernel
theorem d_S_endRow_3 : decode prog_9_method_5_code 3 = .ok (.imul, 1) := by decide +kernel
theorem d_S_endRow_4 : decode prog_9_method_5_code 4 = .ok (.aload_n 0, 1) := by decide +kernel
theorem d_S_endRow_5 : decode prog_9_method_5_code 5 = .ok (.getfield 9, 3) := by decide +kernel
theorem d_S_endRow_8 : decode prog_9_method_5_code 8 = .ok (.iload_n 1, 1) := by decide +kernel
theorem d_S_endRow_9 : decode prog_9_method_5_code 9 = .ok (.iaload, 1) := by decide +kernel
theorem d_S_endRow_10 : decode prog_9_method_5_code 10 = .ok (.iadd, 1) := by decide +kernel
theorem d_S_endRow_11 : decode prog_9_method_5_code 11 = .ok (.ireturn, 1) := by decide +kernel
def Y_S_endRow : sdY := ("SettingsDesk$Settings", prog_9_method_5_code, 2, (some .int), .code y_S_endRow prog_9_method_5_code 2 (some .int) :: sdB0, { frames := 0, cells := 0, slots := 0, locals := 0 }, 0, 0)
section
variable {l : Launch} {D : va_G} {dA : Nat → ClassId} {b n : Nat} {ad : Nat → Nat} {L : Nat → sdL} {sc : Option (Nat × Nat × (Nat → Int32))}
def w_S_endRow (o : Nat) (M : sdM) (a1 : Int32) (Q : Int32 → sdM → Prop) : Prop := vp_in a1 4 ∧ Q ((a1 * (12 : Int32)) + (M (o + 1) a1.toNatClampNeg)) M
set_option maxHeartbeats 1000000 in
theorem c_S_endRow {a1 : Int32} {o : Nat} (hA : sd_ad b n ad) (hT : l.stackTraces = false) (ho : isS n L dA o) {Q : Int32 → sdM → Prop} {M : sdM} (hw : w_S_endRow o M a1 Q) : sd_Cn l (sdE0 sc) y_S_endRow Y_S_endRow.2.2.2.2.1 Y_S_endRow.2.2.2.2.2.1 0 0 D (sd_tys dA) b n ad L M [.ref o, .int a1] (sd_qi Q) sd_xf := by
  refine sd_enter (Y := Y_S_endRow) rfl rfl rfl (Nat.le_of_ble_eq_true rfl) ?_
  show sdW l (sdE0 sc) Y_S_endRow D (sd_tys dA) b n ad L ad (sd_H D (sdE0 sc).1 n ad L) (sd_qi Q) sd_xf 0 [(0, .ref o), (1, .int a1)] [] M 0 0
  unfold w_S_endRow at hw
  refine x_iload_n 1 1 d_S_endRow_0 rfl rfl ?_
  refine x_bipush (v := 12) d_S_endRow_1 (by decide) ?_
  refine x_imul d_S_endRow_3 ?_
  refine x_aload_n 0 0 d_S_endRow_4 rfl rfl ?_
  refine x_getr 0 (o + 1) d_S_endRow_5 ho.1 ho.2.1 rfl rfl (by decide) lay_S (List.mem_cons_of_mem _ q0) rfl ?_
  refine x_iload_n 1 1 d_S_endRow_8 rfl rfl ?_
  obtain ⟨hi2, hw⟩ := hw
  refine x_iald d_S_endRow_9 ho.counts.1 ho.counts.2 rfl hi2 ?_
  refine x_iadd d_S_endRow_10 ?_
  exact x_iret d_S_endRow_11 rfl (fun _ h => h) ⟨_, rfl, hw⟩
end
theorem q1 : (.fieldLink "SettingsDesk$Settings" 21 "SettingsDesk$Settings" "given" "[I" : Cond) ∈ sdB0 := sd_tb1 143 rfl rfl
abbrev y_S_isGiven : MethodName := ⟨"SettingsDesk$Settings", "isGiven", "(II)Z"⟩
theorem d_S_isGiven_0 : decode prog_9_method_16_code 0 = .ok (.iload_n 1, 1) := by decide +kernel
theorem d_S_isGiven_1 : decode prog_9_method_16_code 1 = .ok (.iconst (-1), 1) := by decide +kernel
theorem d_S_isGiven_2 : decode prog_9_method_16_code 2 = .ok (.if_icmp .eq (20), 3) := by decide +kernel
theorem d_S_isGiven_5 : decode prog_9_method_16_code 5 = .ok (.aload_n 0, 1) := by decide +kernel
theorem d_S_isGiven_6 : decode prog_9_method_16_code 6 = .ok (.getfield 21, 3) := by decide +kernel
theorem d_S_isGiven_9 : decode prog_9_method_16_code 9 = .ok (.iload_n 1, 1) := by decide +kernel
theorem d_S_isGiven_10 : decode prog_9_method_16_code 10 = .ok (.iaload, 1) := by decide +kernel
theorem d_S_isGiven_11 : decode prog_9_method_16_code 11 = .ok (.iconst 1, 1) := by decide +kernel
theorem d_S_isGiven_12 : decode prog_9_method_16_code 12 = .ok (.iload_n 2, 1) := by decide +kernel
theorem d_S_isGiven_13 : decode prog_9_method_16_code 13 = .ok (.ishl, 1) := by decide +kernel
theorem d_S_isGiven_14 : decode prog_9_method_16_code 14 = .ok (.iand, 1) := by decide +kernel
theorem d_S_isGiven_15 : decode prog_9_method_16_code 15 = .ok (.ifCond .eq (7), 3) := by decide +kernel
theorem d_S_isGiven_18 : decode prog_9_method_16_code 18 = .ok (.iconst 1, 1) := by decide +kernel
theorem d_S_isGiven_19 : decode prog_9_method_16_code 19 = .ok (.goto (4), 3) := by decide +kernel
theorem d_S_isGiven_22 : decode prog_9_method_16_code 22 = .ok (.iconst 0, 1) := by decide +kernel
theorem d_S_isGiven_23 : decode prog_9_method_16_code 23 = .ok (.ireturn, 1) := by decide +kernel
def Y_S_isGiven : sdY := ("SettingsDesk$Settings", prog_9_method_16_code, 3, (some .boolean), .code y_S_isGiven prog_9_method_16_code 3 (some .boolean) :: sdB0, { frames := 0, cells := 0, slots := 0, locals := 0 }, 0, 0)
section
variable {l : Launch} {D : va_G} {dA : Nat → ClassId} {b n : Nat} {ad : Nat → Nat} {L : Nat → sdL} {sc : Option (Nat × Nat × (Nat → Int32))}
def k_S_isGiven_23 (o : Nat) (Q : Int32 → sdM → Prop) (M : sdM) (s0 : Int32) : Prop := sdB s0 ∧ Q s0 M
set_option maxHeartbeats 1000000 in
theorem t_S_isGiven_23 {o : Nat} (hA : sd_ad b n ad) (hT : l.stackTraces = false) (ho : isS n L dA o) {Q : Int32 → sdM → Prop} (M : sdM) (s0 : Int32) (hw : k_S_isGiven_23 o Q M s0) : sdW l (sdE0 sc) Y_S_isGiven D (sd_tys dA) b n ad L ad (sd_H D (sdE0 sc).1 n ad L) (sd_qi Q) sd_xf 23 [] [.int s0] M 0 0 := by
  unfold k_S_isGiven_23 at hw
  exact x_zret d_S_isGiven_23 rfl (sdB_n hw.1) (fun _ h => h) ⟨_, rfl, hw.2⟩
def k_S_isGiven_22 (o : Nat) (Q : Int32 → sdM → Prop) (M : sdM) : Prop := k_S_isGiven_23 o Q M (0 : Int32)
set_option maxHeartbeats 1000000 in
theorem t_S_isGiven_22 {o : Nat} (hA : sd_ad b n ad) (hT : l.stackTraces = false) (ho : isS n L dA o) {Q : Int32 → sdM → Prop} (M : sdM) (hw : k_S_isGiven_22 o Q M ) : sdW l (sdE0 sc) Y_S_isGiven D (sd_tys dA) b n ad L ad (sd_H D (sdE0 sc).1 n ad L) (sd_qi Q) sd_xf 22 [] [] M 0 0 := by
  unfold k_S_isGiven_22 at hw
  refine x_iconst (v := 0) d_S_isGiven_22 (by decide) ?_
  exact t_S_isGiven_23 hA hT ho M (0 : Int32) hw
def w_S_isGiven (o : Nat) (M : sdM) (a1 : Int32) (a2 : Int32) (Q : Int32 → sdM → Prop) : Prop := (a1 = (-1 : Int32) → k_S_isGiven_22 o Q M) ∧ (¬ a1 = (-1 : Int32) → vp_in a1 48 ∧ (((M (o + 4) a1.toNatClampNeg) &&& ((1 : Int32) <<< (a2 &&& 31))) = 0 → k_S_isGiven_22 o Q M) ∧ (¬ ((M (o + 4) a1.toNatClampNeg) &&& ((1 : Int32) <<< (a2 &&& 31))) = 0 → k_S_isGiven_23 o Q M (1 : Int32)))
set_option maxHeartbeats 1000000 in
theorem c_S_isGiven {a1 : Int32} {a2 : Int32} {o : Nat} (hA : sd_ad b n ad) (hT : l.stackTraces = false) (ho : isS n L dA o) {Q : Int32 → sdM → Prop} {M : sdM} (hw : w_S_isGiven o M a1 a2 Q) : sd_Cn l (sdE0 sc) y_S_isGiven Y_S_isGiven.2.2.2.2.1 Y_S_isGiven.2.2.2.2.2.1 0 0 D (sd_tys dA) b n ad L M [.ref o, .int a1, .int a2] (sd_qi Q) sd_xf := by
  refine sd_enter (Y := Y_S_isGiven) rfl rfl rfl (Nat.le_of_ble_eq_true rfl) ?_
  show sdW l (sdE0 sc) Y_S_isGiven D (sd_tys dA) b n ad L ad (sd_H D (sdE0 sc).1 n ad L) (sd_qi Q) sd_xf 0 [(0, .ref o), (1, .int a1), (2, .int a2)] [] M 0 0
  unfold w_S_isGiven at hw
  refine x_iload_n 1 1 d_S_isGiven_0 rfl rfl ?_
  refine x_iconst (v := (-1)) d_S_isGiven_1 (by decide) ?_
  refine x_icmp_eq 22 d_S_isGiven_2 rfl (fun hc => ?_) (fun hc => ?_)
  · have hw := hw.1 hc
    refine x_sub [] [] rfl ?_
    exact t_S_isGiven_22 hA hT ho M hw
  · have hw := hw.2 hc
    refine x_aload_n 0 0 d_S_isGiven_5 rfl rfl ?_
    refine x_getr 3 (o + 4) d_S_isGiven_6 ho.1 ho.2.1 rfl rfl (by decide) lay_S (List.mem_cons_of_mem _ q1) rfl ?_
    refine x_iload_n 1 1 d_S_isGiven_9 rfl rfl ?_
    obtain ⟨hi2, hw⟩ := hw
    refine x_iald d_S_isGiven_10 ho.given.1 ho.given.2 rfl hi2 ?_
    refine x_iconst (v := 1) d_S_isGiven_11 (by decide) ?_
    refine x_iload_n 2 2 d_S_isGiven_12 rfl rfl ?_
    refine x_ishl d_S_isGiven_13 ?_
    refine x_iand d_S_isGiven_14 ?_
    refine x_if_eq 22 d_S_isGiven_15 rfl (fun hc => ?_) (fun hc => ?_)
    · have hw := hw.1 hc
      refine x_sub [] [] rfl ?_
      exact t_S_isGiven_22 hA hT ho M hw
    · have hw := hw.2 hc
      refine x_iconst (v := 1) d_S_isGiven_18 (by decide) ?_
      refine x_goto 23 d_S_isGiven_19 rfl ?_
      refine x_sub [] [] rfl ?_
      exact t_S_isGiven_23 hA hT ho M (1 : Int32) hw
end
theorem q2 : (.fieldLink "SettingsDesk$Settings" 18 "SettingsDesk$Settings" "values" "[I" : Cond) ∈ sdB0 := sd_tb1 142 rfl rfl
abbrev y_S_valueAt : MethodName := ⟨"SettingsDesk$Settings", "valueAt", "(II)I"⟩
theorem d_S_valueAt_0 : decode prog_9_method_17_code 0 = .ok (.iload_n 1, 1) := by decide +kernel
theorem d_S_valueAt_1 : decode prog_9_method_17_code 1 = .ok (.iconst (-1), 1) := by decide +kernel
theorem d_S_valueAt_2 : decode prog_9_method_17_code 2 = .ok (.if_icmp .ne (7), 3) := by decide +kernel
theorem d_S_valueAt_5 : decode prog_9_method_17_code 5 = .ok (.iconst 0, 1) := by decide +kernel
theorem d_S_valueAt_6 : decode prog_9_method_17_code 6 = .ok (.goto (13), 3) := by decide +kernel
theorem d_S_valueAt_9 : decode prog_9_method_17_code 9 = .ok (.aload_n 0, 1) := by decide +kernel
theorem d_S_valueAt_10 : decode prog_9_method_17_code 10 = .ok (.getfield 18, 3) := by decide +kernel
theorem d_S_valueAt_13 : decode prog_9_method_17_code 13 = .ok (.iload_n 1, 1) := by decide +kernel
theorem d_S_valueAt_14 : decode prog_9_method_17_code 14 = .ok (.iconst 4, 1) := by decide +kernel
theorem d_S_valueAt_15 : decode prog_9_method_17_code 15 = .ok (.imul, 1) := by decide +kernel
theorem d_S_valueAt_16 : decode prog_9_method_17_code 16 = .ok (.iload_n 2, 1) := by decide +kernel
theorem d_S_valueAt_17 : decode prog_9_method_17_code 17 = .ok (.iadd, 1) := by decide +kernel
theorem d_S_valueAt_18 : decode prog_9_method_17_code 18 = .ok (.iaload, 1) := by decide +kernel
theorem d_S_valueAt_19 : decode prog_9_method_17_code 19 = .ok (.ireturn, 1) := by decide +kernel
def Y_S_valueAt : sdY := ("SettingsDesk$Settings", prog_9_method_17_code, 3, (some .int), .code y_S_valueAt prog_9_method_17_code 3 (some .int) :: sdB0, { frames := 0, cells := 0, slots := 0, locals := 0 }, 0, 0)
section
variable {l : Launch} {D : va_G} {dA : Nat → ClassId} {b n : Nat} {ad : Nat → Nat} {L : Nat → sdL} {sc : Option (Nat × Nat × (Nat → Int32))}
def k_S_valueAt_19 (o : Nat) (Q : Int32 → sdM → Prop) (M : sdM) (s0 : Int32) : Prop := Q s0 M
set_option maxHeartbeats 1000000 in
theorem t_S_valueAt_19 {o : Nat} (hA : sd_ad b n ad) (hT : l.stackTraces = false) (ho : isS n L dA o) {Q : Int32 → sdM → Prop} (M : sdM) (s0 : Int32) (hw : k_S_valueAt_19 o Q M s0) : sdW l (sdE0 sc) Y_S_valueAt D (sd_tys dA) b n ad L ad (sd_H D (sdE0 sc).1 n ad L) (sd_qi Q) sd_xf 19 [] [.int s0] M 0 0 := by
  unfold k_S_valueAt_19 at hw
  exact x_iret d_S_valueAt_19 rfl (fun _ h => h) ⟨_, rfl, hw⟩
def w_S_valueAt (o : Nat) (M : sdM) (a1 : Int32) (a2 : Int32) (Q : Int32 → sdM → Prop) : Prop := (¬ a1 = (-1 : Int32) → vp_in ((a1 * (4 : Int32)) + a2) 192 ∧ k_S_valueAt_19 o Q M (M (o + 3) ((a1 * (4 : Int32)) + a2).toNatClampNeg)) ∧ (a1 = (-1 : Int32) → k_S_valueAt_19 o Q M (0 : Int32))
set_option maxHeartbeats 1000000 in
theorem c_S_valueAt {a1 : Int32} {a2 : Int32} {o : Nat} (hA : sd_ad b n ad) (hT : l.stackTraces = false) (ho : isS n L dA o) {Q : Int32 → sdM → Prop} {M : sdM} (hw : w_S_valueAt o M a1 a2 Q) : sd_Cn l (sdE0 sc) y_S_valueAt Y_S_valueAt.2.2.2.2.1 Y_S_valueAt.2.2.2.2.2.1 0 0 D (sd_tys dA) b n ad L M [.ref o, .int a1, .int a2] (sd_qi Q) sd_xf := by
  refine sd_enter (Y := Y_S_valueAt) rfl rfl rfl (Nat.le_of_ble_eq_true rfl) ?_
  show sdW l (sdE0 sc) Y_S_valueAt D (sd_tys dA) b n ad L ad (sd_H D (sdE0 sc).1 n ad L) (sd_qi Q) sd_xf 0 [(0, .ref o), (1, .int a1), (2, .int a2)] [] M 0 0
  unfold w_S_valueAt at hw
  refine x_iload_n 1 1 d_S_valueAt_0 rfl rfl ?_
  refine x_iconst (v := (-1)) d_S_valueAt_1 (by decide) ?_
  refine x_icmp_ne 9 d_S_valueAt_2 rfl (fun hc => ?_) (fun hc => ?_)
  · have hw := hw.1 hc
    refine x_aload_n 0 0 d_S_valueAt_9 rfl rfl ?_
    refine x_getr 2 (o + 3) d_S_valueAt_10 ho.1 ho.2.1 rfl rfl (by decide) lay_S (List.mem_cons_of_mem _ q2) rfl ?_
    refine x_iload_n 1 1 d_S_valueAt_13 rfl rfl ?_
    refine x_iconst (v := 4) d_S_valueAt_14 (by decide) ?_
    refine x_imul d_S_valueAt_15 ?_
    refine x_iload_n 2 2 d_S_valueAt_16 rfl rfl ?_
    refine x_iadd d_S_valueAt_17 ?_
    obtain ⟨hi2, hw⟩ := hw
    refine x_iald d_S_valueAt_18 ho.values.1 ho.values.2 rfl hi2 ?_
    refine x_sub [] [] rfl ?_
    exact t_S_valueAt_19 hA hT ho M (M (o + 3) ((a1 * (4 : Int32)) + a2).toNatClampNeg) hw
  · have hw := hw.2 hc
    refine x_iconst (v := 0) d_S_valueAt_5 (by decide) ?_
    refine x_goto 19 d_S_valueAt_6 rfl ?_
    refine x_sub [] [] rfl ?_
    exact t_S_valueAt_19 hA hT ho M (0 : Int32) hw
end
theorem q3 : (.methodLink "SettingsDesk$Settings" 59 ⟨"SettingsDesk$Settings", "isGiven", "(II)Z"⟩ : Cond) ∈ sdB0 := sd_tb2 29 rfl rfl
theorem q4 : (.code ⟨"SettingsDesk$Settings", "isGiven", "(II)Z"⟩ prog_9_method_16_code 3 (some .boolean) : Cond) ∈ sdB0 := sd_tb2 32 rfl rfl
theorem q5 : (.instanceMethod ⟨"SettingsDesk$Settings", "isGiven", "(II)Z"⟩ : Cond) ∈ sdB0 := sd_tb2 30 rfl rfl
theorem q6 : (.selects "SettingsDesk$Settings" ⟨"SettingsDesk$Settings", "isGiven", "(II)Z"⟩ ⟨"SettingsDesk$Settings", "isGiven", "(II)Z"⟩ : Cond) ∈ sdB0 := sd_tb2 31 rfl rfl
theorem q7 : (.initialized "SettingsDesk$Settings" : Cond) ∈ sdB0 := sd_tb1 5 rfl rfl
theorem q8 : (.methodLink "SettingsDesk$Settings" 63 ⟨"SettingsDesk$Settings", "valueAt", "(II)I"⟩ : Cond) ∈ sdB0 := sd_tb2 33 rfl rfl
theorem q9 : (.code ⟨"SettingsDesk$Settings", "valueAt", "(II)I"⟩ prog_9_method_17_code 3 (some .int) : Cond) ∈ sdB0 := sd_tb2 36 rfl rfl
theorem q10 : (.instanceMethod ⟨"SettingsDesk$Settings", "valueAt", "(II)I"⟩ : Cond) ∈ sdB0 := sd_tb2 34 rfl rfl
theorem q11 : (.selects "SettingsDesk$Settings" ⟨"SettingsDesk$Settings", "valueAt", "(II)I"⟩ ⟨"SettingsDesk$Settings", "valueAt", "(II)I"⟩ : Cond) ∈ sdB0 := sd_tb2 35 rfl rfl
abbrev y_S_sameLeaf : MethodName := ⟨"SettingsDesk$Settings", "sameLeaf", "(IILSettingsDesk$Settings;I)Z"⟩
theorem d_S_sameLeaf_0 : decode prog_9_method_20_code 0 = .ok (.aload_n 0, 1) := by decide +kernel
theorem d_S_sameLeaf_1 : decode prog_9_method_20_code 1 = .ok (.iload_n 1, 1) := by decide +kernel
theorem d_S_sameLeaf_2 : decode prog_9_method_20_code 2 = .ok (.iload_n 2, 1) := by decide +kernel
theorem d_S_sameLeaf_3 : decode prog_9_method_20_code 3 = .ok (.invokevirtual 59, 3) := by decide +kernel
theorem d_S_sameLeaf_6 : decode prog_9_method_20_code 6 = .ok (.aload_n 3, 1) := by decide +kernel
theorem d_S_sameLeaf_7 : decode prog_9_method_20_code 7 = .ok (.iload 4, 2) := by decide +kernel
theorem d_S_sameLeaf_9 : decode prog_9_method_20_code 9 = .ok (.iload_n 2, 1) := by decide +kernel
theorem d_S_sameLeaf_10 : decode prog_9_method_20_code 10 = .ok (.invokevirtual 59, 3) := by decide +kernel
theorem d_S_sameLeaf_13 : decode prog_9_method_20_code 13 = .ok (.if_icmp .ne (23), 3) := by decide +kernel
theorem d_S_sameLeaf_16 : decode prog_9_method_20_code 16 = .ok (.aload_n 0, 1) := by decide +kernel
theorem d_S_sameLeaf_17 : decode prog_9_method_20_code 17 = .ok (.iload_n 1, 1) := by decide +kernel
theorem d_S_sameLeaf_18 : decode prog_9_method_20_code 18 = .ok (.iload_n 2, 1) := by decide +kernel
theorem d_S_sameLeaf_19 : decode prog_9_method_20_code 19 = .ok (.invokevirtual 63, 3) := by decide +kernel
theorem d_S_sameLeaf_22 : decode prog_9_method_20_code 22 = .ok (.aload_n 3, 1) := by decide +kernel
theorem d_S_sameLeaf_23 : decode prog_9_method_20_code 23 = .ok (.iload 4, 2) := by decide +kernel
theorem d_S_sameLeaf_25 : decode prog_9_method_20_code 25 = .ok (.iload_n 2, 1) := by decide +kernel
theorem d_S_sameLeaf_26 : decode prog_9_method_20_code 26 = .ok (.invokevirtual 63, 3) := by decide +kernel
theorem d_S_sameLeaf_29 : decode prog_9_method_20_code 29 = .ok (.if_icmp .ne (7), 3) := by decide +kernel
theorem d_S_sameLeaf_32 : decode prog_9_method_20_code 32 = .ok (.iconst 1, 1) := by decide +kernel
theorem d_S_sameLeaf_33 : decode prog_9_method_20_code 33 = .ok (.goto (4), 3) := by decide +kernel
theorem d_S_sameLeaf_36 : decode prog_9_method_20_code 36 = .ok (.iconst 0, 1) := by decide +kernel
theorem d_S_sameLeaf_37 : decode prog_9_method_20_code 37 = .ok (.ireturn, 1) := by decide +kernel
def Y_S_sameLeaf : sdY := ("SettingsDesk$Settings", prog_9_method_20_code, 5, (some .boolean), .code y_S_sameLeaf prog_9_method_20_code 5 (some .boolean) :: sdB0, { frames := 1, cells := 0, slots := 0, locals := 22 }, 0, 0)
theorem cw_S_sameLeaf_S_isGiven_59 : sd_cwV Y_S_sameLeaf Y_S_isGiven y_S_isGiven 59 2 "SettingsDesk$Settings" := ⟨sd_goodV q3 q5 q6 q7 q4, ⟨_, rfl⟩, ⟨rfl, rfl, rfl, rfl⟩, ⟨rfl, by decide, by decide, by decide +kernel⟩, ⟨by decide, by decide⟩⟩
theorem cw_S_sameLeaf_S_valueAt_63 : sd_cwV Y_S_sameLeaf Y_S_valueAt y_S_valueAt 63 2 "SettingsDesk$Settings" := ⟨sd_goodV q8 q10 q11 q7 q9, ⟨_, rfl⟩, ⟨rfl, rfl, rfl, rfl⟩, ⟨rfl, by decide, by decide, by decide +kernel⟩, ⟨by decide, by decide⟩⟩
section
variable {l : Launch} {D : va_G} {dA : Nat → ClassId} {b n : Nat} {ad : Nat → Nat} {L : Nat → sdL} {sc : Option (Nat × Nat × (Nat → Int32))}
def k_S_sameLeaf_37 (o : Nat) (Q : Int32 → sdM → Prop) (M : sdM) (s0 : Int32) : Prop := sdB s0 ∧ Q s0 M
set_option maxHeartbeats 1000000 in
theorem t_S_sameLeaf_37 {o : Nat} (hA : sd_ad b n ad) (hT : l.stackTraces = false) (ho : isS n L dA o) {Q : Int32 → sdM → Prop} (M : sdM) (s0 : Int32) (hw : k_S_sameLeaf_37 o Q M s0) : sdW l (sdE0 sc) Y_S_sameLeaf D (sd_tys dA) b n ad L ad (sd_H D (sdE0 sc).1 n ad L) (sd_qi Q) sd_xf 37 [] [.int s0] M 0 0 := by
  unfold k_S_sameLeaf_37 at hw
  exact x_zret d_S_sameLeaf_37 rfl (sdB_n hw.1) (fun _ h => h) ⟨_, rfl, hw.2⟩
def k_S_sameLeaf_36 (o : Nat) (Q : Int32 → sdM → Prop) (M : sdM) : Prop := k_S_sameLeaf_37 o Q M (0 : Int32)
set_option maxHeartbeats 1000000 in
theorem t_S_sameLeaf_36 {o : Nat} (hA : sd_ad b n ad) (hT : l.stackTraces = false) (ho : isS n L dA o) {Q : Int32 → sdM → Prop} (M : sdM) (hw : k_S_sameLeaf_36 o Q M ) : sdW l (sdE0 sc) Y_S_sameLeaf D (sd_tys dA) b n ad L ad (sd_H D (sdE0 sc).1 n ad L) (sd_qi Q) sd_xf 36 [] [] M 0 0 := by
  unfold k_S_sameLeaf_36 at hw
  refine x_iconst (v := 0) d_S_sameLeaf_36 (by decide) ?_
  exact t_S_sameLeaf_37 hA hT ho M (0 : Int32) hw
def w_S_sameLeaf (o : Nat) (M : sdM) (a1 : Int32) (a2 : Int32) (p3 : Nat) (a4 : Int32) (Q : Int32 → sdM → Prop) : Prop := w_S_isGiven o M a1 a2 (fun r10 M9 => w_S_isGiven p3 M9 a4 a2 (fun r12 M11 => (¬ r10 = r12 → k_S_sameLeaf_36 o Q M11) ∧ (r10 = r12 → w_S_valueAt o M11 a1 a2 (fun r14 M13 => w_S_valueAt p3 M13 a4 a2 (fun r16 M15 => (¬ r14 = r16 → k_S_sameLeaf_36 o Q M15) ∧ (r14 = r16 → k_S_sameLeaf_37 o Q M15 (1 : Int32)))))))
set_option maxHeartbeats 1000000 in
theorem c_S_sameLeaf {a1 : Int32} {a2 : Int32} {p3 : Nat} {a4 : Int32} {o : Nat} (hA : sd_ad b n ad) (hT : l.stackTraces = false) (ho : isS n L dA o) (hp3 : isS n L dA p3) {Q : Int32 → sdM → Prop} {M : sdM} (hw : w_S_sameLeaf o M a1 a2 p3 a4 Q) : sd_Cn l (sdE0 sc) y_S_sameLeaf Y_S_sameLeaf.2.2.2.2.1 Y_S_sameLeaf.2.2.2.2.2.1 0 0 D (sd_tys dA) b n ad L M [.ref o, .int a1, .int a2, .ref p3, .int a4] (sd_qi Q) sd_xf := by
  refine sd_enter (Y := Y_S_sameLeaf) rfl rfl rfl (Nat.le_of_ble_eq_true rfl) ?_
  show sdW l (sdE0 sc) Y_S_sameLeaf D (sd_tys dA) b n ad L ad (sd_H D (sdE0 sc).1 n ad L) (sd_qi Q) sd_xf 0 [(0, .ref o), (1, .int a1), (2, .int a2), (3, .ref p3), (4, .int a4)] [] M 0 0
  unfold w_S_sameLeaf at hw
  refine x_aload_n 0 0 d_S_sameLeaf_0 rfl rfl ?_
  refine x_iload_n 1 1 d_S_sameLeaf_1 rfl rfl ?_
  refine x_iload_n 2 2 d_S_sameLeaf_2 rfl rfl ?_
  refine x_callVi (As := [.int a1, .int a2]) (t := o) (rest := []) (rc := 0) (rs := 0) (c_S_isGiven hA hT ho hw) cw_S_sameLeaf_S_isGiven_59 ho.1 ho.2.1 rfl d_S_sameLeaf_3 rfl rfl (Nat.le_of_ble_eq_true rfl) (fun _ _ h => h.elim) (fun _ _ h => h) (fun r10 M9 hw => ?_)
  refine x_aload_n 3 3 d_S_sameLeaf_6 rfl rfl ?_
  refine x_iload 4 4 d_S_sameLeaf_7 rfl ?_
  refine x_iload_n 2 2 d_S_sameLeaf_9 rfl rfl ?_
  refine x_callVi (As := [.int a4, .int a2]) (t := p3) (rest := [.int r10]) (rc := 0) (rs := 0) (c_S_isGiven hA hT hp3 hw) cw_S_sameLeaf_S_isGiven_59 hp3.1 hp3.2.1 rfl d_S_sameLeaf_10 rfl rfl (Nat.le_of_ble_eq_true rfl) (fun _ _ h => h.elim) (fun _ _ h => h) (fun r12 M11 hw => ?_)
  refine x_icmp_ne 36 d_S_sameLeaf_13 rfl (fun hc => ?_) (fun hc => ?_)
  · have hw := hw.1 hc
    refine x_sub [] [] rfl ?_
    exact t_S_sameLeaf_36 hA hT ho M11 hw
  · have hw := hw.2 hc
    refine x_aload_n 0 0 d_S_sameLeaf_16 rfl rfl ?_
    refine x_iload_n 1 1 d_S_sameLeaf_17 rfl rfl ?_
    refine x_iload_n 2 2 d_S_sameLeaf_18 rfl rfl ?_
    refine x_callVi (As := [.int a1, .int a2]) (t := o) (rest := []) (rc := 0) (rs := 0) (c_S_valueAt hA hT ho hw) cw_S_sameLeaf_S_valueAt_63 ho.1 ho.2.1 rfl d_S_sameLeaf_19 rfl rfl (Nat.le_of_ble_eq_true rfl) (fun _ _ h => h.elim) (fun _ _ h => h) (fun r14 M13 hw => ?_)
    refine x_aload_n 3 3 d_S_sameLeaf_22 rfl rfl ?_
    refine x_iload 4 4 d_S_sameLeaf_23 rfl ?_
    refine x_iload_n 2 2 d_S_sameLeaf_25 rfl rfl ?_
    refine x_callVi (As := [.int a4, .int a2]) (t := p3) (rest := [.int r14]) (rc := 0) (rs := 0) (c_S_valueAt hA hT hp3 hw) cw_S_sameLeaf_S_valueAt_63 hp3.1 hp3.2.1 rfl d_S_sameLeaf_26 rfl rfl (Nat.le_of_ble_eq_true rfl) (fun _ _ h => h.elim) (fun _ _ h => h) (fun r16 M15 hw => ?_)
    refine x_icmp_ne 36 d_S_sameLeaf_29 rfl (fun hc => ?_) (fun hc => ?_)
    · have hw := hw.1 hc
      refine x_sub [] [] rfl ?_
      exact t_S_sameLeaf_36 hA hT ho M15 hw
    · have hw := hw.2 hc
      refine x_iconst (v := 1) d_S_sameLeaf_32 (by decide) ?_
      refine x_goto 37 d_S_sameLeaf_33 rfl ?_
      refine x_sub [] [] rfl ?_
      exact t_S_sameLeaf_37 hA hT ho M15 (1 : Int32) hw
end
theorem q12 : (.methodLink "SettingsDesk$Settings" 80 ⟨"SettingsDesk$Settings", "sameLeaf", "(IILSettingsDesk$Settings;I)Z"⟩ : Cond) ∈ sdB0 := sd_tb2 25 rfl rfl
theorem q13 : (.code ⟨"SettingsDesk$Settings", "sameLeaf", "(IILSettingsDesk$Settings;I)Z"⟩ prog_9_method_20_code 5 (some .boolean) : Cond) ∈ sdB0 := sd_tb2 28 rfl rfl
theorem q14 : (.instanceMethod ⟨"SettingsDesk$Settings", "sameLeaf", "(IILSettingsDesk$Settings;I)Z"⟩ : Cond) ∈ sdB0 := sd_tb2 26 rfl rfl
theorem q15 : (.selects "SettingsDesk$Settings" ⟨"SettingsDesk$Settings", "sameLeaf", "(IILSettingsDesk$Settings;I)Z"⟩ ⟨"SettingsDesk$Settings", "sameLeaf", "(IILSettingsDesk$Settings;I)Z"⟩ : Cond) ∈ sdB0 := sd_tb2 27 rfl rfl
abbrev y_S_sameEntry : MethodName := ⟨"SettingsDesk$Settings", "sameEntry", "(ILSettingsDesk$Settings;I)Z"⟩
theorem d_S_sameEntry_0 : decode prog_9_method_21_code 0 = .ok (.iload_n 1, 1) := by decide +kernel
theorem d_S_sameEntry_1 : decode prog_9_method_21_code 1 = .ok (.iconst (-1), 1) := by decide +kernel
theorem d_S_sameEntry_2 : decode prog_9_method_21_code 2 = .ok (.if_icmp .eq (8), 3) := by decide +kernel
theorem d_S_sameEntry_5 : decode prog_9_method_21_code 5 = .ok (.iload_n 3, 1) := by decide +kernel
theorem d_S_sameEntry_6 : decode prog_9_method_21_code 6 = .ok (.iconst (-1), 1) := by decide +kernel
theorem d_S_sameEntry_7 : decode prog_9_method_21_code 7 = .ok (.if_icmp .ne (14), 3) := by decide +kernel
theorem d_S_sameEntry_10 : decode prog_9_method_21_code 10 = .ok (.iload_n 1, 1) := by decide +kernel
theorem d_S_sameEntry_11 : decode prog_9_method_21_code 11 = .ok (.iload_n 3, 1) := by decide +kernel
theorem d_S_sameEntry_12 : decode prog_9_method_21_code 12 = .ok (.if_icmp .ne (7), 3) := by decide +kernel
theorem d_S_sameEntry_15 : decode prog_9_method_21_code 15 = .ok (.iconst 1, 1) := by decide +kernel
theorem d_S_sameEntry_16 : decode prog_9_method_21_code 16 = .ok (.goto (4), 3) := by decide +kernel
theorem d_S_sameEntry_19 : decode prog_9_method_21_code 19 = .ok (.iconst 0, 1) := by decide +kernel
theorem d_S_sameEntry_20 : decode prog_9_method_21_code 20 = .ok (.ireturn, 1) := by decide +kernel
theorem d_S_sameEntry_21 : decode prog_9_method_21_code 21 = .ok (.iconst 0, 1) := by decide +kernel
theorem d_S_sameEntry_22 : decode prog_9_method_21_code 22 = .ok (.istore 4, 2) := by decide +kernel
theorem d_S_sameEntry_24 : decode prog_9_method_21_code 24 = .ok (.iload 4, 2) := by decide +kernel
theorem d_S_sameEntry_26 : decode prog_9_method_21_code 26 = .ok (.iconst 4, 1) := by decide +kernel
theorem d_S_sameEntry_27 : decode prog_9_method_21_code 27 = .ok (.if_icmp .ge (23), 3) := by decide +kernel
theorem d_S_sameEntry_30 : decode prog_9_method_21_code 30 = .ok (.aload_n 0, 1) := by decide +kernel
theorem d_S_sameEntry_31 : decode prog_9_method_21_code 31 = .ok (.iload_n 1, 1) := by decide +kernel
theorem d_S_sameEntry_32 : decode prog_9_method_21_code 32 = .ok (.iload 4, 2) := by decide +kernel
theorem d_S_sameEntry_34 : decode prog_9_method_21_code 34 = .ok (.aload_n 2, 1) := by decide +kernel
theorem d_S_sameEntry_35 : decode prog_9_method_21_code 35 = .ok (.iload_n 3, 1) := by decide +kernel
theorem d_S_sameEntry_36 : decode prog_9_method_21_code 36 = .ok (.invokevirtual 80, 3) := by decide +kernel
theorem d_S_sameEntry_39 : decode prog_9_method_21_code 39 = .ok (.ifCond .ne (5), 3) := by decide +kernel
theorem d_S_sameEntry_42 : decode prog_9_method_21_code 42 = .ok (.iconst 0, 1) := by decide +kernel
theorem d_S_sameEntry_43 : decode prog_9_method_21_code 43 = .ok (.ireturn, 1) := by decide +kernel
theorem d_S_sameEntry_44 : decode prog_9_method_21_code 44 = .ok (.iinc 4 (1), 3) := by decide +kernel
theorem d_S_sameEntry_47 : decode prog_9_method_21_code 47 = .ok (.goto (-23), 3) := by decide +kernel
theorem d_S_sameEntry_50 : decode prog_9_method_21_code 50 = .ok (.iconst 1, 1) := by decide +kernel
theorem d_S_sameEntry_51 : decode prog_9_method_21_code 51 = .ok (.ireturn, 1) := by decide +kernel
def Y_S_sameEntry : sdY := ("SettingsDesk$Settings", prog_9_method_21_code, 5, (some .boolean), .code y_S_sameEntry prog_9_method_21_code 5 (some .boolean) :: sdB0, { frames := 2, cells := 0, slots := 0, locals := 46 }, 0, 0)
theorem cw_S_sameEntry_S_sameLeaf_80 : sd_cwV Y_S_sameEntry Y_S_sameLeaf y_S_sameLeaf 80 4 "SettingsDesk$Settings" := ⟨sd_goodV q12 q14 q15 q7 q13, ⟨_, rfl⟩, ⟨rfl, rfl, rfl, rfl⟩, ⟨rfl, by decide, by decide, by decide +kernel⟩, ⟨by decide, by decide⟩⟩
section
variable {l : Launch} {D : va_G} {dA : Nat → ClassId} {b n : Nat} {ad : Nat → Nat} {L : Nat → sdL} {sc : Option (Nat × Nat × (Nat → Int32))}
def h_S_sameEntry_24 (o : Nat) (Q : Int32 → sdM → Prop) : Nat → sdM → Int32 → Nat → Int32 → Int32 → Prop
  | 0, _, _, _, _, _ => False
  | N + 1, M, x1, o2, x3, x4 => ((4 : Int32) ≤ x4 → sdB (1 : Int32) ∧ Q (1 : Int32) M) ∧ (¬ (4 : Int32) ≤ x4 → w_S_sameLeaf o M x1 x4 o2 x3 (fun r4 M3 => (¬ r4 = 0 → h_S_sameEntry_24 o Q N M3 x1 o2 x3 (x4 + 1)) ∧ (r4 = 0 → sdB (0 : Int32) ∧ Q (0 : Int32) M3)))
set_option maxHeartbeats 1000000 in
theorem t_S_sameEntry_24 {o : Nat} (hA : sd_ad b n ad) (hT : l.stackTraces = false) (ho : isS n L dA o) {Q : Int32 → sdM → Prop} (N : Nat) : ∀ (M : sdM) (x1 : Int32) (o2 : Nat) (x3 : Int32) (x4 : Int32) (ho2 : isS n L dA o2), h_S_sameEntry_24 o Q N M x1 o2 x3 x4 → sdW l (sdE0 sc) Y_S_sameEntry D (sd_tys dA) b n ad L ad (sd_H D (sdE0 sc).1 n ad L) (sd_qi Q) sd_xf 24 [(0, .ref o), (1, .int x1), (2, .ref o2), (3, .int x3), (4, .int x4)] [] M 0 0 := by
  induction N with
  | zero => intro M x1 o2 x3 x4 ho2 hw; exact hw.elim
  | succ N ih =>
    intro M x1 o2 x3 x4 ho2 hw
    rw [h_S_sameEntry_24] at hw
    refine x_iload 4 4 d_S_sameEntry_24 rfl ?_
    refine x_iconst (v := 4) d_S_sameEntry_26 (by decide) ?_
    refine x_icmp_ge 50 d_S_sameEntry_27 rfl (fun hc => ?_) (fun hc => ?_)
    · have hw := hw.1 hc
      refine x_iconst (v := 1) d_S_sameEntry_50 (by decide) ?_
      exact x_zret d_S_sameEntry_51 rfl (sdB_n hw.1) (fun _ h => h) ⟨_, rfl, hw.2⟩
    · have hw := hw.2 hc
      refine x_aload_n 0 0 d_S_sameEntry_30 rfl rfl ?_
      refine x_iload_n 1 1 d_S_sameEntry_31 rfl rfl ?_
      refine x_iload 4 4 d_S_sameEntry_32 rfl ?_
      refine x_aload_n 2 2 d_S_sameEntry_34 rfl rfl ?_
      refine x_iload_n 3 3 d_S_sameEntry_35 rfl rfl ?_
      refine x_callVi (As := [.int x1, .int x4, .ref o2, .int x3]) (t := o) (rest := []) (rc := 0) (rs := 0) (c_S_sameLeaf hA hT ho ho2 hw) cw_S_sameEntry_S_sameLeaf_80 ho.1 ho.2.1 rfl d_S_sameEntry_36 rfl rfl (Nat.le_of_ble_eq_true rfl) (fun _ _ h => h.elim) (fun _ _ h => h) (fun r4 M3 hw => ?_)
      refine x_if_ne 44 d_S_sameEntry_39 rfl (fun hc => ?_) (fun hc => ?_)
      · have hw := hw.1 hc
        refine x_iinc 4 4 [(4, .int (x4 + 1)), (0, .ref o), (1, .int x1), (2, .ref o2), (3, .int x3)] d_S_sameEntry_44 rfl (congrArg (HAdd.hAdd x4) (show Int32.ofInt 1 = 1 by decide)) (by decide) rfl ?_
        refine x_goto 24 d_S_sameEntry_47 rfl ?_
        refine x_sub [1, 2, 3, 4, 0] [(0, .ref o), (1, .int x1), (2, .ref o2), (3, .int x3), (4, .int (x4 + 1))] rfl ?_
        exact ih M3 x1 o2 x3 (x4 + 1) ho2 hw
      · have hw := hw.2 hc
        refine x_iconst (v := 0) d_S_sameEntry_42 (by decide) ?_
        exact x_zret d_S_sameEntry_43 rfl (sdB_n hw.1) (fun _ h => h) ⟨_, rfl, hw.2⟩
def k_S_sameEntry_20 (o : Nat) (Q : Int32 → sdM → Prop) (M : sdM) (s0 : Int32) : Prop := sdB s0 ∧ Q s0 M
set_option maxHeartbeats 1000000 in
theorem t_S_sameEntry_20 {o : Nat} (hA : sd_ad b n ad) (hT : l.stackTraces = false) (ho : isS n L dA o) {Q : Int32 → sdM → Prop} (M : sdM) (s0 : Int32) (hw : k_S_sameEntry_20 o Q M s0) : sdW l (sdE0 sc) Y_S_sameEntry D (sd_tys dA) b n ad L ad (sd_H D (sdE0 sc).1 n ad L) (sd_qi Q) sd_xf 20 [] [.int s0] M 0 0 := by
  unfold k_S_sameEntry_20 at hw
  exact x_zret d_S_sameEntry_20 rfl (sdB_n hw.1) (fun _ h => h) ⟨_, rfl, hw.2⟩
def k_S_sameEntry_10 (o : Nat) (Q : Int32 → sdM → Prop) (M : sdM) (x1 : Int32) (x3 : Int32) : Prop := (¬ x1 = x3 → k_S_sameEntry_20 o Q M (0 : Int32)) ∧ (x1 = x3 → k_S_sameEntry_20 o Q M (1 : Int32))
set_option maxHeartbeats 1000000 in
theorem t_S_sameEntry_10 {o : Nat} (hA : sd_ad b n ad) (hT : l.stackTraces = false) (ho : isS n L dA o) {Q : Int32 → sdM → Prop} (M : sdM) (x1 : Int32) (x3 : Int32) (hw : k_S_sameEntry_10 o Q M x1 x3) : sdW l (sdE0 sc) Y_S_sameEntry D (sd_tys dA) b n ad L ad (sd_H D (sdE0 sc).1 n ad L) (sd_qi Q) sd_xf 10 [(1, .int x1), (3, .int x3)] [] M 0 0 := by
  unfold k_S_sameEntry_10 at hw
  refine x_iload_n 1 0 d_S_sameEntry_10 rfl rfl ?_
  refine x_iload_n 3 1 d_S_sameEntry_11 rfl rfl ?_
  refine x_icmp_ne 19 d_S_sameEntry_12 rfl (fun hc => ?_) (fun hc => ?_)
  · have hw := hw.1 hc
    refine x_iconst (v := 0) d_S_sameEntry_19 (by decide) ?_
    refine x_sub [] [] rfl ?_
    exact t_S_sameEntry_20 hA hT ho M (0 : Int32) hw
  · have hw := hw.2 hc
    refine x_iconst (v := 1) d_S_sameEntry_15 (by decide) ?_
    refine x_goto 20 d_S_sameEntry_16 rfl ?_
    refine x_sub [] [] rfl ?_
    exact t_S_sameEntry_20 hA hT ho M (1 : Int32) hw
def w_S_sameEntry (o : Nat) (M : sdM) (a1 : Int32) (p2 : Nat) (a3 : Int32) (Q : Int32 → sdM → Prop) : Prop := (a1 = (-1 : Int32) → k_S_sameEntry_10 o Q M a1 a3) ∧ (¬ a1 = (-1 : Int32) → (¬ a3 = (-1 : Int32) → ∃ N9 : Nat, h_S_sameEntry_24 o Q N9 M a1 p2 a3 (0 : Int32)) ∧ (a3 = (-1 : Int32) → k_S_sameEntry_10 o Q M a1 a3))
set_option maxHeartbeats 1000000 in
theorem c_S_sameEntry {a1 : Int32} {p2 : Nat} {a3 : Int32} {o : Nat} (hA : sd_ad b n ad) (hT : l.stackTraces = false) (ho : isS n L dA o) (hp2 : isS n L dA p2) {Q : Int32 → sdM → Prop} {M : sdM} (hw : w_S_sameEntry o M a1 p2 a3 Q) : sd_Cn l (sdE0 sc) y_S_sameEntry Y_S_sameEntry.2.2.2.2.1 Y_S_sameEntry.2.2.2.2.2.1 0 0 D (sd_tys dA) b n ad L M [.ref o, .int a1, .ref p2, .int a3] (sd_qi Q) sd_xf := by
  refine sd_enter (Y := Y_S_sameEntry) rfl rfl rfl (Nat.le_of_ble_eq_true rfl) ?_
  show sdW l (sdE0 sc) Y_S_sameEntry D (sd_tys dA) b n ad L ad (sd_H D (sdE0 sc).1 n ad L) (sd_qi Q) sd_xf 0 [(0, .ref o), (1, .int a1), (2, .ref p2), (3, .int a3)] [] M 0 0
  unfold w_S_sameEntry at hw
  refine x_iload_n 1 1 d_S_sameEntry_0 rfl rfl ?_
  refine x_iconst (v := (-1)) d_S_sameEntry_1 (by decide) ?_
  refine x_icmp_eq 10 d_S_sameEntry_2 rfl (fun hc => ?_) (fun hc => ?_)
  · have hw := hw.1 hc
    refine x_sub [1, 3] [(1, .int a1), (3, .int a3)] rfl ?_
    exact t_S_sameEntry_10 hA hT ho M a1 a3 hw
  · have hw := hw.2 hc
    refine x_iload_n 3 3 d_S_sameEntry_5 rfl rfl ?_
    refine x_iconst (v := (-1)) d_S_sameEntry_6 (by decide) ?_
    refine x_icmp_ne 21 d_S_sameEntry_7 rfl (fun hc => ?_) (fun hc => ?_)
    · have hw := hw.1 hc
      refine x_iconst (v := 0) d_S_sameEntry_21 (by decide) ?_
      refine x_istore 4 [(4, .int (0 : Int32)), (0, .ref o), (1, .int a1), (2, .ref p2), (3, .int a3)] d_S_sameEntry_22 (by decide) rfl ?_
      refine x_sub [1, 2, 3, 4, 0] [(0, .ref o), (1, .int a1), (2, .ref p2), (3, .int a3), (4, .int (0 : Int32))] rfl ?_
      obtain ⟨N9, hw⟩ := hw
      exact t_S_sameEntry_24 hA hT ho N9 M a1 p2 a3 (0 : Int32) hp2 hw
    · have hw := hw.2 hc
      refine x_sub [1, 3] [(1, .int a1), (3, .int a3)] rfl ?_
      exact t_S_sameEntry_10 hA hT ho M a1 a3 hw
end
theorem q16 : (.fieldLink "SettingsDesk$Settings" 15 "SettingsDesk$Settings" "keys" "[I" : Cond) ∈ sdB0 := sd_tb1 140 rfl rfl
theorem q17 : (.methodLink "SettingsDesk$Settings" 36 ⟨"SettingsDesk$Settings", "firstRow", "(I)I"⟩ : Cond) ∈ sdB0 := sd_tb2 13 rfl rfl
theorem q18 : (.code ⟨"SettingsDesk$Settings", "firstRow", "(I)I"⟩ prog_9_method_4_code 2 (some .int) : Cond) ∈ sdB0 := sd_tb2 16 rfl rfl
theorem q19 : (.instanceMethod ⟨"SettingsDesk$Settings", "firstRow", "(I)I"⟩ : Cond) ∈ sdB0 := sd_tb2 14 rfl rfl
theorem q20 : (.selects "SettingsDesk$Settings" ⟨"SettingsDesk$Settings", "firstRow", "(I)I"⟩ ⟨"SettingsDesk$Settings", "firstRow", "(I)I"⟩ : Cond) ∈ sdB0 := sd_tb2 15 rfl rfl
theorem q21 : (.methodLink "SettingsDesk$Settings" 40 ⟨"SettingsDesk$Settings", "endRow", "(I)I"⟩ : Cond) ∈ sdB0 := sd_tb2 17 rfl rfl
theorem q22 : (.code ⟨"SettingsDesk$Settings", "endRow", "(I)I"⟩ prog_9_method_5_code 2 (some .int) : Cond) ∈ sdB0 := sd_tb2 20 rfl rfl
theorem q23 : (.instanceMethod ⟨"SettingsDesk$Settings", "endRow", "(I)I"⟩ : Cond) ∈ sdB0 := sd_tb2 18 rfl rfl
theorem q24 : (.selects "SettingsDesk$Settings" ⟨"SettingsDesk$Settings", "endRow", "(I)I"⟩ ⟨"SettingsDesk$Settings", "endRow", "(I)I"⟩ : Cond) ∈ sdB0 := sd_tb2 19 rfl rfl
theorem q25 : (.methodLink "SettingsDesk$Settings" 88 ⟨"SettingsDesk$Settings", "sameEntry", "(ILSettingsDesk$Settings;I)Z"⟩ : Cond) ∈ sdB0 := sd_tb2 21 rfl rfl
theorem q26 : (.code ⟨"SettingsDesk$Settings", "sameEntry", "(ILSettingsDesk$Settings;I)Z"⟩ prog_9_method_21_code 5 (some .boolean) : Cond) ∈ sdB0 := sd_tb2 24 rfl rfl
theorem q27 : (.instanceMethod ⟨"SettingsDesk$Settings", "sameEntry", "(ILSettingsDesk$Settings;I)Z"⟩ : Cond) ∈ sdB0 := sd_tb2 22 rfl rfl
theorem q28 : (.selects "SettingsDesk$Settings" ⟨"SettingsDesk$Settings", "sameEntry", "(ILSettingsDesk$Settings;I)Z"⟩ ⟨"SettingsDesk$Settings", "sameEntry", "(ILSettingsDesk$Settings;I)Z"⟩ : Cond) ∈ sdB0 := sd_tb2 23 rfl rfl
abbrev y_S_sameList : MethodName := ⟨"SettingsDesk$Settings", "sameList", "(ILSettingsDesk$Settings;)Z"⟩
theorem d_S_sameList_0 : decode prog_9_method_23_code 0 = .ok (.aload_n 0, 1) := by decide +kernel
theorem d_S_sameList_1 : decode prog_9_method_23_code 1 = .ok (.getfield 9, 3) := by decide +kernel
theorem d_S_sameList_4 : decode prog_9_method_23_code 4 = .ok (.iload_n 1, 1) := by decide +kernel
theorem d_S_sameList_5 : decode prog_9_method_23_code 5 = .ok (.iaload, 1) := by decide +kernel
theorem d_S_sameList_6 : decode prog_9_method_23_code 6 = .ok (.aload_n 2, 1) := by decide +kernel
theorem d_S_sameList_7 : decode prog_9_method_23_code 7 = .ok (.getfield 9, 3) := by decide +kernel
theorem d_S_sameList_10 : decode prog_9_method_23_code 10 = .ok (.iload_n 1, 1) := by decide +kernel
theorem d_S_sameList_11 : decode prog_9_method_23_code 11 = .ok (.iaload, 1) := by decide +kernel
theorem d_S_sameList_12 : decode prog_9_method_23_code 12 = .ok (.if_icmp .eq (5), 3) := by decide +kernel
theorem d_S_sameList_15 : decode prog_9_method_23_code 15 = .ok (.iconst 0, 1) := by decide +kernel
theorem d_S_sameList_16 : decode prog_9_method_23_code 16 = .ok (.ireturn, 1) := by decide +kernel
theorem d_S_sameList_17 : decode prog_9_method_23_code 17 = .ok (.aload_n 0, 1) := by decide +kernel
theorem d_S_sameList_18 : decode prog_9_method_23_code 18 = .ok (.iload_n 1, 1) := by decide +kernel
theorem d_S_sameList_19 : decode prog_9_method_23_code 19 = .ok (.invokevirtual 36, 3) := by decide +kernel
theorem d_S_sameList_22 : decode prog_9_method_23_code 22 = .ok (.istore_n 3, 1) := by decide +kernel
theorem d_S_sameList_23 : decode prog_9_method_23_code 23 = .ok (.iload_n 3, 1) := by decide +kernel
theorem d_S_sameList_24 : decode prog_9_method_23_code 24 = .ok (.aload_n 0, 1) := by decide +kernel
theorem d_S_sameList_25 : decode prog_9_method_23_code 25 = .ok (.iload_n 1, 1) := by decide +kernel
theorem d_S_sameList_26 : decode prog_9_method_23_code 26 = .ok (.invokevirtual 40, 3) := by decide +kernel
theorem d_S_sameList_29 : decode prog_9_method_23_code 29 = .ok (.if_icmp .ge (36), 3) := by decide +kernel
theorem d_S_sameList_32 : decode prog_9_method_23_code 32 = .ok (.aload_n 0, 1) := by decide +kernel
theorem d_S_sameList_33 : decode prog_9_method_23_code 33 = .ok (.getfield 15, 3) := by decide +kernel
theorem d_S_sameList_36 : decode prog_9_method_23_code 36 = .ok (.iload_n 3, 1) := by decide +kernel
theorem d_S_sameList_37 : decode prog_9_method_23_code 37 = .ok (.iaload, 1) := by decide +kernel
theorem d_S_sameList_38 : decode prog_9_method_23_code 38 = .ok (.aload_n 2, 1) := by decide +kernel
theorem d_S_sameList_39 : decode prog_9_method_23_code 39 = .ok (.getfield 15, 3) := by decide +kernel
theorem d_S_sameList_42 : decode prog_9_method_23_code 42 = .ok (.iload_n 3, 1) := by decide +kernel
theorem d_S_sameList_43 : decode prog_9_method_23_code 43 = .ok (.iaload, 1) := by decide +kernel
theorem d_S_sameList_44 : decode prog_9_method_23_code 44 = .ok (.if_icmp .ne (13), 3) := by decide +kernel
theorem d_S_sameList_47 : decode prog_9_method_23_code 47 = .ok (.aload_n 0, 1) := by decide +kernel
theorem d_S_sameList_48 : decode prog_9_method_23_code 48 = .ok (.iload_n 3, 1) := by decide +kernel
theorem d_S_sameList_49 : decode prog_9_method_23_code 49 = .ok (.aload_n 2, 1) := by decide +kernel
theorem d_S_sameList_50 : decode prog_9_method_23_code 50 = .ok (.iload_n 3, 1) := by decide +kernel
theorem d_S_sameList_51 : decode prog_9_method_23_code 51 = .ok (.invokevirtual 88, 3) := by decide +kernel
theorem d_S_sameList_54 : decode prog_9_method_23_code 54 = .ok (.ifCond .ne (5), 3) := by decide +kernel
theorem d_S_sameList_57 : decode prog_9_method_23_code 57 = .ok (.iconst 0, 1) := by decide +kernel
theorem d_S_sameList_58 : decode prog_9_method_23_code 58 = .ok (.ireturn, 1) := by decide +kernel
theorem d_S_sameList_59 : decode prog_9_method_23_code 59 = .ok (.iinc 3 (1), 3) := by decide +kernel
theorem d_S_sameList_62 : decode prog_9_method_23_code 62 = .ok (.goto (-39), 3) := by decide +kernel
theorem d_S_sameList_65 : decode prog_9_method_23_code 65 = .ok (.iconst 1, 1) := by decide +kernel
theorem d_S_sameList_66 : decode prog_9_method_23_code 66 = .ok (.ireturn, 1) := by decide +kernel
def Y_S_sameList : sdY := ("SettingsDesk$Settings", prog_9_method_23_code, 4, (some .boolean), .code y_S_sameList prog_9_method_23_code 4 (some .boolean) :: sdB0, { frames := 3, cells := 0, slots := 0, locals := 70 }, 0, 0)
theorem cw_S_sameList_S_firstRow_36 : sd_cwV Y_S_sameList Y_S_firstRow y_S_firstRow 36 1 "SettingsDesk$Settings" := ⟨sd_goodV q17 q19 q20 q7 q18, ⟨_, rfl⟩, ⟨rfl, rfl, rfl, rfl⟩, ⟨rfl, by decide, by decide, by decide +kernel⟩, ⟨by decide, by decide⟩⟩
theorem cw_S_sameList_S_endRow_40 : sd_cwV Y_S_sameList Y_S_endRow y_S_endRow 40 1 "SettingsDesk$Settings" := ⟨sd_goodV q21 q23 q24 q7 q22, ⟨_, rfl⟩, ⟨rfl, rfl, rfl, rfl⟩, ⟨rfl, by decide, by decide, by decide +kernel⟩, ⟨by decide, by decide⟩⟩
theorem cw_S_sameList_S_sameEntry_88 : sd_cwV Y_S_sameList Y_S_sameEntry y_S_sameEntry 88 3 "SettingsDesk$Settings" := ⟨sd_goodV q25 q27 q28 q7 q26, ⟨_, rfl⟩, ⟨rfl, rfl, rfl, rfl⟩, ⟨rfl, by decide, by decide, by decide +kernel⟩, ⟨by decide, by decide⟩⟩
section
variable {l : Launch} {D : va_G} {dA : Nat → ClassId} {b n : Nat} {ad : Nat → Nat} {L : Nat → sdL} {sc : Option (Nat × Nat × (Nat → Int32))}
def k_S_sameList_57 (o : Nat) (Q : Int32 → sdM → Prop) (M : sdM) : Prop := sdB (0 : Int32) ∧ Q (0 : Int32) M
set_option maxHeartbeats 1000000 in
theorem t_S_sameList_57 {o : Nat} (hA : sd_ad b n ad) (hT : l.stackTraces = false) (ho : isS n L dA o) {Q : Int32 → sdM → Prop} (M : sdM) (hw : k_S_sameList_57 o Q M ) : sdW l (sdE0 sc) Y_S_sameList D (sd_tys dA) b n ad L ad (sd_H D (sdE0 sc).1 n ad L) (sd_qi Q) sd_xf 57 [] [] M 0 0 := by
  unfold k_S_sameList_57 at hw
  refine x_iconst (v := 0) d_S_sameList_57 (by decide) ?_
  exact x_zret d_S_sameList_58 rfl (sdB_n hw.1) (fun _ h => h) ⟨_, rfl, hw.2⟩
def h_S_sameList_23 (o : Nat) (Q : Int32 → sdM → Prop) : Nat → sdM → Int32 → Nat → Int32 → Prop
  | 0, _, _, _, _ => False
  | N + 1, M, x1, o2, x3 => w_S_endRow o M x1 (fun r12 M11 => (r12 ≤ x3 → sdB (1 : Int32) ∧ Q (1 : Int32) M11) ∧ (¬ r12 ≤ x3 → vp_in x3 48 ∧ vp_in x3 48 ∧ (¬ (M11 (o + 2) x3.toNatClampNeg) = (M11 (o2 + 2) x3.toNatClampNeg) → k_S_sameList_57 o Q M11) ∧ ((M11 (o + 2) x3.toNatClampNeg) = (M11 (o2 + 2) x3.toNatClampNeg) → w_S_sameEntry o M11 x3 o2 x3 (fun r16 M15 => (¬ r16 = 0 → h_S_sameList_23 o Q N M15 x1 o2 (x3 + 1)) ∧ (r16 = 0 → k_S_sameList_57 o Q M15)))))
set_option maxHeartbeats 1000000 in
theorem t_S_sameList_23 {o : Nat} (hA : sd_ad b n ad) (hT : l.stackTraces = false) (ho : isS n L dA o) {Q : Int32 → sdM → Prop} (N : Nat) : ∀ (M : sdM) (x1 : Int32) (o2 : Nat) (x3 : Int32) (ho2 : isS n L dA o2), h_S_sameList_23 o Q N M x1 o2 x3 → sdW l (sdE0 sc) Y_S_sameList D (sd_tys dA) b n ad L ad (sd_H D (sdE0 sc).1 n ad L) (sd_qi Q) sd_xf 23 [(0, .ref o), (1, .int x1), (2, .ref o2), (3, .int x3)] [] M 0 0 := by
  induction N with
  | zero => intro M x1 o2 x3 ho2 hw; exact hw.elim
  | succ N ih =>
    intro M x1 o2 x3 ho2 hw
    rw [h_S_sameList_23] at hw
    refine x_iload_n 3 3 d_S_sameList_23 rfl rfl ?_
    refine x_aload_n 0 0 d_S_sameList_24 rfl rfl ?_
    refine x_iload_n 1 1 d_S_sameList_25 rfl rfl ?_
    refine x_callVi (As := [.int x1]) (t := o) (rest := [.int x3]) (rc := 0) (rs := 0) (c_S_endRow hA hT ho hw) cw_S_sameList_S_endRow_40 ho.1 ho.2.1 rfl d_S_sameList_26 rfl rfl (Nat.le_of_ble_eq_true rfl) (fun _ _ h => h.elim) (fun _ _ h => h) (fun r12 M11 hw => ?_)
    refine x_icmp_ge 65 d_S_sameList_29 rfl (fun hc => ?_) (fun hc => ?_)
    · have hw := hw.1 hc
      refine x_iconst (v := 1) d_S_sameList_65 (by decide) ?_
      exact x_zret d_S_sameList_66 rfl (sdB_n hw.1) (fun _ h => h) ⟨_, rfl, hw.2⟩
    · have hw := hw.2 hc
      refine x_aload_n 0 0 d_S_sameList_32 rfl rfl ?_
      refine x_getr 1 (o + 2) d_S_sameList_33 ho.1 ho.2.1 rfl rfl (by decide) lay_S (List.mem_cons_of_mem _ q16) rfl ?_
      refine x_iload_n 3 3 d_S_sameList_36 rfl rfl ?_
      obtain ⟨hi13, hw⟩ := hw
      refine x_iald d_S_sameList_37 ho.keys.1 ho.keys.2 rfl hi13 ?_
      refine x_aload_n 2 2 d_S_sameList_38 rfl rfl ?_
      refine x_getr 1 (o2 + 2) d_S_sameList_39 ho2.1 ho2.2.1 rfl rfl (by decide) lay_S (List.mem_cons_of_mem _ q16) rfl ?_
      refine x_iload_n 3 3 d_S_sameList_42 rfl rfl ?_
      obtain ⟨hi14, hw⟩ := hw
      refine x_iald d_S_sameList_43 ho2.keys.1 ho2.keys.2 rfl hi14 ?_
      refine x_icmp_ne 57 d_S_sameList_44 rfl (fun hc => ?_) (fun hc => ?_)
      · have hw := hw.1 hc
        refine x_sub [] [] rfl ?_
        exact t_S_sameList_57 hA hT ho M11 hw
      · have hw := hw.2 hc
        refine x_aload_n 0 0 d_S_sameList_47 rfl rfl ?_
        refine x_iload_n 3 3 d_S_sameList_48 rfl rfl ?_
        refine x_aload_n 2 2 d_S_sameList_49 rfl rfl ?_
        refine x_iload_n 3 3 d_S_sameList_50 rfl rfl ?_
        refine x_callVi (As := [.int x3, .ref o2, .int x3]) (t := o) (rest := []) (rc := 0) (rs := 0) (c_S_sameEntry hA hT ho ho2 hw) cw_S_sameList_S_sameEntry_88 ho.1 ho.2.1 rfl d_S_sameList_51 rfl rfl (Nat.le_of_ble_eq_true rfl) (fun _ _ h => h.elim) (fun _ _ h => h) (fun r16 M15 hw => ?_)
        refine x_if_ne 59 d_S_sameList_54 rfl (fun hc => ?_) (fun hc => ?_)
        · have hw := hw.1 hc
          refine x_iinc 3 3 [(3, .int (x3 + 1)), (0, .ref o), (1, .int x1), (2, .ref o2)] d_S_sameList_59 rfl (congrArg (HAdd.hAdd x3) (show Int32.ofInt 1 = 1 by decide)) (by decide) rfl ?_
          refine x_goto 23 d_S_sameList_62 rfl ?_
          refine x_sub [1, 2, 3, 0] [(0, .ref o), (1, .int x1), (2, .ref o2), (3, .int (x3 + 1))] rfl ?_
          exact ih M15 x1 o2 (x3 + 1) ho2 hw
        · have hw := hw.2 hc
          refine x_sub [] [] rfl ?_
          exact t_S_sameList_57 hA hT ho M15 hw
def w_S_sameList (o : Nat) (M : sdM) (a1 : Int32) (p2 : Nat) (Q : Int32 → sdM → Prop) : Prop := vp_in a1 4 ∧ vp_in a1 4 ∧ ((M (o + 1) a1.toNatClampNeg) = (M (p2 + 1) a1.toNatClampNeg) → w_S_firstRow o M a1 (fun r20 M19 => ∃ N9 : Nat, h_S_sameList_23 o Q N9 M19 a1 p2 r20)) ∧ (¬ (M (o + 1) a1.toNatClampNeg) = (M (p2 + 1) a1.toNatClampNeg) → sdB (0 : Int32) ∧ Q (0 : Int32) M)
set_option maxHeartbeats 1000000 in
theorem c_S_sameList {a1 : Int32} {p2 : Nat} {o : Nat} (hA : sd_ad b n ad) (hT : l.stackTraces = false) (ho : isS n L dA o) (hp2 : isS n L dA p2) {Q : Int32 → sdM → Prop} {M : sdM} (hw : w_S_sameList o M a1 p2 Q) : sd_Cn l (sdE0 sc) y_S_sameList Y_S_sameList.2.2.2.2.1 Y_S_sameList.2.2.2.2.2.1 0 0 D (sd_tys dA) b n ad L M [.ref o, .int a1, .ref p2] (sd_qi Q) sd_xf := by
  refine sd_enter (Y := Y_S_sameList) rfl rfl rfl (Nat.le_of_ble_eq_true rfl) ?_
  show sdW l (sdE0 sc) Y_S_sameList D (sd_tys dA) b n ad L ad (sd_H D (sdE0 sc).1 n ad L) (sd_qi Q) sd_xf 0 [(0, .ref o), (1, .int a1), (2, .ref p2)] [] M 0 0
  unfold w_S_sameList at hw
  refine x_aload_n 0 0 d_S_sameList_0 rfl rfl ?_
  refine x_getr 0 (o + 1) d_S_sameList_1 ho.1 ho.2.1 rfl rfl (by decide) lay_S (List.mem_cons_of_mem _ q0) rfl ?_
  refine x_iload_n 1 1 d_S_sameList_4 rfl rfl ?_
  obtain ⟨hi17, hw⟩ := hw
  refine x_iald d_S_sameList_5 ho.counts.1 ho.counts.2 rfl hi17 ?_
  refine x_aload_n 2 2 d_S_sameList_6 rfl rfl ?_
  refine x_getr 0 (p2 + 1) d_S_sameList_7 hp2.1 hp2.2.1 rfl rfl (by decide) lay_S (List.mem_cons_of_mem _ q0) rfl ?_
  refine x_iload_n 1 1 d_S_sameList_10 rfl rfl ?_
  obtain ⟨hi18, hw⟩ := hw
  refine x_iald d_S_sameList_11 hp2.counts.1 hp2.counts.2 rfl hi18 ?_
  refine x_icmp_eq 17 d_S_sameList_12 rfl (fun hc => ?_) (fun hc => ?_)
  · have hw := hw.1 hc
    refine x_aload_n 0 0 d_S_sameList_17 rfl rfl ?_
    refine x_iload_n 1 1 d_S_sameList_18 rfl rfl ?_
    refine x_callVi (As := [.int a1]) (t := o) (rest := []) (rc := 0) (rs := 0) (c_S_firstRow hA hT ho hw) cw_S_sameList_S_firstRow_36 ho.1 ho.2.1 rfl d_S_sameList_19 rfl rfl (Nat.le_of_ble_eq_true rfl) (fun _ _ h => h.elim) (fun _ _ h => h) (fun r20 M19 hw => ?_)
    refine x_istore_n 3 [(3, .int r20), (0, .ref o), (1, .int a1), (2, .ref p2)] d_S_sameList_22 rfl (by decide) rfl ?_
    refine x_sub [1, 2, 3, 0] [(0, .ref o), (1, .int a1), (2, .ref p2), (3, .int r20)] rfl ?_
    obtain ⟨N9, hw⟩ := hw
    exact t_S_sameList_23 hA hT ho N9 M19 a1 p2 r20 hp2 hw
  · have hw := hw.2 hc
    refine x_iconst (v := 0) d_S_sameList_15 (by decide) ?_
    exact x_zret d_S_sameList_16 rfl (sdB_n hw.1) (fun _ h => h) ⟨_, rfl, hw.2⟩
end
theorem q29 : (.methodLink "SettingsDesk$Settings" 84 ⟨"SettingsDesk$Settings", "sameList", "(ILSettingsDesk$Settings;)Z"⟩ : Cond) ∈ sdB0 := sd_tb2 9 rfl rfl
theorem q30 : (.code ⟨"SettingsDesk$Settings", "sameList", "(ILSettingsDesk$Settings;)Z"⟩ prog_9_method_23_code 4 (some .boolean) : Cond) ∈ sdB0 := sd_tb2 12 rfl rfl
theorem q31 : (.instanceMethod ⟨"SettingsDesk$Settings", "sameList", "(ILSettingsDesk$Settings;)Z"⟩ : Cond) ∈ sdB0 := sd_tb2 10 rfl rfl
theorem q32 : (.selects "SettingsDesk$Settings" ⟨"SettingsDesk$Settings", "sameList", "(ILSettingsDesk$Settings;)Z"⟩ ⟨"SettingsDesk$Settings", "sameList", "(ILSettingsDesk$Settings;)Z"⟩ : Cond) ∈ sdB0 := sd_tb2 11 rfl rfl
abbrev y_S_sameAs : MethodName := ⟨"SettingsDesk$Settings", "sameAs", "(LSettingsDesk$Settings;)Z"⟩
theorem d_S_sameAs_0 : decode prog_9_method_22_code 0 = .ok (.iconst 0, 1) := by decide +kernel
theorem d_S_sameAs_1 : decode prog_9_method_22_code 1 = .ok (.istore_n 2, 1) := by decide +kernel
theorem d_S_sameAs_2 : decode prog_9_method_22_code 2 = .ok (.iload_n 2, 1) := by decide +kernel
theorem d_S_sameAs_3 : decode prog_9_method_22_code 3 = .ok (.iconst 4, 1) := by decide +kernel
theorem d_S_sameAs_4 : decode prog_9_method_22_code 4 = .ok (.if_icmp .ge (20), 3) := by decide +kernel
theorem d_S_sameAs_7 : decode prog_9_method_22_code 7 = .ok (.aload_n 0, 1) := by decide +kernel
theorem d_S_sameAs_8 : decode prog_9_method_22_code 8 = .ok (.iload_n 2, 1) := by decide +kernel
theorem d_S_sameAs_9 : decode prog_9_method_22_code 9 = .ok (.aload_n 1, 1) := by decide +kernel
theorem d_S_sameAs_10 : decode prog_9_method_22_code 10 = .ok (.invokevirtual 84, 3) := by decide +kernel
theorem d_S_sameAs_13 : decode prog_9_method_22_code 13 = .ok (.ifCond .ne (5), 3) := by decide +kernel
theorem d_S_sameAs_16 : decode prog_9_method_22_code 16 = .ok (.iconst 0, 1) := by decide +kernel
theorem d_S_sameAs_17 : decode prog_9_method_22_code 17 = .ok (.ireturn, 1) := by decide +kernel
theorem d_S_sameAs_18 : decode prog_9_method_22_code 18 = .ok (.iinc 2 (1), 3) := by decide +kernel
theorem d_S_sameAs_21 : decode prog_9_method_22_code 21 = .ok (.goto (-19), 3) := by decide +kernel
theorem d_S_sameAs_24 : decode prog_9_method_22_code 24 = .ok (.iconst 1, 1) := by decide +kernel
theorem d_S_sameAs_25 : decode prog_9_method_22_code 25 = .ok (.ireturn, 1) := by decide +kernel
def Y_S_sameAs : sdY := ("SettingsDesk$Settings", prog_9_method_22_code, 3, (some .boolean), .code y_S_sameAs prog_9_method_22_code 3 (some .boolean) :: sdB0, { frames := 4, cells := 0, slots := 0, locals := 93 }, 0, 0)
theorem cw_S_sameAs_S_sameList_84 : sd_cwV Y_S_sameAs Y_S_sameList y_S_sameList 84 2 "SettingsDesk$Settings" := ⟨sd_goodV q29 q31 q32 q7 q30, ⟨_, rfl⟩, ⟨rfl, rfl, rfl, rfl⟩, ⟨rfl, by decide, by decide, by decide +kernel⟩, ⟨by decide, by decide⟩⟩
section
variable {l : Launch} {D : va_G} {dA : Nat → ClassId} {b n : Nat} {ad : Nat → Nat} {L : Nat → sdL} {sc : Option (Nat × Nat × (Nat → Int32))}
def h_S_sameAs_2 (o : Nat) (Q : Int32 → sdM → Prop) : Nat → sdM → Nat → Int32 → Prop
  | 0, _, _, _ => False
  | N + 1, M, o1, x2 => ((4 : Int32) ≤ x2 → sdB (1 : Int32) ∧ Q (1 : Int32) M) ∧ (¬ (4 : Int32) ≤ x2 → w_S_sameList o M x2 o1 (fun r4 M3 => (¬ r4 = 0 → h_S_sameAs_2 o Q N M3 o1 (x2 + 1)) ∧ (r4 = 0 → sdB (0 : Int32) ∧ Q (0 : Int32) M3)))
set_option maxHeartbeats 1000000 in
theorem t_S_sameAs_2 {o : Nat} (hA : sd_ad b n ad) (hT : l.stackTraces = false) (ho : isS n L dA o) {Q : Int32 → sdM → Prop} (N : Nat) : ∀ (M : sdM) (o1 : Nat) (x2 : Int32) (ho1 : isS n L dA o1), h_S_sameAs_2 o Q N M o1 x2 → sdW l (sdE0 sc) Y_S_sameAs D (sd_tys dA) b n ad L ad (sd_H D (sdE0 sc).1 n ad L) (sd_qi Q) sd_xf 2 [(0, .ref o), (1, .ref o1), (2, .int x2)] [] M 0 0 := by
  induction N with
  | zero => intro M o1 x2 ho1 hw; exact hw.elim
  | succ N ih =>
    intro M o1 x2 ho1 hw
    rw [h_S_sameAs_2] at hw
    refine x_iload_n 2 2 d_S_sameAs_2 rfl rfl ?_
    refine x_iconst (v := 4) d_S_sameAs_3 (by decide) ?_
    refine x_icmp_ge 24 d_S_sameAs_4 rfl (fun hc => ?_) (fun hc => ?_)
    · have hw := hw.1 hc
      refine x_iconst (v := 1) d_S_sameAs_24 (by decide) ?_
      exact x_zret d_S_sameAs_25 rfl (sdB_n hw.1) (fun _ h => h) ⟨_, rfl, hw.2⟩
    · have hw := hw.2 hc
      refine x_aload_n 0 0 d_S_sameAs_7 rfl rfl ?_
      refine x_iload_n 2 2 d_S_sameAs_8 rfl rfl ?_
      refine x_aload_n 1 1 d_S_sameAs_9 rfl rfl ?_
      refine x_callVi (As := [.int x2, .ref o1]) (t := o) (rest := []) (rc := 0) (rs := 0) (c_S_sameList hA hT ho ho1 hw) cw_S_sameAs_S_sameList_84 ho.1 ho.2.1 rfl d_S_sameAs_10 rfl rfl (Nat.le_of_ble_eq_true rfl) (fun _ _ h => h.elim) (fun _ _ h => h) (fun r4 M3 hw => ?_)
      refine x_if_ne 18 d_S_sameAs_13 rfl (fun hc => ?_) (fun hc => ?_)
      · have hw := hw.1 hc
        refine x_iinc 2 2 [(2, .int (x2 + 1)), (0, .ref o), (1, .ref o1)] d_S_sameAs_18 rfl (congrArg (HAdd.hAdd x2) (show Int32.ofInt 1 = 1 by decide)) (by decide) rfl ?_
        refine x_goto 2 d_S_sameAs_21 rfl ?_
        refine x_sub [1, 2, 0] [(0, .ref o), (1, .ref o1), (2, .int (x2 + 1))] rfl ?_
        exact ih M3 o1 (x2 + 1) ho1 hw
      · have hw := hw.2 hc
        refine x_iconst (v := 0) d_S_sameAs_16 (by decide) ?_
        exact x_zret d_S_sameAs_17 rfl (sdB_n hw.1) (fun _ h => h) ⟨_, rfl, hw.2⟩
def w_S_sameAs (o : Nat) (M : sdM) (p1 : Nat) (Q : Int32 → sdM → Prop) : Prop := ∃ N9 : Nat, h_S_sameAs_2 o Q N9 M p1 (0 : Int32)
set_option maxHeartbeats 1000000 in
theorem c_S_sameAs {p1 : Nat} {o : Nat} (hA : sd_ad b n ad) (hT : l.stackTraces = false) (ho : isS n L dA o) (hp1 : isS n L dA p1) {Q : Int32 → sdM → Prop} {M : sdM} (hw : w_S_sameAs o M p1 Q) : sd_Cn l (sdE0 sc) y_S_sameAs Y_S_sameAs.2.2.2.2.1 Y_S_sameAs.2.2.2.2.2.1 0 0 D (sd_tys dA) b n ad L M [.ref o, .ref p1] (sd_qi Q) sd_xf := by
  refine sd_enter (Y := Y_S_sameAs) rfl rfl rfl (Nat.le_of_ble_eq_true rfl) ?_
  show sdW l (sdE0 sc) Y_S_sameAs D (sd_tys dA) b n ad L ad (sd_H D (sdE0 sc).1 n ad L) (sd_qi Q) sd_xf 0 [(0, .ref o), (1, .ref p1)] [] M 0 0
  unfold w_S_sameAs at hw
  refine x_iconst (v := 0) d_S_sameAs_0 (by decide) ?_
  refine x_istore_n 2 [(2, .int (0 : Int32)), (0, .ref o), (1, .ref p1)] d_S_sameAs_1 rfl (by decide) rfl ?_
  refine x_sub [1, 2, 0] [(0, .ref o), (1, .ref p1), (2, .int (0 : Int32))] rfl ?_
  obtain ⟨N9, hw⟩ := hw
  exact t_S_sameAs_2 hA hT ho N9 M p1 (0 : Int32) hp1 hw
end
abbrev y_JM_floorMod : MethodName := ⟨"java/lang/Math", "floorMod", "(II)I"⟩
theorem d_JM_floorMod_0 : decode prog_17_method_50_code 0 = .ok (.iload_n 0, 1) := by decide +kernel
theorem d_JM_floorMod_1 : decode prog_17_method_50_code 1 = .ok (.iload_n 1, 1) := by decide +kernel
theorem d_JM_floorMod_2 : decode prog_17_method_50_code 2 = .ok (.irem, 1) := by decide +kernel
theorem d_JM_floorMod_3 : decode prog_17_method_50_code 3 = .ok (.istore_n 2, 1) := by decide +kernel
theorem d_JM_floorMod_4 : decode prog_17_method_50_code 4 = .ok (.iload_n 0, 1) := by decide +kernel
theorem d_JM_floorMod_5 : decode prog_17_method_50_code 5 = .ok (.iload_n 1, 1) := by decide +kernel
theorem d_JM_floorMod_6 : decode prog_17_method_50_code 6 = .ok (.ixor, 1) := by decide +kernel
theorem d_JM_floorMod_7 : decode prog_17_method_50_code 7 = .ok (.ifCond .ge (11), 3) := by decide +kernel
theorem d_JM_floorMod_10 : decode prog_17_method_50_code 10 = .ok (.iload_n 2, 1) := by decide +kernel
theorem d_JM_floorMod_11 : decode prog_17_method_50_code 11 = .ok (.ifCond .eq (7), 3) := by decide +kernel
theorem d_JM_floorMod_14 : decode prog_17_method_50_code 14 = .ok (.iload_n 2, 1) := by decide +kernel
theorem d_JM_floorMod_15 : decode prog_17_method_50_code 15 = .ok (.iload_n 1, 1) := by decide +kernel
theorem d_JM_floorMod_16 : decode prog_17_method_50_code 16 = .ok (.iadd, 1) := by decide +kernel
theorem d_JM_floorMod_17 : decode prog_17_method_50_code 17 = .ok (.ireturn, 1) := by decide +kernel
theorem d_JM_floorMod_18 : decode prog_17_method_50_code 18 = .ok (.iload_n 2, 1) := by decide +kernel
theorem d_JM_floorMod_19 : decode prog_17_method_50_code 19 = .ok (.ireturn, 1) := by decide +kernel
def Y_JM_floorMod : sdY := ("java/lang/Math", prog_17_method_50_code, 3, (some .int), .code y_JM_floorMod prog_17_method_50_code 3 (some .int) :: sdB0, { frames := 0, cells := 0, slots := 0, locals := 0 }, 0, 0)
section
variable {l : Launch} {D : va_G} {dA : Nat → ClassId} {b n : Nat} {ad : Nat → Nat} {L : Nat → sdL} {sc : Option (Nat × Nat × (Nat → Int32))}
def k_JM_floorMod_18 (Q : Int32 → sdM → Prop) (M : sdM) (x2 : Int32) : Prop := Q x2 M
set_option maxHeartbeats 1000000 in
theorem t_JM_floorMod_18 (hA : sd_ad b n ad) (hT : l.stackTraces = false) {Q : Int32 → sdM → Prop} (M : sdM) (x2 : Int32) (hw : k_JM_floorMod_18 Q M x2) : sdW l (sdE0 sc) Y_JM_floorMod D (sd_tys dA) b n ad L ad (sd_H D (sdE0 sc).1 n ad L) (sd_qi Q) sd_xf 18 [(2, .int x2)] [] M 0 0 := by
  unfold k_JM_floorMod_18 at hw
  refine x_iload_n 2 0 d_JM_floorMod_18 rfl rfl ?_
  exact x_iret d_JM_floorMod_19 rfl (fun _ h => h) ⟨_, rfl, hw⟩
def w_JM_floorMod (M : sdM) (a0 : Int32) (a1 : Int32) (Q : Int32 → sdM → Prop) : Prop := ¬ a1 = 0 ∧ (0 ≤ (a0 ^^^ a1) → k_JM_floorMod_18 Q M (a0 - a0 / a1 * a1)) ∧ (¬ 0 ≤ (a0 ^^^ a1) → ((a0 - a0 / a1 * a1) = 0 → k_JM_floorMod_18 Q M (a0 - a0 / a1 * a1)) ∧ (¬ (a0 - a0 / a1 * a1) = 0 → Q ((a0 - a0 / a1 * a1) + a1) M))
set_option maxHeartbeats 1000000 in
theorem c_JM_floorMod {a0 : Int32} {a1 : Int32} (hA : sd_ad b n ad) (hT : l.stackTraces = false) {Q : Int32 → sdM → Prop} {M : sdM} (hw : w_JM_floorMod M a0 a1 Q) : sd_Cn l (sdE0 sc) y_JM_floorMod Y_JM_floorMod.2.2.2.2.1 Y_JM_floorMod.2.2.2.2.2.1 0 0 D (sd_tys dA) b n ad L M [.int a0, .int a1] (sd_qi Q) sd_xf := by
  refine sd_enter (Y := Y_JM_floorMod) (by decide +kernel) rfl rfl (Nat.le_of_ble_eq_true rfl) ?_
  show sdW l (sdE0 sc) Y_JM_floorMod D (sd_tys dA) b n ad L ad (sd_H D (sdE0 sc).1 n ad L) (sd_qi Q) sd_xf 0 [(0, .int a0), (1, .int a1)] [] M 0 0
  unfold w_JM_floorMod at hw
  refine x_iload_n 0 0 d_JM_floorMod_0 rfl rfl ?_
  refine x_iload_n 1 1 d_JM_floorMod_1 rfl rfl ?_
  obtain ⟨hz2, hw⟩ := hw
  refine x_irem d_JM_floorMod_2 hz2 ?_
  refine x_istore_n 2 [(2, .int (a0 - a0 / a1 * a1)), (0, .int a0), (1, .int a1)] d_JM_floorMod_3 rfl (by decide) rfl ?_
  refine x_iload_n 0 1 d_JM_floorMod_4 rfl rfl ?_
  refine x_iload_n 1 2 d_JM_floorMod_5 rfl rfl ?_
  refine x_ixor d_JM_floorMod_6 ?_
  refine x_if_ge 18 d_JM_floorMod_7 rfl (fun hc => ?_) (fun hc => ?_)
  · have hw := hw.1 hc
    refine x_sub [0] [(2, .int (a0 - a0 / a1 * a1))] rfl ?_
    exact t_JM_floorMod_18 hA hT M (a0 - a0 / a1 * a1) hw
  · have hw := hw.2 hc
    refine x_iload_n 2 0 d_JM_floorMod_10 rfl rfl ?_
    refine x_if_eq 18 d_JM_floorMod_11 rfl (fun hc => ?_) (fun hc => ?_)
    · have hw := hw.1 hc
      refine x_sub [0] [(2, .int (a0 - a0 / a1 * a1))] rfl ?_
      exact t_JM_floorMod_18 hA hT M (a0 - a0 / a1 * a1) hw
    · have hw := hw.2 hc
      refine x_iload_n 2 0 d_JM_floorMod_14 rfl rfl ?_
      refine x_iload_n 1 2 d_JM_floorMod_15 rfl rfl ?_
      refine x_iadd d_JM_floorMod_16 ?_
      exact x_iret d_JM_floorMod_17 rfl (fun _ h => h) ⟨_, rfl, hw⟩
end
theorem q33 : (.methodLink "SettingsDesk$Settings" 24 ⟨"java/lang/System", "arraycopy", "(Ljava/lang/Object;ILjava/lang/Object;II)V"⟩ : Cond) ∈ sdB0 := sd_tb2 44 rfl rfl
theorem q34 : (.native ⟨"java/lang/System", "arraycopy", "(Ljava/lang/Object;ILjava/lang/Object;II)V"⟩ : Cond) ∈ sdB0 := sd_tb2 46 rfl rfl
theorem q35 : (.static ⟨"java/lang/System", "arraycopy", "(Ljava/lang/Object;ILjava/lang/Object;II)V"⟩ : Cond) ∈ sdB0 := sd_tb2 45 rfl rfl
theorem q36 : (.initialized "java/lang/System" : Cond) ∈ sdB0 := sd_tb1 16 rfl rfl
abbrev y_S_copyFrom : MethodName := ⟨"SettingsDesk$Settings", "copyFrom", "(LSettingsDesk$Settings;)V"⟩
theorem d_S_copyFrom_0 : decode prog_9_method_2_code 0 = .ok (.aload_n 1, 1) := by decide +kernel
theorem d_S_copyFrom_1 : decode prog_9_method_2_code 1 = .ok (.getfield 9, 3) := by decide +kernel
theorem d_S_copyFrom_4 : decode prog_9_method_2_code 4 = .ok (.iconst 0, 1) := by decide +kernel
theorem d_S_copyFrom_5 : decode prog_9_method_2_code 5 = .ok (.aload_n 0, 1) := by decide +kernel
theorem d_S_copyFrom_6 : decode prog_9_method_2_code 6 = .ok (.getfield 9, 3) := by decide +kernel
theorem d_S_copyFrom_9 : decode prog_9_method_2_code 9 = .ok (.iconst 0, 1) := by decide +kernel
theorem d_S_copyFrom_10 : decode prog_9_method_2_code 10 = .ok (.iconst 4, 1) := by decide +kernel
theorem d_S_copyFrom_11 : decode prog_9_method_2_code 11 = .ok (.invokestatic 24, 3) := by decide +kernel
theorem d_S_copyFrom_14 : decode prog_9_method_2_code 14 = .ok (.aload_n 1, 1) := by decide +kernel
theorem d_S_copyFrom_15 : decode prog_9_method_2_code 15 = .ok (.getfield 15, 3) := by decide +kernel
theorem d_S_copyFrom_18 : decode prog_9_method_2_code 18 = .ok (.iconst 0, 1) := by decide +kernel
theorem d_S_copyFrom_19 : decode prog_9_method_2_code 19 = .ok (.aload_n 0, 1) := by decide +kernel
theorem d_S_copyFrom_20 : decode prog_9_method_2_code 20 = .ok (.getfield 15, 3) := by decide +kernel
theorem d_S_copyFrom_23 : decode prog_9_method_2_code 23 = .ok (.iconst 0, 1) := by decide +kernel
theorem d_S_copyFrom_24 : decode prog_9_method_2_code 24 = .ok (.bipush (48), 2) := by decide +kernel
theorem d_S_copyFrom_26 : decode prog_9_method_2_code 26 = .ok (.invokestatic 24, 3) := by decide +kernel
theorem d_S_copyFrom_29 : decode prog_9_method_2_code 29 = .ok (.aload_n 1, 1) := by decide +kernel
theorem d_S_copyFrom_30 : decode prog_9_method_2_code 30 = .ok (.getfield 18, 3) := by decide +kernel
theorem d_S_copyFrom_33 : decode prog_9_method_2_code 33 = .ok (.iconst 0, 1) := by decide +kernel
theorem d_S_copyFrom_34 : decode prog_9_method_2_code 34 = .ok (.aload_n 0, 1) := by decide +kernel
theorem d_S_copyFrom_35 : decode prog_9_method_2_code 35 = .ok (.getfield 18, 3) := by decide +kernel
theorem d_S_copyFrom_38 : decode prog_9_method_2_code 38 = .ok (.iconst 0, 1) := by decide +kernel
theorem d_S_copyFrom_39 : decode prog_9_method_2_code 39 = .ok (.sipush (192), 3) := by decide +kernel
theorem d_S_copyFrom_42 : decode prog_9_method_2_code 42 = .ok (.invokestatic 24, 3) := by decide +kernel
theorem d_S_copyFrom_45 : decode prog_9_method_2_code 45 = .ok (.aload_n 1, 1) := by decide +kernel
theorem d_S_copyFrom_46 : decode prog_9_method_2_code 46 = .ok (.getfield 21, 3) := by decide +kernel
theorem d_S_copyFrom_49 : decode prog_9_method_2_code 49 = .ok (.iconst 0, 1) := by decide +kernel
theorem d_S_copyFrom_50 : decode prog_9_method_2_code 50 = .ok (.aload_n 0, 1) := by decide +kernel
theorem d_S_copyFrom_51 : decode prog_9_method_2_code 51 = .ok (.getfield 21, 3) := by decide +kernel
theorem d_S_copyFrom_54 : decode prog_9_method_2_code 54 = .ok (.iconst 0, 1) := by decide +kernel
theorem d_S_copyFrom_55 : decode prog_9_method_2_code 55 = .ok (.bipush (48), 2) := by decide +kernel
theorem d_S_copyFrom_57 : decode prog_9_method_2_code 57 = .ok (.invokestatic 24, 3) := by decide +kernel
theorem d_S_copyFrom_60 : decode prog_9_method_2_code 60 = .ok (.return_, 1) := by decide +kernel
def Y_S_copyFrom : sdY := ("SettingsDesk$Settings", prog_9_method_2_code, 2, none, .code y_S_copyFrom prog_9_method_2_code 2 none :: sdB0, { frames := 1, cells := 0, slots := 0, locals := 18 }, 0, 0)
section
variable {l : Launch} {D : va_G} {dA : Nat → ClassId} {b n : Nat} {ad : Nat → Nat} {L : Nat → sdL} {sc : Option (Nat × Nat × (Nat → Int32))}
def w_S_copyFrom (o : Nat) (M : sdM) (p1 : Nat) (Q : sdM → Prop) : Prop := (¬ (0 : Int32) < 0 ∧ ¬ (0 : Int32) < 0 ∧ ¬ (4 : Int32) < 0 ∧ (0 : Int32).toNatClampNeg + (4 : Int32).toNatClampNeg ≤ 4 ∧ (0 : Int32).toNatClampNeg + (4 : Int32).toNatClampNeg ≤ 4) ∧ ∀ M14 : sdM, M14 = va_up M (o + 1) (va_cpy (M (p1 + 1)) (M (o + 1)) (0 : Int32).toNatClampNeg (0 : Int32).toNatClampNeg (4 : Int32).toNatClampNeg) → (¬ (0 : Int32) < 0 ∧ ¬ (0 : Int32) < 0 ∧ ¬ (48 : Int32) < 0 ∧ (0 : Int32).toNatClampNeg + (48 : Int32).toNatClampNeg ≤ 48 ∧ (0 : Int32).toNatClampNeg + (48 : Int32).toNatClampNeg ≤ 48) ∧ ∀ M17 : sdM, M17 = va_up M14 (o + 2) (va_cpy (M14 (p1 + 2)) (M14 (o + 2)) (0 : Int32).toNatClampNeg (0 : Int32).toNatClampNeg (48 : Int32).toNatClampNeg) → (¬ (0 : Int32) < 0 ∧ ¬ (0 : Int32) < 0 ∧ ¬ (192 : Int32) < 0 ∧ (0 : Int32).toNatClampNeg + (192 : Int32).toNatClampNeg ≤ 192 ∧ (0 : Int32).toNatClampNeg + (192 : Int32).toNatClampNeg ≤ 192) ∧ ∀ M20 : sdM, M20 = va_up M17 (o + 3) (va_cpy (M17 (p1 + 3)) (M17 (o + 3)) (0 : Int32).toNatClampNeg (0 : Int32).toNatClampNeg (192 : Int32).toNatClampNeg) → (¬ (0 : Int32) < 0 ∧ ¬ (0 : Int32) < 0 ∧ ¬ (48 : Int32) < 0 ∧ (0 : Int32).toNatClampNeg + (48 : Int32).toNatClampNeg ≤ 48 ∧ (0 : Int32).toNatClampNeg + (48 : Int32).toNatClampNeg ≤ 48) ∧ ∀ M23 : sdM, M23 = va_up M20 (o + 4) (va_cpy (M20 (p1 + 4)) (M20 (o + 4)) (0 : Int32).toNatClampNeg (0 : Int32).toNatClampNeg (48 : Int32).toNatClampNeg) → Q M23
set_option maxHeartbeats 1000000 in
theorem c_S_copyFrom {p1 : Nat} {o : Nat} (hA : sd_ad b n ad) (hT : l.stackTraces = false) (ho : isS n L dA o) (hp1 : isS n L dA p1) {Q : sdM → Prop} {M : sdM} (hw : w_S_copyFrom o M p1 Q) : sd_Cn l (sdE0 sc) y_S_copyFrom Y_S_copyFrom.2.2.2.2.1 Y_S_copyFrom.2.2.2.2.2.1 0 0 D (sd_tys dA) b n ad L M [.ref o, .ref p1] (sd_qv Q) sd_xf := by
  refine sd_enter (Y := Y_S_copyFrom) rfl rfl rfl (Nat.le_of_ble_eq_true rfl) ?_
  show sdW l (sdE0 sc) Y_S_copyFrom D (sd_tys dA) b n ad L ad (sd_H D (sdE0 sc).1 n ad L) (sd_qv Q) sd_xf 0 [(0, .ref o), (1, .ref p1)] [] M 0 0
  unfold w_S_copyFrom at hw
  refine x_aload_n 1 1 d_S_copyFrom_0 rfl rfl ?_
  refine x_getr 0 (p1 + 1) d_S_copyFrom_1 hp1.1 hp1.2.1 rfl rfl (by decide) lay_S (List.mem_cons_of_mem _ q0) rfl ?_
  refine x_iconst (v := 0) d_S_copyFrom_4 (by decide) ?_
  refine x_aload_n 0 0 d_S_copyFrom_5 rfl rfl ?_
  refine x_getr 0 (o + 1) d_S_copyFrom_6 ho.1 ho.2.1 rfl rfl (by decide) lay_S (List.mem_cons_of_mem _ q0) rfl ?_
  refine x_iconst (v := 0) d_S_copyFrom_9 (by decide) ?_
  refine x_iconst (v := 4) d_S_copyFrom_10 (by decide) ?_
  obtain ⟨hi13, hw⟩ := hw
  refine x_copyi hA d_S_copyFrom_11 (List.mem_cons_of_mem _ q33) (List.mem_cons_of_mem _ q34) (List.mem_cons_of_mem _ q35) (List.mem_cons_of_mem _ q36) hp1.counts.1 hp1.counts.2 ho.counts.1 ho.counts.2 rfl hi13 (Nat.le_of_ble_eq_true rfl) (Nat.le_of_ble_eq_true rfl) (fun M14 e15 => ?_)
  have hw := hw M14 e15
  clear e15
  refine x_aload_n 1 1 d_S_copyFrom_14 rfl rfl ?_
  refine x_getr 1 (p1 + 2) d_S_copyFrom_15 hp1.1 hp1.2.1 rfl rfl (by decide) lay_S (List.mem_cons_of_mem _ q16) rfl ?_
  refine x_iconst (v := 0) d_S_copyFrom_18 (by decide) ?_
  refine x_aload_n 0 0 d_S_copyFrom_19 rfl rfl ?_
  refine x_getr 1 (o + 2) d_S_copyFrom_20 ho.1 ho.2.1 rfl rfl (by decide) lay_S (List.mem_cons_of_mem _ q16) rfl ?_
  refine x_iconst (v := 0) d_S_copyFrom_23 (by decide) ?_
  refine x_bipush (v := 48) d_S_copyFrom_24 (by decide) ?_
  obtain ⟨hi16, hw⟩ := hw
  refine x_copyi hA d_S_copyFrom_26 (List.mem_cons_of_mem _ q33) (List.mem_cons_of_mem _ q34) (List.mem_cons_of_mem _ q35) (List.mem_cons_of_mem _ q36) hp1.keys.1 hp1.keys.2 ho.keys.1 ho.keys.2 rfl hi16 (Nat.le_of_ble_eq_true rfl) (Nat.le_of_ble_eq_true rfl) (fun M17 e18 => ?_)
  have hw := hw M17 e18
  clear e18
  refine x_aload_n 1 1 d_S_copyFrom_29 rfl rfl ?_
  refine x_getr 2 (p1 + 3) d_S_copyFrom_30 hp1.1 hp1.2.1 rfl rfl (by decide) lay_S (List.mem_cons_of_mem _ q2) rfl ?_
  refine x_iconst (v := 0) d_S_copyFrom_33 (by decide) ?_
  refine x_aload_n 0 0 d_S_copyFrom_34 rfl rfl ?_
  refine x_getr 2 (o + 3) d_S_copyFrom_35 ho.1 ho.2.1 rfl rfl (by decide) lay_S (List.mem_cons_of_mem _ q2) rfl ?_
  refine x_iconst (v := 0) d_S_copyFrom_38 (by decide) ?_
  refine x_sipush (v := 192) d_S_copyFrom_39 (by decide) ?_
  obtain ⟨hi19, hw⟩ := hw
  refine x_copyi hA d_S_copyFrom_42 (List.mem_cons_of_mem _ q33) (List.mem_cons_of_mem _ q34) (List.mem_cons_of_mem _ q35) (List.mem_cons_of_mem _ q36) hp1.values.1 hp1.values.2 ho.values.1 ho.values.2 rfl hi19 (Nat.le_of_ble_eq_true rfl) (Nat.le_of_ble_eq_true rfl) (fun M20 e21 => ?_)
  have hw := hw M20 e21
  clear e21
  refine x_aload_n 1 1 d_S_copyFrom_45 rfl rfl ?_
  refine x_getr 3 (p1 + 4) d_S_copyFrom_46 hp1.1 hp1.2.1 rfl rfl (by decide) lay_S (List.mem_cons_of_mem _ q1) rfl ?_
  refine x_iconst (v := 0) d_S_copyFrom_49 (by decide) ?_
  refine x_aload_n 0 0 d_S_copyFrom_50 rfl rfl ?_
  refine x_getr 3 (o + 4) d_S_copyFrom_51 ho.1 ho.2.1 rfl rfl (by decide) lay_S (List.mem_cons_of_mem _ q1) rfl ?_
  refine x_iconst (v := 0) d_S_copyFrom_54 (by decide) ?_
  refine x_bipush (v := 48) d_S_copyFrom_55 (by decide) ?_
  obtain ⟨hi22, hw⟩ := hw
  refine x_copyi hA d_S_copyFrom_57 (List.mem_cons_of_mem _ q33) (List.mem_cons_of_mem _ q34) (List.mem_cons_of_mem _ q35) (List.mem_cons_of_mem _ q36) hp1.given.1 hp1.given.2 ho.given.1 ho.given.2 rfl hi22 (Nat.le_of_ble_eq_true rfl) (Nat.le_of_ble_eq_true rfl) (fun M23 e24 => ?_)
  have hw := hw M23 e24
  clear e24
  exact x_vret d_S_copyFrom_60 rfl (fun _ h => h) ⟨rfl, hw⟩
end
abbrev y_JM_min : MethodName := ⟨"java/lang/Math", "min", "(II)I"⟩
theorem d_JM_min_0 : decode prog_17_method_69_code 0 = .ok (.iload_n 0, 1) := by decide +kernel
theorem d_JM_min_1 : decode prog_17_method_69_code 1 = .ok (.iload_n 1, 1) := by decide +kernel
theorem d_JM_min_2 : decode prog_17_method_69_code 2 = .ok (.if_icmp .gt (7), 3) := by decide +kernel
theorem d_JM_min_5 : decode prog_17_method_69_code 5 = .ok (.iload_n 0, 1) := by decide +kernel
theorem d_JM_min_6 : decode prog_17_method_69_code 6 = .ok (.goto (4), 3) := by decide +kernel
theorem d_JM_min_9 : decode prog_17_method_69_code 9 = .ok (.iload_n 1, 1) := by decide +kernel
theorem d_JM_min_10 : decode prog_17_method_69_code 10 = .ok (.ireturn, 1) := by decide +kernel
def Y_JM_min : sdY := ("java/lang/Math", prog_17_method_69_code, 2, (some .int), .code y_JM_min prog_17_method_69_code 2 (some .int) :: sdB0, { frames := 0, cells := 0, slots := 0, locals := 0 }, 0, 0)
section
variable {l : Launch} {D : va_G} {dA : Nat → ClassId} {b n : Nat} {ad : Nat → Nat} {L : Nat → sdL} {sc : Option (Nat × Nat × (Nat → Int32))}
def k_JM_min_10 (Q : Int32 → sdM → Prop) (M : sdM) (s0 : Int32) : Prop := Q s0 M
set_option maxHeartbeats 1000000 in
theorem t_JM_min_10 (hA : sd_ad b n ad) (hT : l.stackTraces = false) {Q : Int32 → sdM → Prop} (M : sdM) (s0 : Int32) (hw : k_JM_min_10 Q M s0) : sdW l (sdE0 sc) Y_JM_min D (sd_tys dA) b n ad L ad (sd_H D (sdE0 sc).1 n ad L) (sd_qi Q) sd_xf 10 [] [.int s0] M 0 0 := by
  unfold k_JM_min_10 at hw
  exact x_iret d_JM_min_10 rfl (fun _ h => h) ⟨_, rfl, hw⟩
def w_JM_min (M : sdM) (a0 : Int32) (a1 : Int32) (Q : Int32 → sdM → Prop) : Prop := (a1 < a0 → k_JM_min_10 Q M a1) ∧ (¬ a1 < a0 → k_JM_min_10 Q M a0)
set_option maxHeartbeats 1000000 in
theorem c_JM_min {a0 : Int32} {a1 : Int32} (hA : sd_ad b n ad) (hT : l.stackTraces = false) {Q : Int32 → sdM → Prop} {M : sdM} (hw : w_JM_min M a0 a1 Q) : sd_Cn l (sdE0 sc) y_JM_min Y_JM_min.2.2.2.2.1 Y_JM_min.2.2.2.2.2.1 0 0 D (sd_tys dA) b n ad L M [.int a0, .int a1] (sd_qi Q) sd_xf := by
  refine sd_enter (Y := Y_JM_min) (by decide +kernel) rfl rfl (Nat.le_of_ble_eq_true rfl) ?_
  show sdW l (sdE0 sc) Y_JM_min D (sd_tys dA) b n ad L ad (sd_H D (sdE0 sc).1 n ad L) (sd_qi Q) sd_xf 0 [(0, .int a0), (1, .int a1)] [] M 0 0
  unfold w_JM_min at hw
  refine x_iload_n 0 0 d_JM_min_0 rfl rfl ?_
  refine x_iload_n 1 1 d_JM_min_1 rfl rfl ?_
  refine x_icmp_gt 9 d_JM_min_2 rfl (fun hc => ?_) (fun hc => ?_)
  · have hw := hw.1 hc
    refine x_iload_n 1 1 d_JM_min_9 rfl rfl ?_
    refine x_sub [] [] rfl ?_
    exact t_JM_min_10 hA hT M a1 hw
  · have hw := hw.2 hc
    refine x_iload_n 0 0 d_JM_min_5 rfl rfl ?_
    refine x_goto 10 d_JM_min_6 rfl ?_
    refine x_sub [] [] rfl ?_
    exact t_JM_min_10 hA hT M a0 hw
end
theorem q37 : (.fieldLink "SettingsDesk$Settings" 70 "SettingsDesk$Leaf" "hasStandard" "Z" : Cond) ∈ sdB0 := sd_tb1 59 rfl rfl
abbrev y_S_isNothing : MethodName := ⟨"SettingsDesk$Settings", "isNothing", "(IILSettingsDesk$Leaf;)Z"⟩
theorem d_S_isNothing_0 : decode prog_9_method_18_code 0 = .ok (.aload_n 0, 1) := by decide +kernel
theorem d_S_isNothing_1 : decode prog_9_method_18_code 1 = .ok (.iload_n 1, 1) := by decide +kernel
theorem d_S_isNothing_2 : decode prog_9_method_18_code 2 = .ok (.iload_n 2, 1) := by decide +kernel
theorem d_S_isNothing_3 : decode prog_9_method_18_code 3 = .ok (.invokevirtual 59, 3) := by decide +kernel
theorem d_S_isNothing_6 : decode prog_9_method_18_code 6 = .ok (.ifCond .ne (14), 3) := by decide +kernel
theorem d_S_isNothing_9 : decode prog_9_method_18_code 9 = .ok (.aload_n 3, 1) := by decide +kernel
theorem d_S_isNothing_10 : decode prog_9_method_18_code 10 = .ok (.getfield 70, 3) := by decide +kernel
theorem d_S_isNothing_13 : decode prog_9_method_18_code 13 = .ok (.ifCond .ne (7), 3) := by decide +kernel
theorem d_S_isNothing_16 : decode prog_9_method_18_code 16 = .ok (.iconst 1, 1) := by decide +kernel
theorem d_S_isNothing_17 : decode prog_9_method_18_code 17 = .ok (.goto (4), 3) := by decide +kernel
theorem d_S_isNothing_20 : decode prog_9_method_18_code 20 = .ok (.iconst 0, 1) := by decide +kernel
theorem d_S_isNothing_21 : decode prog_9_method_18_code 21 = .ok (.ireturn, 1) := by decide +kernel
def Y_S_isNothing : sdY := ("SettingsDesk$Settings", prog_9_method_18_code, 4, (some .boolean), .code y_S_isNothing prog_9_method_18_code 4 (some .boolean) :: sdB0, { frames := 1, cells := 0, slots := 0, locals := 22 }, 0, 0)
theorem cw_S_isNothing_S_isGiven_59 : sd_cwV Y_S_isNothing Y_S_isGiven y_S_isGiven 59 2 "SettingsDesk$Settings" := ⟨sd_goodV q3 q5 q6 q7 q4, ⟨_, rfl⟩, ⟨rfl, rfl, rfl, rfl⟩, ⟨rfl, by decide, by decide, by decide +kernel⟩, ⟨by decide, by decide⟩⟩
section
variable {l : Launch} {D : va_G} {dA : Nat → ClassId} {b n : Nat} {ad : Nat → Nat} {L : Nat → sdL} {sc : Option (Nat × Nat × (Nat → Int32))}
def k_S_isNothing_21 (o : Nat) (Q : Int32 → sdM → Prop) (M : sdM) (s0 : Int32) : Prop := sdB s0 ∧ Q s0 M
set_option maxHeartbeats 1000000 in
theorem t_S_isNothing_21 {o : Nat} (hA : sd_ad b n ad) (hT : l.stackTraces = false) (ho : isS n L dA o) {Q : Int32 → sdM → Prop} (M : sdM) (s0 : Int32) (hw : k_S_isNothing_21 o Q M s0) : sdW l (sdE0 sc) Y_S_isNothing D (sd_tys dA) b n ad L ad (sd_H D (sdE0 sc).1 n ad L) (sd_qi Q) sd_xf 21 [] [.int s0] M 0 0 := by
  unfold k_S_isNothing_21 at hw
  exact x_zret d_S_isNothing_21 rfl (sdB_n hw.1) (fun _ h => h) ⟨_, rfl, hw.2⟩
def k_S_isNothing_20 (o : Nat) (Q : Int32 → sdM → Prop) (M : sdM) : Prop := k_S_isNothing_21 o Q M (0 : Int32)
set_option maxHeartbeats 1000000 in
theorem t_S_isNothing_20 {o : Nat} (hA : sd_ad b n ad) (hT : l.stackTraces = false) (ho : isS n L dA o) {Q : Int32 → sdM → Prop} (M : sdM) (hw : k_S_isNothing_20 o Q M ) : sdW l (sdE0 sc) Y_S_isNothing D (sd_tys dA) b n ad L ad (sd_H D (sdE0 sc).1 n ad L) (sd_qi Q) sd_xf 20 [] [] M 0 0 := by
  unfold k_S_isNothing_20 at hw
  refine x_iconst (v := 0) d_S_isNothing_20 (by decide) ?_
  exact t_S_isNothing_21 hA hT ho M (0 : Int32) hw
def w_S_isNothing (o : Nat) (M : sdM) (a1 : Int32) (a2 : Int32) (p3 : Nat) (Q : Int32 → sdM → Prop) : Prop := w_S_isGiven o M a1 a2 (fun r4 M3 => (¬ r4 = 0 → k_S_isNothing_20 o Q M3) ∧ (r4 = 0 → (¬ (M3 p3 5) = 0 → k_S_isNothing_20 o Q M3) ∧ ((M3 p3 5) = 0 → k_S_isNothing_21 o Q M3 (1 : Int32))))
set_option maxHeartbeats 1000000 in
theorem c_S_isNothing {a1 : Int32} {a2 : Int32} {p3 : Nat} {o : Nat} (hA : sd_ad b n ad) (hT : l.stackTraces = false) (ho : isS n L dA o) (hp3 : isF n L p3) {Q : Int32 → sdM → Prop} {M : sdM} (hw : w_S_isNothing o M a1 a2 p3 Q) : sd_Cn l (sdE0 sc) y_S_isNothing Y_S_isNothing.2.2.2.2.1 Y_S_isNothing.2.2.2.2.2.1 0 0 D (sd_tys dA) b n ad L M [.ref o, .int a1, .int a2, .ref p3] (sd_qi Q) sd_xf := by
  refine sd_enter (Y := Y_S_isNothing) rfl rfl rfl (Nat.le_of_ble_eq_true rfl) ?_
  show sdW l (sdE0 sc) Y_S_isNothing D (sd_tys dA) b n ad L ad (sd_H D (sdE0 sc).1 n ad L) (sd_qi Q) sd_xf 0 [(0, .ref o), (1, .int a1), (2, .int a2), (3, .ref p3)] [] M 0 0
  unfold w_S_isNothing at hw
  refine x_aload_n 0 0 d_S_isNothing_0 rfl rfl ?_
  refine x_iload_n 1 1 d_S_isNothing_1 rfl rfl ?_
  refine x_iload_n 2 2 d_S_isNothing_2 rfl rfl ?_
  refine x_callVi (As := [.int a1, .int a2]) (t := o) (rest := []) (rc := 0) (rs := 0) (c_S_isGiven hA hT ho hw) cw_S_isNothing_S_isGiven_59 ho.1 ho.2.1 rfl d_S_isNothing_3 rfl rfl (Nat.le_of_ble_eq_true rfl) (fun _ _ h => h.elim) (fun _ _ h => h) (fun r4 M3 hw => ?_)
  refine x_if_ne 20 d_S_isNothing_6 rfl (fun hc => ?_) (fun hc => ?_)
  · have hw := hw.1 hc
    refine x_sub [] [] rfl ?_
    exact t_S_isNothing_20 hA hT ho M3 hw
  · have hw := hw.2 hc
    refine x_aload_n 3 3 d_S_isNothing_9 rfl rfl ?_
    refine x_geti 5 d_S_isNothing_10 hp3.1 hp3.2 rfl rfl (by decide) lay_F (List.mem_cons_of_mem _ q37) rfl ?_
    refine x_if_ne 20 d_S_isNothing_13 rfl (fun hc => ?_) (fun hc => ?_)
    · have hw := hw.1 hc
      refine x_sub [] [] rfl ?_
      exact t_S_isNothing_20 hA hT ho M3 hw
    · have hw := hw.2 hc
      refine x_iconst (v := 1) d_S_isNothing_16 (by decide) ?_
      refine x_goto 21 d_S_isNothing_17 rfl ?_
      refine x_sub [] [] rfl ?_
      exact t_S_isNothing_21 hA hT ho M3 (1 : Int32) hw
end
abbrev y_S_rowOf : MethodName := ⟨"SettingsDesk$Settings", "rowOf", "(II)I"⟩
theorem d_S_rowOf_0 : decode prog_9_method_6_code 0 = .ok (.aload_n 0, 1) := by decide +kernel
theorem d_S_rowOf_1 : decode prog_9_method_6_code 1 = .ok (.iload_n 1, 1) := by decide +kernel
theorem d_S_rowOf_2 : decode prog_9_method_6_code 2 = .ok (.invokevirtual 36, 3) := by decide +kernel
theorem d_S_rowOf_5 : decode prog_9_method_6_code 5 = .ok (.istore_n 3, 1) := by decide +kernel
theorem d_S_rowOf_6 : decode prog_9_method_6_code 6 = .ok (.iload_n 3, 1) := by decide +kernel
theorem d_S_rowOf_7 : decode prog_9_method_6_code 7 = .ok (.aload_n 0, 1) := by decide +kernel
theorem d_S_rowOf_8 : decode prog_9_method_6_code 8 = .ok (.iload_n 1, 1) := by decide +kernel
theorem d_S_rowOf_9 : decode prog_9_method_6_code 9 = .ok (.invokevirtual 40, 3) := by decide +kernel
theorem d_S_rowOf_12 : decode prog_9_method_6_code 12 = .ok (.if_icmp .ge (21), 3) := by decide +kernel
theorem d_S_rowOf_15 : decode prog_9_method_6_code 15 = .ok (.aload_n 0, 1) := by decide +kernel
theorem d_S_rowOf_16 : decode prog_9_method_6_code 16 = .ok (.getfield 15, 3) := by decide +kernel
theorem d_S_rowOf_19 : decode prog_9_method_6_code 19 = .ok (.iload_n 3, 1) := by decide +kernel
theorem d_S_rowOf_20 : decode prog_9_method_6_code 20 = .ok (.iaload, 1) := by decide +kernel
theorem d_S_rowOf_21 : decode prog_9_method_6_code 21 = .ok (.iload_n 2, 1) := by decide +kernel
theorem d_S_rowOf_22 : decode prog_9_method_6_code 22 = .ok (.if_icmp .ne (5), 3) := by decide +kernel
theorem d_S_rowOf_25 : decode prog_9_method_6_code 25 = .ok (.iload_n 3, 1) := by decide +kernel
theorem d_S_rowOf_26 : decode prog_9_method_6_code 26 = .ok (.ireturn, 1) := by decide +kernel
theorem d_S_rowOf_27 : decode prog_9_method_6_code 27 = .ok (.iinc 3 (1), 3) := by decide +kernel
theorem d_S_rowOf_30 : decode prog_9_method_6_code 30 = .ok (.goto (-24), 3) := by decide +kernel
theorem d_S_rowOf_33 : decode prog_9_method_6_code 33 = .ok (.iconst (-1), 1) := by decide +kernel
theorem d_S_rowOf_34 : decode prog_9_method_6_code 34 = .ok (.ireturn, 1) := by decide +kernel
def Y_S_rowOf : sdY := ("SettingsDesk$Settings", prog_9_method_6_code, 4, (some .int), .code y_S_rowOf prog_9_method_6_code 4 (some .int) :: sdB0, { frames := 1, cells := 0, slots := 0, locals := 21 }, 0, 0)
theorem cw_S_rowOf_S_firstRow_36 : sd_cwV Y_S_rowOf Y_S_firstRow y_S_firstRow 36 1 "SettingsDesk$Settings" := ⟨sd_goodV q17 q19 q20 q7 q18, ⟨_, rfl⟩, ⟨rfl, rfl, rfl, rfl⟩, ⟨rfl, by decide, by decide, by decide +kernel⟩, ⟨by decide, by decide⟩⟩
theorem cw_S_rowOf_S_endRow_40 : sd_cwV Y_S_rowOf Y_S_endRow y_S_endRow 40 1 "SettingsDesk$Settings" := ⟨sd_goodV q21 q23 q24 q7 q22, ⟨_, rfl⟩, ⟨rfl, rfl, rfl, rfl⟩, ⟨rfl, by decide, by decide, by decide +kernel⟩, ⟨by decide, by decide⟩⟩
section
variable {l : Launch} {D : va_G} {dA : Nat → ClassId} {b n : Nat} {ad : Nat → Nat} {L : Nat → sdL} {sc : Option (Nat × Nat × (Nat → Int32))}
def h_S_rowOf_6 (o : Nat) (Q : Int32 → sdM → Prop) : Nat → sdM → Int32 → Int32 → Int32 → Prop
  | 0, _, _, _, _ => False
  | N + 1, M, x1, x2, x3 => w_S_endRow o M x1 (fun r7 M6 => (r7 ≤ x3 → Q (-1 : Int32) M6) ∧ (¬ r7 ≤ x3 → vp_in x3 48 ∧ (¬ (M6 (o + 2) x3.toNatClampNeg) = x2 → h_S_rowOf_6 o Q N M6 x1 x2 (x3 + 1)) ∧ ((M6 (o + 2) x3.toNatClampNeg) = x2 → Q x3 M6)))
set_option maxHeartbeats 1000000 in
theorem t_S_rowOf_6 {o : Nat} (hA : sd_ad b n ad) (hT : l.stackTraces = false) (ho : isS n L dA o) {Q : Int32 → sdM → Prop} (N : Nat) : ∀ (M : sdM) (x1 : Int32) (x2 : Int32) (x3 : Int32), h_S_rowOf_6 o Q N M x1 x2 x3 → sdW l (sdE0 sc) Y_S_rowOf D (sd_tys dA) b n ad L ad (sd_H D (sdE0 sc).1 n ad L) (sd_qi Q) sd_xf 6 [(0, .ref o), (1, .int x1), (2, .int x2), (3, .int x3)] [] M 0 0 := by
  induction N with
  | zero => intro M x1 x2 x3 hw; exact hw.elim
  | succ N ih =>
    intro M x1 x2 x3 hw
    rw [h_S_rowOf_6] at hw
    refine x_iload_n 3 3 d_S_rowOf_6 rfl rfl ?_
    refine x_aload_n 0 0 d_S_rowOf_7 rfl rfl ?_
    refine x_iload_n 1 1 d_S_rowOf_8 rfl rfl ?_
    refine x_callVi (As := [.int x1]) (t := o) (rest := [.int x3]) (rc := 0) (rs := 0) (c_S_endRow hA hT ho hw) cw_S_rowOf_S_endRow_40 ho.1 ho.2.1 rfl d_S_rowOf_9 rfl rfl (Nat.le_of_ble_eq_true rfl) (fun _ _ h => h.elim) (fun _ _ h => h) (fun r7 M6 hw => ?_)
    refine x_icmp_ge 33 d_S_rowOf_12 rfl (fun hc => ?_) (fun hc => ?_)
    · have hw := hw.1 hc
      refine x_iconst (v := (-1)) d_S_rowOf_33 (by decide) ?_
      exact x_iret d_S_rowOf_34 rfl (fun _ h => h) ⟨_, rfl, hw⟩
    · have hw := hw.2 hc
      refine x_aload_n 0 0 d_S_rowOf_15 rfl rfl ?_
      refine x_getr 1 (o + 2) d_S_rowOf_16 ho.1 ho.2.1 rfl rfl (by decide) lay_S (List.mem_cons_of_mem _ q16) rfl ?_
      refine x_iload_n 3 3 d_S_rowOf_19 rfl rfl ?_
      obtain ⟨hi8, hw⟩ := hw
      refine x_iald d_S_rowOf_20 ho.keys.1 ho.keys.2 rfl hi8 ?_
      refine x_iload_n 2 2 d_S_rowOf_21 rfl rfl ?_
      refine x_icmp_ne 27 d_S_rowOf_22 rfl (fun hc => ?_) (fun hc => ?_)
      · have hw := hw.1 hc
        refine x_iinc 3 3 [(3, .int (x3 + 1)), (0, .ref o), (1, .int x1), (2, .int x2)] d_S_rowOf_27 rfl (congrArg (HAdd.hAdd x3) (show Int32.ofInt 1 = 1 by decide)) (by decide) rfl ?_
        refine x_goto 6 d_S_rowOf_30 rfl ?_
        refine x_sub [1, 2, 3, 0] [(0, .ref o), (1, .int x1), (2, .int x2), (3, .int (x3 + 1))] rfl ?_
        exact ih M6 x1 x2 (x3 + 1) hw
      · have hw := hw.2 hc
        refine x_iload_n 3 3 d_S_rowOf_25 rfl rfl ?_
        exact x_iret d_S_rowOf_26 rfl (fun _ h => h) ⟨_, rfl, hw⟩
def w_S_rowOf (o : Nat) (M : sdM) (a1 : Int32) (a2 : Int32) (Q : Int32 → sdM → Prop) : Prop := w_S_firstRow o M a1 (fun r10 M9 => ∃ N9 : Nat, h_S_rowOf_6 o Q N9 M9 a1 a2 r10)
set_option maxHeartbeats 1000000 in
theorem c_S_rowOf {a1 : Int32} {a2 : Int32} {o : Nat} (hA : sd_ad b n ad) (hT : l.stackTraces = false) (ho : isS n L dA o) {Q : Int32 → sdM → Prop} {M : sdM} (hw : w_S_rowOf o M a1 a2 Q) : sd_Cn l (sdE0 sc) y_S_rowOf Y_S_rowOf.2.2.2.2.1 Y_S_rowOf.2.2.2.2.2.1 0 0 D (sd_tys dA) b n ad L M [.ref o, .int a1, .int a2] (sd_qi Q) sd_xf := by
  refine sd_enter (Y := Y_S_rowOf) rfl rfl rfl (Nat.le_of_ble_eq_true rfl) ?_
  show sdW l (sdE0 sc) Y_S_rowOf D (sd_tys dA) b n ad L ad (sd_H D (sdE0 sc).1 n ad L) (sd_qi Q) sd_xf 0 [(0, .ref o), (1, .int a1), (2, .int a2)] [] M 0 0
  unfold w_S_rowOf at hw
  refine x_aload_n 0 0 d_S_rowOf_0 rfl rfl ?_
  refine x_iload_n 1 1 d_S_rowOf_1 rfl rfl ?_
  refine x_callVi (As := [.int a1]) (t := o) (rest := []) (rc := 0) (rs := 0) (c_S_firstRow hA hT ho hw) cw_S_rowOf_S_firstRow_36 ho.1 ho.2.1 rfl d_S_rowOf_2 rfl rfl (Nat.le_of_ble_eq_true rfl) (fun _ _ h => h.elim) (fun _ _ h => h) (fun r10 M9 hw => ?_)
  refine x_istore_n 3 [(3, .int r10), (0, .ref o), (1, .int a1), (2, .int a2)] d_S_rowOf_5 rfl (by decide) rfl ?_
  refine x_sub [1, 2, 3, 0] [(0, .ref o), (1, .int a1), (2, .int a2), (3, .int r10)] rfl ?_
  obtain ⟨N9, hw⟩ := hw
  exact t_S_rowOf_6 hA hT ho N9 M9 a1 a2 r10 hw
end
theorem q38 : (.fieldLink "SettingsDesk$Settings" 76 "SettingsDesk$Leaf" "standardValue" "I" : Cond) ∈ sdB0 := sd_tb1 61 rfl rfl
abbrev y_S_whatIs : MethodName := ⟨"SettingsDesk$Settings", "whatIs", "(IILSettingsDesk$Leaf;)I"⟩
theorem d_S_whatIs_0 : decode prog_9_method_19_code 0 = .ok (.aload_n 0, 1) := by decide +kernel
theorem d_S_whatIs_1 : decode prog_9_method_19_code 1 = .ok (.iload_n 1, 1) := by decide +kernel
theorem d_S_whatIs_2 : decode prog_9_method_19_code 2 = .ok (.iload_n 2, 1) := by decide +kernel
theorem d_S_whatIs_3 : decode prog_9_method_19_code 3 = .ok (.invokevirtual 59, 3) := by decide +kernel
theorem d_S_whatIs_6 : decode prog_9_method_19_code 6 = .ok (.ifCond .eq (12), 3) := by decide +kernel
theorem d_S_whatIs_9 : decode prog_9_method_19_code 9 = .ok (.aload_n 0, 1) := by decide +kernel
theorem d_S_whatIs_10 : decode prog_9_method_19_code 10 = .ok (.iload_n 1, 1) := by decide +kernel
theorem d_S_whatIs_11 : decode prog_9_method_19_code 11 = .ok (.iload_n 2, 1) := by decide +kernel
theorem d_S_whatIs_12 : decode prog_9_method_19_code 12 = .ok (.invokevirtual 63, 3) := by decide +kernel
theorem d_S_whatIs_15 : decode prog_9_method_19_code 15 = .ok (.goto (7), 3) := by decide +kernel
theorem d_S_whatIs_18 : decode prog_9_method_19_code 18 = .ok (.aload_n 3, 1) := by decide +kernel
theorem d_S_whatIs_19 : decode prog_9_method_19_code 19 = .ok (.getfield 76, 3) := by decide +kernel
theorem d_S_whatIs_22 : decode prog_9_method_19_code 22 = .ok (.ireturn, 1) := by decide +kernel
def Y_S_whatIs : sdY := ("SettingsDesk$Settings", prog_9_method_19_code, 4, (some .int), .code y_S_whatIs prog_9_method_19_code 4 (some .int) :: sdB0, { frames := 1, cells := 0, slots := 0, locals := 22 }, 0, 0)
theorem cw_S_whatIs_S_isGiven_59 : sd_cwV Y_S_whatIs Y_S_isGiven y_S_isGiven 59 2 "SettingsDesk$Settings" := ⟨sd_goodV q3 q5 q6 q7 q4, ⟨_, rfl⟩, ⟨rfl, rfl, rfl, rfl⟩, ⟨rfl, by decide, by decide, by decide +kernel⟩, ⟨by decide, by decide⟩⟩
theorem cw_S_whatIs_S_valueAt_63 : sd_cwV Y_S_whatIs Y_S_valueAt y_S_valueAt 63 2 "SettingsDesk$Settings" := ⟨sd_goodV q8 q10 q11 q7 q9, ⟨_, rfl⟩, ⟨rfl, rfl, rfl, rfl⟩, ⟨rfl, by decide, by decide, by decide +kernel⟩, ⟨by decide, by decide⟩⟩
section
variable {l : Launch} {D : va_G} {dA : Nat → ClassId} {b n : Nat} {ad : Nat → Nat} {L : Nat → sdL} {sc : Option (Nat × Nat × (Nat → Int32))}
def k_S_whatIs_22 (o : Nat) (Q : Int32 → sdM → Prop) (M : sdM) (s0 : Int32) : Prop := Q s0 M
set_option maxHeartbeats 1000000 in
theorem t_S_whatIs_22 {o : Nat} (hA : sd_ad b n ad) (hT : l.stackTraces = false) (ho : isS n L dA o) {Q : Int32 → sdM → Prop} (M : sdM) (s0 : Int32) (hw : k_S_whatIs_22 o Q M s0) : sdW l (sdE0 sc) Y_S_whatIs D (sd_tys dA) b n ad L ad (sd_H D (sdE0 sc).1 n ad L) (sd_qi Q) sd_xf 22 [] [.int s0] M 0 0 := by
  unfold k_S_whatIs_22 at hw
  exact x_iret d_S_whatIs_22 rfl (fun _ h => h) ⟨_, rfl, hw⟩
def w_S_whatIs (o : Nat) (M : sdM) (a1 : Int32) (a2 : Int32) (p3 : Nat) (Q : Int32 → sdM → Prop) : Prop := w_S_isGiven o M a1 a2 (fun r6 M5 => (r6 = 0 → k_S_whatIs_22 o Q M5 (M5 p3 6)) ∧ (¬ r6 = 0 → w_S_valueAt o M5 a1 a2 (fun r8 M7 => k_S_whatIs_22 o Q M7 r8)))
set_option maxHeartbeats 1000000 in
theorem c_S_whatIs {a1 : Int32} {a2 : Int32} {p3 : Nat} {o : Nat} (hA : sd_ad b n ad) (hT : l.stackTraces = false) (ho : isS n L dA o) (hp3 : isF n L p3) {Q : Int32 → sdM → Prop} {M : sdM} (hw : w_S_whatIs o M a1 a2 p3 Q) : sd_Cn l (sdE0 sc) y_S_whatIs Y_S_whatIs.2.2.2.2.1 Y_S_whatIs.2.2.2.2.2.1 0 0 D (sd_tys dA) b n ad L M [.ref o, .int a1, .int a2, .ref p3] (sd_qi Q) sd_xf := by
  refine sd_enter (Y := Y_S_whatIs) rfl rfl rfl (Nat.le_of_ble_eq_true rfl) ?_
  show sdW l (sdE0 sc) Y_S_whatIs D (sd_tys dA) b n ad L ad (sd_H D (sdE0 sc).1 n ad L) (sd_qi Q) sd_xf 0 [(0, .ref o), (1, .int a1), (2, .int a2), (3, .ref p3)] [] M 0 0
  unfold w_S_whatIs at hw
  refine x_aload_n 0 0 d_S_whatIs_0 rfl rfl ?_
  refine x_iload_n 1 1 d_S_whatIs_1 rfl rfl ?_
  refine x_iload_n 2 2 d_S_whatIs_2 rfl rfl ?_
  refine x_callVi (As := [.int a1, .int a2]) (t := o) (rest := []) (rc := 0) (rs := 0) (c_S_isGiven hA hT ho hw) cw_S_whatIs_S_isGiven_59 ho.1 ho.2.1 rfl d_S_whatIs_3 rfl rfl (Nat.le_of_ble_eq_true rfl) (fun _ _ h => h.elim) (fun _ _ h => h) (fun r6 M5 hw => ?_)
  refine x_if_eq 18 d_S_whatIs_6 rfl (fun hc => ?_) (fun hc => ?_)
  · have hw := hw.1 hc
    refine x_aload_n 3 3 d_S_whatIs_18 rfl rfl ?_
    refine x_geti 6 d_S_whatIs_19 hp3.1 hp3.2 rfl rfl (by decide) lay_F (List.mem_cons_of_mem _ q38) rfl ?_
    refine x_sub [] [] rfl ?_
    exact t_S_whatIs_22 hA hT ho M5 (M5 p3 6) hw
  · have hw := hw.2 hc
    refine x_aload_n 0 0 d_S_whatIs_9 rfl rfl ?_
    refine x_iload_n 1 1 d_S_whatIs_10 rfl rfl ?_
    refine x_iload_n 2 2 d_S_whatIs_11 rfl rfl ?_
    refine x_callVi (As := [.int a1, .int a2]) (t := o) (rest := []) (rc := 0) (rs := 0) (c_S_valueAt hA hT ho hw) cw_S_whatIs_S_valueAt_63 ho.1 ho.2.1 rfl d_S_whatIs_12 rfl rfl (Nat.le_of_ble_eq_true rfl) (fun _ _ h => h.elim) (fun _ _ h => h) (fun r8 M7 hw => ?_)
    refine x_goto 22 d_S_whatIs_15 rfl ?_
    refine x_sub [] [] rfl ?_
    exact t_S_whatIs_22 hA hT ho M7 r8 hw
end
abbrev y_S_moveRow : MethodName := ⟨"SettingsDesk$Settings", "moveRow", "(II)V"⟩
theorem d_S_moveRow_0 : decode prog_9_method_12_code 0 = .ok (.aload_n 0, 1) := by decide +kernel
theorem d_S_moveRow_1 : decode prog_9_method_12_code 1 = .ok (.getfield 15, 3) := by decide +kernel
theorem d_S_moveRow_4 : decode prog_9_method_12_code 4 = .ok (.iload_n 2, 1) := by decide +kernel
theorem d_S_moveRow_5 : decode prog_9_method_12_code 5 = .ok (.aload_n 0, 1) := by decide +kernel
theorem d_S_moveRow_6 : decode prog_9_method_12_code 6 = .ok (.getfield 15, 3) := by decide +kernel
theorem d_S_moveRow_9 : decode prog_9_method_12_code 9 = .ok (.iload_n 1, 1) := by decide +kernel
theorem d_S_moveRow_10 : decode prog_9_method_12_code 10 = .ok (.iaload, 1) := by decide +kernel
theorem d_S_moveRow_11 : decode prog_9_method_12_code 11 = .ok (.iastore, 1) := by decide +kernel
theorem d_S_moveRow_12 : decode prog_9_method_12_code 12 = .ok (.aload_n 0, 1) := by decide +kernel
theorem d_S_moveRow_13 : decode prog_9_method_12_code 13 = .ok (.getfield 21, 3) := by decide +kernel
theorem d_S_moveRow_16 : decode prog_9_method_12_code 16 = .ok (.iload_n 2, 1) := by decide +kernel
theorem d_S_moveRow_17 : decode prog_9_method_12_code 17 = .ok (.aload_n 0, 1) := by decide +kernel
theorem d_S_moveRow_18 : decode prog_9_method_12_code 18 = .ok (.getfield 21, 3) := by decide +kernel
theorem d_S_moveRow_21 : decode prog_9_method_12_code 21 = .ok (.iload_n 1, 1) := by decide +kernel
theorem d_S_moveRow_22 : decode prog_9_method_12_code 22 = .ok (.iaload, 1) := by decide +kernel
theorem d_S_moveRow_23 : decode prog_9_method_12_code 23 = .ok (.iastore, 1) := by decide +kernel
theorem d_S_moveRow_24 : decode prog_9_method_12_code 24 = .ok (.aload_n 0, 1) := by decide +kernel
theorem d_S_moveRow_25 : decode prog_9_method_12_code 25 = .ok (.getfield 18, 3) := by decide +kernel
theorem d_S_moveRow_28 : decode prog_9_method_12_code 28 = .ok (.iload_n 1, 1) := by decide +kernel
theorem d_S_moveRow_29 : decode prog_9_method_12_code 29 = .ok (.iconst 4, 1) := by decide +kernel
theorem d_S_moveRow_30 : decode prog_9_method_12_code 30 = .ok (.imul, 1) := by decide +kernel
theorem d_S_moveRow_31 : decode prog_9_method_12_code 31 = .ok (.aload_n 0, 1) := by decide +kernel
theorem d_S_moveRow_32 : decode prog_9_method_12_code 32 = .ok (.getfield 18, 3) := by decide +kernel
theorem d_S_moveRow_35 : decode prog_9_method_12_code 35 = .ok (.iload_n 2, 1) := by decide +kernel
theorem d_S_moveRow_36 : decode prog_9_method_12_code 36 = .ok (.iconst 4, 1) := by decide +kernel
theorem d_S_moveRow_37 : decode prog_9_method_12_code 37 = .ok (.imul, 1) := by decide +kernel
theorem d_S_moveRow_38 : decode prog_9_method_12_code 38 = .ok (.iconst 4, 1) := by decide +kernel
theorem d_S_moveRow_39 : decode prog_9_method_12_code 39 = .ok (.invokestatic 24, 3) := by decide +kernel
theorem d_S_moveRow_42 : decode prog_9_method_12_code 42 = .ok (.return_, 1) := by decide +kernel
def Y_S_moveRow : sdY := ("SettingsDesk$Settings", prog_9_method_12_code, 3, none, .code y_S_moveRow prog_9_method_12_code 3 none :: sdB0, { frames := 1, cells := 0, slots := 0, locals := 18 }, 0, 0)
section
variable {l : Launch} {D : va_G} {dA : Nat → ClassId} {b n : Nat} {ad : Nat → Nat} {L : Nat → sdL} {sc : Option (Nat × Nat × (Nat → Int32))}
def w_S_moveRow (o : Nat) (M : sdM) (a1 : Int32) (a2 : Int32) (Q : sdM → Prop) : Prop := vp_in a1 48 ∧ vp_in a2 48 ∧ ∀ M14 : sdM, M14 = sd_s M (o + 2) a2.toNatClampNeg (M (o + 2) a1.toNatClampNeg) → vp_in a1 48 ∧ vp_in a2 48 ∧ ∀ M18 : sdM, M18 = sd_s M14 (o + 4) a2.toNatClampNeg (M14 (o + 4) a1.toNatClampNeg) → (¬ (a1 * (4 : Int32)) < 0 ∧ ¬ (a2 * (4 : Int32)) < 0 ∧ ¬ (4 : Int32) < 0 ∧ (a1 * (4 : Int32)).toNatClampNeg + (4 : Int32).toNatClampNeg ≤ 192 ∧ (a2 * (4 : Int32)).toNatClampNeg + (4 : Int32).toNatClampNeg ≤ 192) ∧ ∀ M21 : sdM, M21 = va_up M18 (o + 3) (va_cpy (M18 (o + 3)) (M18 (o + 3)) (a1 * (4 : Int32)).toNatClampNeg (a2 * (4 : Int32)).toNatClampNeg (4 : Int32).toNatClampNeg) → Q M21
set_option maxHeartbeats 1000000 in
theorem c_S_moveRow {a1 : Int32} {a2 : Int32} {o : Nat} (hA : sd_ad b n ad) (hT : l.stackTraces = false) (ho : isS n L dA o) {Q : sdM → Prop} {M : sdM} (hw : w_S_moveRow o M a1 a2 Q) : sd_Cn l (sdE0 sc) y_S_moveRow Y_S_moveRow.2.2.2.2.1 Y_S_moveRow.2.2.2.2.2.1 0 0 D (sd_tys dA) b n ad L M [.ref o, .int a1, .int a2] (sd_qv Q) sd_xf := by
  refine sd_enter (Y := Y_S_moveRow) rfl rfl rfl (Nat.le_of_ble_eq_true rfl) ?_
  show sdW l (sdE0 sc) Y_S_moveRow D (sd_tys dA) b n ad L ad (sd_H D (sdE0 sc).1 n ad L) (sd_qv Q) sd_xf 0 [(0, .ref o), (1, .int a1), (2, .int a2)] [] M 0 0
  unfold w_S_moveRow at hw
  refine x_aload_n 0 0 d_S_moveRow_0 rfl rfl ?_
  refine x_getr 1 (o + 2) d_S_moveRow_1 ho.1 ho.2.1 rfl rfl (by decide) lay_S (List.mem_cons_of_mem _ q16) rfl ?_
  refine x_iload_n 2 2 d_S_moveRow_4 rfl rfl ?_
  refine x_aload_n 0 0 d_S_moveRow_5 rfl rfl ?_
  refine x_getr 1 (o + 2) d_S_moveRow_6 ho.1 ho.2.1 rfl rfl (by decide) lay_S (List.mem_cons_of_mem _ q16) rfl ?_
  refine x_iload_n 1 1 d_S_moveRow_9 rfl rfl ?_
  obtain ⟨hi12, hw⟩ := hw
  refine x_iald d_S_moveRow_10 ho.keys.1 ho.keys.2 rfl hi12 ?_
  obtain ⟨hi13, hw⟩ := hw
  refine x_iast hA d_S_moveRow_11 ho.keys.1 ho.keys.2 rfl hi13 (fun M14 e15 => ?_)
  have hw := hw M14 e15
  clear e15
  refine x_aload_n 0 0 d_S_moveRow_12 rfl rfl ?_
  refine x_getr 3 (o + 4) d_S_moveRow_13 ho.1 ho.2.1 rfl rfl (by decide) lay_S (List.mem_cons_of_mem _ q1) rfl ?_
  refine x_iload_n 2 2 d_S_moveRow_16 rfl rfl ?_
  refine x_aload_n 0 0 d_S_moveRow_17 rfl rfl ?_
  refine x_getr 3 (o + 4) d_S_moveRow_18 ho.1 ho.2.1 rfl rfl (by decide) lay_S (List.mem_cons_of_mem _ q1) rfl ?_
  refine x_iload_n 1 1 d_S_moveRow_21 rfl rfl ?_
  obtain ⟨hi16, hw⟩ := hw
  refine x_iald d_S_moveRow_22 ho.given.1 ho.given.2 rfl hi16 ?_
  obtain ⟨hi17, hw⟩ := hw
  refine x_iast hA d_S_moveRow_23 ho.given.1 ho.given.2 rfl hi17 (fun M18 e19 => ?_)
  have hw := hw M18 e19
  clear e19
  refine x_aload_n 0 0 d_S_moveRow_24 rfl rfl ?_
  refine x_getr 2 (o + 3) d_S_moveRow_25 ho.1 ho.2.1 rfl rfl (by decide) lay_S (List.mem_cons_of_mem _ q2) rfl ?_
  refine x_iload_n 1 1 d_S_moveRow_28 rfl rfl ?_
  refine x_iconst (v := 4) d_S_moveRow_29 (by decide) ?_
  refine x_imul d_S_moveRow_30 ?_
  refine x_aload_n 0 0 d_S_moveRow_31 rfl rfl ?_
  refine x_getr 2 (o + 3) d_S_moveRow_32 ho.1 ho.2.1 rfl rfl (by decide) lay_S (List.mem_cons_of_mem _ q2) rfl ?_
  refine x_iload_n 2 2 d_S_moveRow_35 rfl rfl ?_
  refine x_iconst (v := 4) d_S_moveRow_36 (by decide) ?_
  refine x_imul d_S_moveRow_37 ?_
  refine x_iconst (v := 4) d_S_moveRow_38 (by decide) ?_
  obtain ⟨hi20, hw⟩ := hw
  refine x_copyi hA d_S_moveRow_39 (List.mem_cons_of_mem _ q33) (List.mem_cons_of_mem _ q34) (List.mem_cons_of_mem _ q35) (List.mem_cons_of_mem _ q36) ho.values.1 ho.values.2 ho.values.1 ho.values.2 rfl hi20 (Nat.le_of_ble_eq_true rfl) (Nat.le_of_ble_eq_true rfl) (fun M21 e22 => ?_)
  have hw := hw M21 e22
  clear e22
  exact x_vret d_S_moveRow_42 rfl (fun _ h => h) ⟨rfl, hw⟩
end
theorem q39 : (.methodLink "SettingsDesk$Settings" 52 ⟨"SettingsDesk$Settings", "moveRow", "(II)V"⟩ : Cond) ∈ sdB0 := sd_tb3 126 rfl rfl
theorem q40 : (.code ⟨"SettingsDesk$Settings", "moveRow", "(II)V"⟩ prog_9_method_12_code 3 none : Cond) ∈ sdB0 := sd_tb3 129 rfl rfl
theorem q41 : (.instanceMethod ⟨"SettingsDesk$Settings", "moveRow", "(II)V"⟩ : Cond) ∈ sdB0 := sd_tb3 127 rfl rfl
theorem q42 : (.selects "SettingsDesk$Settings" ⟨"SettingsDesk$Settings", "moveRow", "(II)V"⟩ ⟨"SettingsDesk$Settings", "moveRow", "(II)V"⟩ : Cond) ∈ sdB0 := sd_tb3 128 rfl rfl
abbrev y_S_removeEntry : MethodName := ⟨"SettingsDesk$Settings", "removeEntry", "(II)V"⟩
theorem d_S_removeEntry_0 : decode prog_9_method_11_code 0 = .ok (.iload_n 2, 1) := by decide +kernel
theorem d_S_removeEntry_1 : decode prog_9_method_11_code 1 = .ok (.iconst 1, 1) := by decide +kernel
theorem d_S_removeEntry_2 : decode prog_9_method_11_code 2 = .ok (.iadd, 1) := by decide +kernel
theorem d_S_removeEntry_3 : decode prog_9_method_11_code 3 = .ok (.istore_n 3, 1) := by decide +kernel
theorem d_S_removeEntry_4 : decode prog_9_method_11_code 4 = .ok (.iload_n 3, 1) := by decide +kernel
theorem d_S_removeEntry_5 : decode prog_9_method_11_code 5 = .ok (.aload_n 0, 1) := by decide +kernel
theorem d_S_removeEntry_6 : decode prog_9_method_11_code 6 = .ok (.iload_n 1, 1) := by decide +kernel
theorem d_S_removeEntry_7 : decode prog_9_method_11_code 7 = .ok (.invokevirtual 40, 3) := by decide +kernel
theorem d_S_removeEntry_10 : decode prog_9_method_11_code 10 = .ok (.if_icmp .ge (17), 3) := by decide +kernel
theorem d_S_removeEntry_13 : decode prog_9_method_11_code 13 = .ok (.aload_n 0, 1) := by decide +kernel
theorem d_S_removeEntry_14 : decode prog_9_method_11_code 14 = .ok (.iload_n 3, 1) := by decide +kernel
theorem d_S_removeEntry_15 : decode prog_9_method_11_code 15 = .ok (.iload_n 3, 1) := by decide +kernel
theorem d_S_removeEntry_16 : decode prog_9_method_11_code 16 = .ok (.iconst 1, 1) := by decide +kernel
theorem d_S_removeEntry_17 : decode prog_9_method_11_code 17 = .ok (.isub, 1) := by decide +kernel
theorem d_S_removeEntry_18 : decode prog_9_method_11_code 18 = .ok (.invokevirtual 52, 3) := by decide +kernel
theorem d_S_removeEntry_21 : decode prog_9_method_11_code 21 = .ok (.iinc 3 (1), 3) := by decide +kernel
theorem d_S_removeEntry_24 : decode prog_9_method_11_code 24 = .ok (.goto (-20), 3) := by decide +kernel
theorem d_S_removeEntry_27 : decode prog_9_method_11_code 27 = .ok (.aload_n 0, 1) := by decide +kernel
theorem d_S_removeEntry_28 : decode prog_9_method_11_code 28 = .ok (.getfield 9, 3) := by decide +kernel
theorem d_S_removeEntry_31 : decode prog_9_method_11_code 31 = .ok (.iload_n 1, 1) := by decide +kernel
theorem d_S_removeEntry_32 : decode prog_9_method_11_code 32 = .ok (.dup2, 1) := by decide +kernel
theorem d_S_removeEntry_33 : decode prog_9_method_11_code 33 = .ok (.iaload, 1) := by decide +kernel
theorem d_S_removeEntry_34 : decode prog_9_method_11_code 34 = .ok (.iconst 1, 1) := by decide +kernel
theorem d_S_removeEntry_35 : decode prog_9_method_11_code 35 = .ok (.isub, 1) := by decide +kernel
theorem d_S_removeEntry_36 : decode prog_9_method_11_code 36 = .ok (.iastore, 1) := by decide +kernel
theorem d_S_removeEntry_37 : decode prog_9_method_11_code 37 = .ok (.return_, 1) := by decide +kernel
def Y_S_removeEntry : sdY := ("SettingsDesk$Settings", prog_9_method_11_code, 4, none, .code y_S_removeEntry prog_9_method_11_code 4 none :: sdB0, { frames := 2, cells := 0, slots := 0, locals := 40 }, 0, 0)
theorem cw_S_removeEntry_S_endRow_40 : sd_cwV Y_S_removeEntry Y_S_endRow y_S_endRow 40 1 "SettingsDesk$Settings" := ⟨sd_goodV q21 q23 q24 q7 q22, ⟨_, rfl⟩, ⟨rfl, rfl, rfl, rfl⟩, ⟨rfl, by decide, by decide, by decide +kernel⟩, ⟨by decide, by decide⟩⟩
theorem cw_S_removeEntry_S_moveRow_52 : sd_cwV Y_S_removeEntry Y_S_moveRow y_S_moveRow 52 2 "SettingsDesk$Settings" := ⟨sd_goodV q39 q41 q42 q7 q40, ⟨_, rfl⟩, ⟨rfl, rfl, rfl, rfl⟩, ⟨rfl, by decide, by decide, by decide +kernel⟩, ⟨by decide, by decide⟩⟩
section
variable {l : Launch} {D : va_G} {dA : Nat → ClassId} {b n : Nat} {ad : Nat → Nat} {L : Nat → sdL} {sc : Option (Nat × Nat × (Nat → Int32))}
def h_S_removeEntry_4 (o : Nat) (Q : sdM → Prop) : Nat → sdM → Int32 → Int32 → Prop
  | 0, _, _, _ => False
  | N + 1, M, x1, x3 => w_S_endRow o M x1 (fun r9 M8 => (r9 ≤ x3 → vp_in x1 4 ∧ vp_in x1 4 ∧ ∀ M12 : sdM, M12 = sd_s M8 (o + 1) x1.toNatClampNeg ((M8 (o + 1) x1.toNatClampNeg) - (1 : Int32)) → Q M12) ∧ (¬ r9 ≤ x3 → w_S_moveRow o M8 x3 (x3 - (1 : Int32)) (fun M14 => h_S_removeEntry_4 o Q N M14 x1 (x3 + 1))))
set_option maxHeartbeats 1000000 in
theorem t_S_removeEntry_4 {o : Nat} (hA : sd_ad b n ad) (hT : l.stackTraces = false) (ho : isS n L dA o) {Q : sdM → Prop} (N : Nat) : ∀ (M : sdM) (x1 : Int32) (x3 : Int32), h_S_removeEntry_4 o Q N M x1 x3 → sdW l (sdE0 sc) Y_S_removeEntry D (sd_tys dA) b n ad L ad (sd_H D (sdE0 sc).1 n ad L) (sd_qv Q) sd_xf 4 [(0, .ref o), (1, .int x1), (3, .int x3)] [] M 0 0 := by
  induction N with
  | zero => intro M x1 x3 hw; exact hw.elim
  | succ N ih =>
    intro M x1 x3 hw
    rw [h_S_removeEntry_4] at hw
    refine x_iload_n 3 2 d_S_removeEntry_4 rfl rfl ?_
    refine x_aload_n 0 0 d_S_removeEntry_5 rfl rfl ?_
    refine x_iload_n 1 1 d_S_removeEntry_6 rfl rfl ?_
    refine x_callVi (As := [.int x1]) (t := o) (rest := [.int x3]) (rc := 0) (rs := 0) (c_S_endRow hA hT ho hw) cw_S_removeEntry_S_endRow_40 ho.1 ho.2.1 rfl d_S_removeEntry_7 rfl rfl (Nat.le_of_ble_eq_true rfl) (fun _ _ h => h.elim) (fun _ _ h => h) (fun r9 M8 hw => ?_)
    refine x_icmp_ge 27 d_S_removeEntry_10 rfl (fun hc => ?_) (fun hc => ?_)
    · have hw := hw.1 hc
      refine x_aload_n 0 0 d_S_removeEntry_27 rfl rfl ?_
      refine x_getr 0 (o + 1) d_S_removeEntry_28 ho.1 ho.2.1 rfl rfl (by decide) lay_S (List.mem_cons_of_mem _ q0) rfl ?_
      refine x_iload_n 1 1 d_S_removeEntry_31 rfl rfl ?_
      refine x_dup2 d_S_removeEntry_32 rfl rfl ?_
      obtain ⟨hi10, hw⟩ := hw
      refine x_iald d_S_removeEntry_33 ho.counts.1 ho.counts.2 rfl hi10 ?_
      refine x_iconst (v := 1) d_S_removeEntry_34 (by decide) ?_
      refine x_isub d_S_removeEntry_35 ?_
      obtain ⟨hi11, hw⟩ := hw
      refine x_iast hA d_S_removeEntry_36 ho.counts.1 ho.counts.2 rfl hi11 (fun M12 e13 => ?_)
      have hw := hw M12 e13
      clear e13
      exact x_vret d_S_removeEntry_37 rfl (fun _ h => h) ⟨rfl, hw⟩
    · have hw := hw.2 hc
      refine x_aload_n 0 0 d_S_removeEntry_13 rfl rfl ?_
      refine x_iload_n 3 2 d_S_removeEntry_14 rfl rfl ?_
      refine x_iload_n 3 2 d_S_removeEntry_15 rfl rfl ?_
      refine x_iconst (v := 1) d_S_removeEntry_16 (by decide) ?_
      refine x_isub d_S_removeEntry_17 ?_
      refine x_callVv (As := [.int x3, .int (x3 - (1 : Int32))]) (t := o) (rest := []) (rc := 0) (rs := 0) (c_S_moveRow hA hT ho hw) cw_S_removeEntry_S_moveRow_52 ho.1 ho.2.1 rfl d_S_removeEntry_18 rfl rfl (Nat.le_of_ble_eq_true rfl) (fun _ _ h => h.elim) (fun _ _ h => h) (fun M14 hw => ?_)
      refine x_iinc 3 2 [(3, .int (x3 + 1)), (0, .ref o), (1, .int x1)] d_S_removeEntry_21 rfl (congrArg (HAdd.hAdd x3) (show Int32.ofInt 1 = 1 by decide)) (by decide) rfl ?_
      refine x_goto 4 d_S_removeEntry_24 rfl ?_
      refine x_sub [1, 2, 0] [(0, .ref o), (1, .int x1), (3, .int (x3 + 1))] rfl ?_
      exact ih M14 x1 (x3 + 1) hw
def w_S_removeEntry (o : Nat) (M : sdM) (a1 : Int32) (a2 : Int32) (Q : sdM → Prop) : Prop := ∃ N9 : Nat, h_S_removeEntry_4 o Q N9 M a1 (a2 + (1 : Int32))
set_option maxHeartbeats 1000000 in
theorem c_S_removeEntry {a1 : Int32} {a2 : Int32} {o : Nat} (hA : sd_ad b n ad) (hT : l.stackTraces = false) (ho : isS n L dA o) {Q : sdM → Prop} {M : sdM} (hw : w_S_removeEntry o M a1 a2 Q) : sd_Cn l (sdE0 sc) y_S_removeEntry Y_S_removeEntry.2.2.2.2.1 Y_S_removeEntry.2.2.2.2.2.1 0 0 D (sd_tys dA) b n ad L M [.ref o, .int a1, .int a2] (sd_qv Q) sd_xf := by
  refine sd_enter (Y := Y_S_removeEntry) rfl rfl rfl (Nat.le_of_ble_eq_true rfl) ?_
  show sdW l (sdE0 sc) Y_S_removeEntry D (sd_tys dA) b n ad L ad (sd_H D (sdE0 sc).1 n ad L) (sd_qv Q) sd_xf 0 [(0, .ref o), (1, .int a1), (2, .int a2)] [] M 0 0
  unfold w_S_removeEntry at hw
  refine x_iload_n 2 2 d_S_removeEntry_0 rfl rfl ?_
  refine x_iconst (v := 1) d_S_removeEntry_1 (by decide) ?_
  refine x_iadd d_S_removeEntry_2 ?_
  refine x_istore_n 3 [(3, .int (a2 + (1 : Int32))), (0, .ref o), (1, .int a1), (2, .int a2)] d_S_removeEntry_3 rfl (by decide) rfl ?_
  refine x_sub [1, 2, 0] [(0, .ref o), (1, .int a1), (3, .int (a2 + (1 : Int32)))] rfl ?_
  obtain ⟨N9, hw⟩ := hw
  exact t_S_removeEntry_4 hA hT ho N9 M a1 (a2 + (1 : Int32)) hw
end
abbrev y_S_drop : MethodName := ⟨"SettingsDesk$Settings", "drop", "(II)V"⟩
theorem d_S_drop_0 : decode prog_9_method_15_code 0 = .ok (.aload_n 0, 1) := by decide +kernel
theorem d_S_drop_1 : decode prog_9_method_15_code 1 = .ok (.getfield 21, 3) := by decide +kernel
theorem d_S_drop_4 : decode prog_9_method_15_code 4 = .ok (.iload_n 1, 1) := by decide +kernel
theorem d_S_drop_5 : decode prog_9_method_15_code 5 = .ok (.dup2, 1) := by decide +kernel
theorem d_S_drop_6 : decode prog_9_method_15_code 6 = .ok (.iaload, 1) := by decide +kernel
theorem d_S_drop_7 : decode prog_9_method_15_code 7 = .ok (.iconst 1, 1) := by decide +kernel
theorem d_S_drop_8 : decode prog_9_method_15_code 8 = .ok (.iload_n 2, 1) := by decide +kernel
theorem d_S_drop_9 : decode prog_9_method_15_code 9 = .ok (.ishl, 1) := by decide +kernel
theorem d_S_drop_10 : decode prog_9_method_15_code 10 = .ok (.iconst (-1), 1) := by decide +kernel
theorem d_S_drop_11 : decode prog_9_method_15_code 11 = .ok (.ixor, 1) := by decide +kernel
theorem d_S_drop_12 : decode prog_9_method_15_code 12 = .ok (.iand, 1) := by decide +kernel
theorem d_S_drop_13 : decode prog_9_method_15_code 13 = .ok (.iastore, 1) := by decide +kernel
theorem d_S_drop_14 : decode prog_9_method_15_code 14 = .ok (.aload_n 0, 1) := by decide +kernel
theorem d_S_drop_15 : decode prog_9_method_15_code 15 = .ok (.getfield 18, 3) := by decide +kernel
theorem d_S_drop_18 : decode prog_9_method_15_code 18 = .ok (.iload_n 1, 1) := by decide +kernel
theorem d_S_drop_19 : decode prog_9_method_15_code 19 = .ok (.iconst 4, 1) := by decide +kernel
theorem d_S_drop_20 : decode prog_9_method_15_code 20 = .ok (.imul, 1) := by decide +kernel
theorem d_S_drop_21 : decode prog_9_method_15_code 21 = .ok (.iload_n 2, 1) := by decide +kernel
theorem d_S_drop_22 : decode prog_9_method_15_code 22 = .ok (.iadd, 1) := by decide +kernel
theorem d_S_drop_23 : decode prog_9_method_15_code 23 = .ok (.iconst 0, 1) := by decide +kernel
theorem d_S_drop_24 : decode prog_9_method_15_code 24 = .ok (.iastore, 1) := by decide +kernel
theorem d_S_drop_25 : decode prog_9_method_15_code 25 = .ok (.return_, 1) := by decide +kernel
def Y_S_drop : sdY := ("SettingsDesk$Settings", prog_9_method_15_code, 3, none, .code y_S_drop prog_9_method_15_code 3 none :: sdB0, { frames := 0, cells := 0, slots := 0, locals := 0 }, 0, 0)
section
variable {l : Launch} {D : va_G} {dA : Nat → ClassId} {b n : Nat} {ad : Nat → Nat} {L : Nat → sdL} {sc : Option (Nat × Nat × (Nat → Int32))}
def w_S_drop (o : Nat) (M : sdM) (a1 : Int32) (a2 : Int32) (Q : sdM → Prop) : Prop := vp_in a1 48 ∧ vp_in a1 48 ∧ ∀ M10 : sdM, M10 = sd_s M (o + 4) a1.toNatClampNeg ((M (o + 4) a1.toNatClampNeg) &&& (((1 : Int32) <<< (a2 &&& 31)) ^^^ (-1 : Int32))) → vp_in ((a1 * (4 : Int32)) + a2) 192 ∧ ∀ M13 : sdM, M13 = sd_s M10 (o + 3) ((a1 * (4 : Int32)) + a2).toNatClampNeg (0 : Int32) → Q M13
set_option maxHeartbeats 1000000 in
theorem c_S_drop {a1 : Int32} {a2 : Int32} {o : Nat} (hA : sd_ad b n ad) (hT : l.stackTraces = false) (ho : isS n L dA o) {Q : sdM → Prop} {M : sdM} (hw : w_S_drop o M a1 a2 Q) : sd_Cn l (sdE0 sc) y_S_drop Y_S_drop.2.2.2.2.1 Y_S_drop.2.2.2.2.2.1 0 0 D (sd_tys dA) b n ad L M [.ref o, .int a1, .int a2] (sd_qv Q) sd_xf := by
  refine sd_enter (Y := Y_S_drop) rfl rfl rfl (Nat.le_of_ble_eq_true rfl) ?_
  show sdW l (sdE0 sc) Y_S_drop D (sd_tys dA) b n ad L ad (sd_H D (sdE0 sc).1 n ad L) (sd_qv Q) sd_xf 0 [(0, .ref o), (1, .int a1), (2, .int a2)] [] M 0 0
  unfold w_S_drop at hw
  refine x_aload_n 0 0 d_S_drop_0 rfl rfl ?_
  refine x_getr 3 (o + 4) d_S_drop_1 ho.1 ho.2.1 rfl rfl (by decide) lay_S (List.mem_cons_of_mem _ q1) rfl ?_
  refine x_iload_n 1 1 d_S_drop_4 rfl rfl ?_
  refine x_dup2 d_S_drop_5 rfl rfl ?_
  obtain ⟨hi8, hw⟩ := hw
  refine x_iald d_S_drop_6 ho.given.1 ho.given.2 rfl hi8 ?_
  refine x_iconst (v := 1) d_S_drop_7 (by decide) ?_
  refine x_iload_n 2 2 d_S_drop_8 rfl rfl ?_
  refine x_ishl d_S_drop_9 ?_
  refine x_iconst (v := (-1)) d_S_drop_10 (by decide) ?_
  refine x_ixor d_S_drop_11 ?_
  refine x_iand d_S_drop_12 ?_
  obtain ⟨hi9, hw⟩ := hw
  refine x_iast hA d_S_drop_13 ho.given.1 ho.given.2 rfl hi9 (fun M10 e11 => ?_)
  have hw := hw M10 e11
  clear e11
  refine x_aload_n 0 0 d_S_drop_14 rfl rfl ?_
  refine x_getr 2 (o + 3) d_S_drop_15 ho.1 ho.2.1 rfl rfl (by decide) lay_S (List.mem_cons_of_mem _ q2) rfl ?_
  refine x_iload_n 1 1 d_S_drop_18 rfl rfl ?_
  refine x_iconst (v := 4) d_S_drop_19 (by decide) ?_
  refine x_imul d_S_drop_20 ?_
  refine x_iload_n 2 2 d_S_drop_21 rfl rfl ?_
  refine x_iadd d_S_drop_22 ?_
  refine x_iconst (v := 0) d_S_drop_23 (by decide) ?_
  obtain ⟨hi12, hw⟩ := hw
  refine x_iast hA d_S_drop_24 ho.values.1 ho.values.2 rfl hi12 (fun M13 e14 => ?_)
  have hw := hw M13 e14
  clear e14
  exact x_vret d_S_drop_25 rfl (fun _ h => h) ⟨rfl, hw⟩
end
theorem q43 : (.methodLink "SettingsDesk$Settings" 56 ⟨"SettingsDesk$Settings", "drop", "(II)V"⟩ : Cond) ∈ sdB0 := sd_tb3 150 rfl rfl
theorem q44 : (.code ⟨"SettingsDesk$Settings", "drop", "(II)V"⟩ prog_9_method_15_code 3 none : Cond) ∈ sdB0 := sd_tb3 153 rfl rfl
theorem q45 : (.instanceMethod ⟨"SettingsDesk$Settings", "drop", "(II)V"⟩ : Cond) ∈ sdB0 := sd_tb3 151 rfl rfl
theorem q46 : (.selects "SettingsDesk$Settings" ⟨"SettingsDesk$Settings", "drop", "(II)V"⟩ ⟨"SettingsDesk$Settings", "drop", "(II)V"⟩ : Cond) ∈ sdB0 := sd_tb3 152 rfl rfl
abbrev y_S_addEntry : MethodName := ⟨"SettingsDesk$Settings", "addEntry", "(II)I"⟩
theorem d_S_addEntry_0 : decode prog_9_method_10_code 0 = .ok (.aload_n 0, 1) := by decide +kernel
theorem d_S_addEntry_1 : decode prog_9_method_10_code 1 = .ok (.iload_n 1, 1) := by decide +kernel
theorem d_S_addEntry_2 : decode prog_9_method_10_code 2 = .ok (.invokevirtual 40, 3) := by decide +kernel
theorem d_S_addEntry_5 : decode prog_9_method_10_code 5 = .ok (.istore_n 3, 1) := by decide +kernel
theorem d_S_addEntry_6 : decode prog_9_method_10_code 6 = .ok (.iload_n 3, 1) := by decide +kernel
theorem d_S_addEntry_7 : decode prog_9_method_10_code 7 = .ok (.aload_n 0, 1) := by decide +kernel
theorem d_S_addEntry_8 : decode prog_9_method_10_code 8 = .ok (.iload_n 1, 1) := by decide +kernel
theorem d_S_addEntry_9 : decode prog_9_method_10_code 9 = .ok (.invokevirtual 36, 3) := by decide +kernel
theorem d_S_addEntry_12 : decode prog_9_method_10_code 12 = .ok (.if_icmp .le (29), 3) := by decide +kernel
theorem d_S_addEntry_15 : decode prog_9_method_10_code 15 = .ok (.aload_n 0, 1) := by decide +kernel
theorem d_S_addEntry_16 : decode prog_9_method_10_code 16 = .ok (.getfield 15, 3) := by decide +kernel
theorem d_S_addEntry_19 : decode prog_9_method_10_code 19 = .ok (.iload_n 3, 1) := by decide +kernel
theorem d_S_addEntry_20 : decode prog_9_method_10_code 20 = .ok (.iconst 1, 1) := by decide +kernel
theorem d_S_addEntry_21 : decode prog_9_method_10_code 21 = .ok (.isub, 1) := by decide +kernel
theorem d_S_addEntry_22 : decode prog_9_method_10_code 22 = .ok (.iaload, 1) := by decide +kernel
theorem d_S_addEntry_23 : decode prog_9_method_10_code 23 = .ok (.iload_n 2, 1) := by decide +kernel
theorem d_S_addEntry_24 : decode prog_9_method_10_code 24 = .ok (.if_icmp .le (17), 3) := by decide +kernel
theorem d_S_addEntry_27 : decode prog_9_method_10_code 27 = .ok (.aload_n 0, 1) := by decide +kernel
theorem d_S_addEntry_28 : decode prog_9_method_10_code 28 = .ok (.iload_n 3, 1) := by decide +kernel
theorem d_S_addEntry_29 : decode prog_9_method_10_code 29 = .ok (.iconst 1, 1) := by decide +kernel
theorem d_S_addEntry_30 : decode prog_9_method_10_code 30 = .ok (.isub, 1) := by decide +kernel
theorem d_S_addEntry_31 : decode prog_9_method_10_code 31 = .ok (.iload_n 3, 1) := by decide +kernel
theorem d_S_addEntry_32 : decode prog_9_method_10_code 32 = .ok (.invokevirtual 52, 3) := by decide +kernel
theorem d_S_addEntry_35 : decode prog_9_method_10_code 35 = .ok (.iinc 3 (-1), 3) := by decide +kernel
theorem d_S_addEntry_38 : decode prog_9_method_10_code 38 = .ok (.goto (-32), 3) := by decide +kernel
theorem d_S_addEntry_41 : decode prog_9_method_10_code 41 = .ok (.aload_n 0, 1) := by decide +kernel
theorem d_S_addEntry_42 : decode prog_9_method_10_code 42 = .ok (.getfield 9, 3) := by decide +kernel
theorem d_S_addEntry_45 : decode prog_9_method_10_code 45 = .ok (.iload_n 1, 1) := by decide +kernel
theorem d_S_addEntry_46 : decode prog_9_method_10_code 46 = .ok (.dup2, 1) := by decide +kernel
theorem d_S_addEntry_47 : decode prog_9_method_10_code 47 = .ok (.iaload, 1) := by decide +kernel
theorem d_S_addEntry_48 : decode prog_9_method_10_code 48 = .ok (.iconst 1, 1) := by decide +kernel
theorem d_S_addEntry_49 : decode prog_9_method_10_code 49 = .ok (.iadd, 1) := by decide +kernel
theorem d_S_addEntry_50 : decode prog_9_method_10_code 50 = .ok (.iastore, 1) := by decide +kernel
theorem d_S_addEntry_51 : decode prog_9_method_10_code 51 = .ok (.aload_n 0, 1) := by decide +kernel
theorem d_S_addEntry_52 : decode prog_9_method_10_code 52 = .ok (.getfield 15, 3) := by decide +kernel
theorem d_S_addEntry_55 : decode prog_9_method_10_code 55 = .ok (.iload_n 3, 1) := by decide +kernel
theorem d_S_addEntry_56 : decode prog_9_method_10_code 56 = .ok (.iload_n 2, 1) := by decide +kernel
theorem d_S_addEntry_57 : decode prog_9_method_10_code 57 = .ok (.iastore, 1) := by decide +kernel
theorem d_S_addEntry_58 : decode prog_9_method_10_code 58 = .ok (.iconst 0, 1) := by decide +kernel
theorem d_S_addEntry_59 : decode prog_9_method_10_code 59 = .ok (.istore 4, 2) := by decide +kernel
theorem d_S_addEntry_61 : decode prog_9_method_10_code 61 = .ok (.iload 4, 2) := by decide +kernel
theorem d_S_addEntry_63 : decode prog_9_method_10_code 63 = .ok (.iconst 4, 1) := by decide +kernel
theorem d_S_addEntry_64 : decode prog_9_method_10_code 64 = .ok (.if_icmp .ge (16), 3) := by decide +kernel
theorem d_S_addEntry_67 : decode prog_9_method_10_code 67 = .ok (.aload_n 0, 1) := by decide +kernel
theorem d_S_addEntry_68 : decode prog_9_method_10_code 68 = .ok (.iload_n 3, 1) := by decide +kernel
theorem d_S_addEntry_69 : decode prog_9_method_10_code 69 = .ok (.iload 4, 2) := by decide +kernel
theorem d_S_addEntry_71 : decode prog_9_method_10_code 71 = .ok (.invokevirtual 56, 3) := by decide +kernel
theorem d_S_addEntry_74 : decode prog_9_method_10_code 74 = .ok (.iinc 4 (1), 3) := by decide +kernel
theorem d_S_addEntry_77 : decode prog_9_method_10_code 77 = .ok (.goto (-16), 3) := by decide +kernel
theorem d_S_addEntry_80 : decode prog_9_method_10_code 80 = .ok (.iload_n 3, 1) := by decide +kernel
theorem d_S_addEntry_81 : decode prog_9_method_10_code 81 = .ok (.ireturn, 1) := by decide +kernel
def Y_S_addEntry : sdY := ("SettingsDesk$Settings", prog_9_method_10_code, 5, (some .int), .code y_S_addEntry prog_9_method_10_code 5 (some .int) :: sdB0, { frames := 2, cells := 0, slots := 0, locals := 40 }, 0, 0)
theorem cw_S_addEntry_S_endRow_40 : sd_cwV Y_S_addEntry Y_S_endRow y_S_endRow 40 1 "SettingsDesk$Settings" := ⟨sd_goodV q21 q23 q24 q7 q22, ⟨_, rfl⟩, ⟨rfl, rfl, rfl, rfl⟩, ⟨rfl, by decide, by decide, by decide +kernel⟩, ⟨by decide, by decide⟩⟩
theorem cw_S_addEntry_S_firstRow_36 : sd_cwV Y_S_addEntry Y_S_firstRow y_S_firstRow 36 1 "SettingsDesk$Settings" := ⟨sd_goodV q17 q19 q20 q7 q18, ⟨_, rfl⟩, ⟨rfl, rfl, rfl, rfl⟩, ⟨rfl, by decide, by decide, by decide +kernel⟩, ⟨by decide, by decide⟩⟩
theorem cw_S_addEntry_S_moveRow_52 : sd_cwV Y_S_addEntry Y_S_moveRow y_S_moveRow 52 2 "SettingsDesk$Settings" := ⟨sd_goodV q39 q41 q42 q7 q40, ⟨_, rfl⟩, ⟨rfl, rfl, rfl, rfl⟩, ⟨rfl, by decide, by decide, by decide +kernel⟩, ⟨by decide, by decide⟩⟩
theorem cw_S_addEntry_S_drop_56 : sd_cwV Y_S_addEntry Y_S_drop y_S_drop 56 2 "SettingsDesk$Settings" := ⟨sd_goodV q43 q45 q46 q7 q44, ⟨_, rfl⟩, ⟨rfl, rfl, rfl, rfl⟩, ⟨rfl, by decide, by decide, by decide +kernel⟩, ⟨by decide, by decide⟩⟩
section
variable {l : Launch} {D : va_G} {dA : Nat → ClassId} {b n : Nat} {ad : Nat → Nat} {L : Nat → sdL} {sc : Option (Nat × Nat × (Nat → Int32))}
def h_S_addEntry_61 (o : Nat) (Q : Int32 → sdM → Prop) : Nat → sdM → Int32 → Int32 → Prop
  | 0, _, _, _ => False
  | N + 1, M, x3, x4 => ((4 : Int32) ≤ x4 → Q x3 M) ∧ (¬ (4 : Int32) ≤ x4 → w_S_drop o M x3 x4 (fun M15 => h_S_addEntry_61 o Q N M15 x3 (x4 + 1)))
set_option maxHeartbeats 1000000 in
theorem t_S_addEntry_61 {o : Nat} (hA : sd_ad b n ad) (hT : l.stackTraces = false) (ho : isS n L dA o) {Q : Int32 → sdM → Prop} (N : Nat) : ∀ (M : sdM) (x3 : Int32) (x4 : Int32), h_S_addEntry_61 o Q N M x3 x4 → sdW l (sdE0 sc) Y_S_addEntry D (sd_tys dA) b n ad L ad (sd_H D (sdE0 sc).1 n ad L) (sd_qi Q) sd_xf 61 [(0, .ref o), (3, .int x3), (4, .int x4)] [] M 0 0 := by
  induction N with
  | zero => intro M x3 x4 hw; exact hw.elim
  | succ N ih =>
    intro M x3 x4 hw
    rw [h_S_addEntry_61] at hw
    refine x_iload 4 2 d_S_addEntry_61 rfl ?_
    refine x_iconst (v := 4) d_S_addEntry_63 (by decide) ?_
    refine x_icmp_ge 80 d_S_addEntry_64 rfl (fun hc => ?_) (fun hc => ?_)
    · have hw := hw.1 hc
      refine x_iload_n 3 1 d_S_addEntry_80 rfl rfl ?_
      exact x_iret d_S_addEntry_81 rfl (fun _ h => h) ⟨_, rfl, hw⟩
    · have hw := hw.2 hc
      refine x_aload_n 0 0 d_S_addEntry_67 rfl rfl ?_
      refine x_iload_n 3 1 d_S_addEntry_68 rfl rfl ?_
      refine x_iload 4 2 d_S_addEntry_69 rfl ?_
      refine x_callVv (As := [.int x3, .int x4]) (t := o) (rest := []) (rc := 0) (rs := 0) (c_S_drop hA hT ho hw) cw_S_addEntry_S_drop_56 ho.1 ho.2.1 rfl d_S_addEntry_71 rfl rfl (Nat.le_of_ble_eq_true rfl) (fun _ _ h => h.elim) (fun _ _ h => h) (fun M15 hw => ?_)
      refine x_iinc 4 2 [(4, .int (x4 + 1)), (0, .ref o), (3, .int x3)] d_S_addEntry_74 rfl (congrArg (HAdd.hAdd x4) (show Int32.ofInt 1 = 1 by decide)) (by decide) rfl ?_
      refine x_goto 61 d_S_addEntry_77 rfl ?_
      refine x_sub [1, 2, 0] [(0, .ref o), (3, .int x3), (4, .int (x4 + 1))] rfl ?_
      exact ih M15 x3 (x4 + 1) hw
def k_S_addEntry_41 (o : Nat) (Q : Int32 → sdM → Prop) (M : sdM) (x1 : Int32) (x2 : Int32) (x3 : Int32) : Prop := vp_in x1 4 ∧ vp_in x1 4 ∧ ∀ M18 : sdM, M18 = sd_s M (o + 1) x1.toNatClampNeg ((M (o + 1) x1.toNatClampNeg) + (1 : Int32)) → vp_in x3 48 ∧ ∀ M21 : sdM, M21 = sd_s M18 (o + 2) x3.toNatClampNeg x2 → ∃ N9 : Nat, h_S_addEntry_61 o Q N9 M21 x3 (0 : Int32)
set_option maxHeartbeats 1000000 in
theorem t_S_addEntry_41 {o : Nat} (hA : sd_ad b n ad) (hT : l.stackTraces = false) (ho : isS n L dA o) {Q : Int32 → sdM → Prop} (M : sdM) (x1 : Int32) (x2 : Int32) (x3 : Int32) (hw : k_S_addEntry_41 o Q M x1 x2 x3) : sdW l (sdE0 sc) Y_S_addEntry D (sd_tys dA) b n ad L ad (sd_H D (sdE0 sc).1 n ad L) (sd_qi Q) sd_xf 41 [(0, .ref o), (1, .int x1), (2, .int x2), (3, .int x3)] [] M 0 0 := by
  unfold k_S_addEntry_41 at hw
  refine x_aload_n 0 0 d_S_addEntry_41 rfl rfl ?_
  refine x_getr 0 (o + 1) d_S_addEntry_42 ho.1 ho.2.1 rfl rfl (by decide) lay_S (List.mem_cons_of_mem _ q0) rfl ?_
  refine x_iload_n 1 1 d_S_addEntry_45 rfl rfl ?_
  refine x_dup2 d_S_addEntry_46 rfl rfl ?_
  obtain ⟨hi16, hw⟩ := hw
  refine x_iald d_S_addEntry_47 ho.counts.1 ho.counts.2 rfl hi16 ?_
  refine x_iconst (v := 1) d_S_addEntry_48 (by decide) ?_
  refine x_iadd d_S_addEntry_49 ?_
  obtain ⟨hi17, hw⟩ := hw
  refine x_iast hA d_S_addEntry_50 ho.counts.1 ho.counts.2 rfl hi17 (fun M18 e19 => ?_)
  have hw := hw M18 e19
  clear e19
  refine x_aload_n 0 0 d_S_addEntry_51 rfl rfl ?_
  refine x_getr 1 (o + 2) d_S_addEntry_52 ho.1 ho.2.1 rfl rfl (by decide) lay_S (List.mem_cons_of_mem _ q16) rfl ?_
  refine x_iload_n 3 3 d_S_addEntry_55 rfl rfl ?_
  refine x_iload_n 2 2 d_S_addEntry_56 rfl rfl ?_
  obtain ⟨hi20, hw⟩ := hw
  refine x_iast hA d_S_addEntry_57 ho.keys.1 ho.keys.2 rfl hi20 (fun M21 e22 => ?_)
  have hw := hw M21 e22
  clear e22
  refine x_iconst (v := 0) d_S_addEntry_58 (by decide) ?_
  refine x_istore 4 [(4, .int (0 : Int32)), (0, .ref o), (1, .int x1), (2, .int x2), (3, .int x3)] d_S_addEntry_59 (by decide) rfl ?_
  refine x_sub [1, 4, 0] [(0, .ref o), (3, .int x3), (4, .int (0 : Int32))] rfl ?_
  obtain ⟨N9, hw⟩ := hw
  exact t_S_addEntry_61 hA hT ho N9 M21 x3 (0 : Int32) hw
def h_S_addEntry_6 (o : Nat) (Q : Int32 → sdM → Prop) : Nat → sdM → Int32 → Int32 → Int32 → Prop
  | 0, _, _, _, _ => False
  | N + 1, M, x1, x2, x3 => w_S_firstRow o M x1 (fun r24 M23 => (x3 ≤ r24 → k_S_addEntry_41 o Q M23 x1 x2 x3) ∧ (¬ x3 ≤ r24 → vp_in (x3 - (1 : Int32)) 48 ∧ ((M23 (o + 2) (x3 - (1 : Int32)).toNatClampNeg) ≤ x2 → k_S_addEntry_41 o Q M23 x1 x2 x3) ∧ (¬ (M23 (o + 2) (x3 - (1 : Int32)).toNatClampNeg) ≤ x2 → w_S_moveRow o M23 (x3 - (1 : Int32)) x3 (fun M26 => h_S_addEntry_6 o Q N M26 x1 x2 (x3 + (-1))))))
set_option maxHeartbeats 1000000 in
theorem t_S_addEntry_6 {o : Nat} (hA : sd_ad b n ad) (hT : l.stackTraces = false) (ho : isS n L dA o) {Q : Int32 → sdM → Prop} (N : Nat) : ∀ (M : sdM) (x1 : Int32) (x2 : Int32) (x3 : Int32), h_S_addEntry_6 o Q N M x1 x2 x3 → sdW l (sdE0 sc) Y_S_addEntry D (sd_tys dA) b n ad L ad (sd_H D (sdE0 sc).1 n ad L) (sd_qi Q) sd_xf 6 [(0, .ref o), (1, .int x1), (2, .int x2), (3, .int x3)] [] M 0 0 := by
  induction N with
  | zero => intro M x1 x2 x3 hw; exact hw.elim
  | succ N ih =>
    intro M x1 x2 x3 hw
    rw [h_S_addEntry_6] at hw
    refine x_iload_n 3 3 d_S_addEntry_6 rfl rfl ?_
    refine x_aload_n 0 0 d_S_addEntry_7 rfl rfl ?_
    refine x_iload_n 1 1 d_S_addEntry_8 rfl rfl ?_
    refine x_callVi (As := [.int x1]) (t := o) (rest := [.int x3]) (rc := 0) (rs := 0) (c_S_firstRow hA hT ho hw) cw_S_addEntry_S_firstRow_36 ho.1 ho.2.1 rfl d_S_addEntry_9 rfl rfl (Nat.le_of_ble_eq_true rfl) (fun _ _ h => h.elim) (fun _ _ h => h) (fun r24 M23 hw => ?_)
    refine x_icmp_le 41 d_S_addEntry_12 rfl (fun hc => ?_) (fun hc => ?_)
    · have hw := hw.1 hc
      exact t_S_addEntry_41 hA hT ho M23 x1 x2 x3 hw
    · have hw := hw.2 hc
      refine x_aload_n 0 0 d_S_addEntry_15 rfl rfl ?_
      refine x_getr 1 (o + 2) d_S_addEntry_16 ho.1 ho.2.1 rfl rfl (by decide) lay_S (List.mem_cons_of_mem _ q16) rfl ?_
      refine x_iload_n 3 3 d_S_addEntry_19 rfl rfl ?_
      refine x_iconst (v := 1) d_S_addEntry_20 (by decide) ?_
      refine x_isub d_S_addEntry_21 ?_
      obtain ⟨hi25, hw⟩ := hw
      refine x_iald d_S_addEntry_22 ho.keys.1 ho.keys.2 rfl hi25 ?_
      refine x_iload_n 2 2 d_S_addEntry_23 rfl rfl ?_
      refine x_icmp_le 41 d_S_addEntry_24 rfl (fun hc => ?_) (fun hc => ?_)
      · have hw := hw.1 hc
        exact t_S_addEntry_41 hA hT ho M23 x1 x2 x3 hw
      · have hw := hw.2 hc
        refine x_aload_n 0 0 d_S_addEntry_27 rfl rfl ?_
        refine x_iload_n 3 3 d_S_addEntry_28 rfl rfl ?_
        refine x_iconst (v := 1) d_S_addEntry_29 (by decide) ?_
        refine x_isub d_S_addEntry_30 ?_
        refine x_iload_n 3 3 d_S_addEntry_31 rfl rfl ?_
        refine x_callVv (As := [.int (x3 - (1 : Int32)), .int x3]) (t := o) (rest := []) (rc := 0) (rs := 0) (c_S_moveRow hA hT ho hw) cw_S_addEntry_S_moveRow_52 ho.1 ho.2.1 rfl d_S_addEntry_32 rfl rfl (Nat.le_of_ble_eq_true rfl) (fun _ _ h => h.elim) (fun _ _ h => h) (fun M26 hw => ?_)
        refine x_iinc 3 3 [(3, .int (x3 + (-1))), (0, .ref o), (1, .int x1), (2, .int x2)] d_S_addEntry_35 rfl (congrArg (HAdd.hAdd x3) (show Int32.ofInt (-1) = (-1) by decide)) (by decide) rfl ?_
        refine x_goto 6 d_S_addEntry_38 rfl ?_
        refine x_sub [1, 2, 3, 0] [(0, .ref o), (1, .int x1), (2, .int x2), (3, .int (x3 + (-1)))] rfl ?_
        exact ih M26 x1 x2 (x3 + (-1)) hw
def w_S_addEntry (o : Nat) (M : sdM) (a1 : Int32) (a2 : Int32) (Q : Int32 → sdM → Prop) : Prop := w_S_endRow o M a1 (fun r28 M27 => ∃ N9 : Nat, h_S_addEntry_6 o Q N9 M27 a1 a2 r28)
set_option maxHeartbeats 1000000 in
theorem c_S_addEntry {a1 : Int32} {a2 : Int32} {o : Nat} (hA : sd_ad b n ad) (hT : l.stackTraces = false) (ho : isS n L dA o) {Q : Int32 → sdM → Prop} {M : sdM} (hw : w_S_addEntry o M a1 a2 Q) : sd_Cn l (sdE0 sc) y_S_addEntry Y_S_addEntry.2.2.2.2.1 Y_S_addEntry.2.2.2.2.2.1 0 0 D (sd_tys dA) b n ad L M [.ref o, .int a1, .int a2] (sd_qi Q) sd_xf := by
  refine sd_enter (Y := Y_S_addEntry) rfl rfl rfl (Nat.le_of_ble_eq_true rfl) ?_
  show sdW l (sdE0 sc) Y_S_addEntry D (sd_tys dA) b n ad L ad (sd_H D (sdE0 sc).1 n ad L) (sd_qi Q) sd_xf 0 [(0, .ref o), (1, .int a1), (2, .int a2)] [] M 0 0
  unfold w_S_addEntry at hw
  refine x_aload_n 0 0 d_S_addEntry_0 rfl rfl ?_
  refine x_iload_n 1 1 d_S_addEntry_1 rfl rfl ?_
  refine x_callVi (As := [.int a1]) (t := o) (rest := []) (rc := 0) (rs := 0) (c_S_endRow hA hT ho hw) cw_S_addEntry_S_endRow_40 ho.1 ho.2.1 rfl d_S_addEntry_2 rfl rfl (Nat.le_of_ble_eq_true rfl) (fun _ _ h => h.elim) (fun _ _ h => h) (fun r28 M27 hw => ?_)
  refine x_istore_n 3 [(3, .int r28), (0, .ref o), (1, .int a1), (2, .int a2)] d_S_addEntry_5 rfl (by decide) rfl ?_
  refine x_sub [1, 2, 3, 0] [(0, .ref o), (1, .int a1), (2, .int a2), (3, .int r28)] rfl ?_
  obtain ⟨N9, hw⟩ := hw
  exact t_S_addEntry_6 hA hT ho N9 M27 a1 a2 r28 hw
end
abbrev y_S_give : MethodName := ⟨"SettingsDesk$Settings", "give", "(III)V"⟩
theorem d_S_give_0 : decode prog_9_method_14_code 0 = .ok (.aload_n 0, 1) := by decide +kernel
theorem d_S_give_1 : decode prog_9_method_14_code 1 = .ok (.getfield 21, 3) := by decide +kernel
theorem d_S_give_4 : decode prog_9_method_14_code 4 = .ok (.iload_n 1, 1) := by decide +kernel
theorem d_S_give_5 : decode prog_9_method_14_code 5 = .ok (.dup2, 1) := by decide +kernel
theorem d_S_give_6 : decode prog_9_method_14_code 6 = .ok (.iaload, 1) := by decide +kernel
theorem d_S_give_7 : decode prog_9_method_14_code 7 = .ok (.iconst 1, 1) := by decide +kernel
theorem d_S_give_8 : decode prog_9_method_14_code 8 = .ok (.iload_n 2, 1) := by decide +kernel
theorem d_S_give_9 : decode prog_9_method_14_code 9 = .ok (.ishl, 1) := by decide +kernel
theorem d_S_give_10 : decode prog_9_method_14_code 10 = .ok (.ior, 1) := by decide +kernel
theorem d_S_give_11 : decode prog_9_method_14_code 11 = .ok (.iastore, 1) := by decide +kernel
theorem d_S_give_12 : decode prog_9_method_14_code 12 = .ok (.aload_n 0, 1) := by decide +kernel
theorem d_S_give_13 : decode prog_9_method_14_code 13 = .ok (.getfield 18, 3) := by decide +kernel
theorem d_S_give_16 : decode prog_9_method_14_code 16 = .ok (.iload_n 1, 1) := by decide +kernel
theorem d_S_give_17 : decode prog_9_method_14_code 17 = .ok (.iconst 4, 1) := by decide +kernel
theorem d_S_give_18 : decode prog_9_method_14_code 18 = .ok (.imul, 1) := by decide +kernel
theorem d_S_give_19 : decode prog_9_method_14_code 19 = .ok (.iload_n 2, 1) := by decide +kernel
theorem d_S_give_20 : decode prog_9_method_14_code 20 = .ok (.iadd, 1) := by decide +kernel
theorem d_S_give_21 : decode prog_9_method_14_code 21 = .ok (.iload_n 3, 1) := by decide +kernel
theorem d_S_give_22 : decode prog_9_method_14_code 22 = .ok (.iastore, 1) := by decide +kernel
theorem d_S_give_23 : decode prog_9_method_14_code 23 = .ok (.return_, 1) := by decide +kernel
def Y_S_give : sdY := ("SettingsDesk$Settings", prog_9_method_14_code, 4, none, .code y_S_give prog_9_method_14_code 4 none :: sdB0, { frames := 0, cells := 0, slots := 0, locals := 0 }, 0, 0)
section
variable {l : Launch} {D : va_G} {dA : Nat → ClassId} {b n : Nat} {ad : Nat → Nat} {L : Nat → sdL} {sc : Option (Nat × Nat × (Nat → Int32))}
def w_S_give (o : Nat) (M : sdM) (a1 : Int32) (a2 : Int32) (a3 : Int32) (Q : sdM → Prop) : Prop := vp_in a1 48 ∧ vp_in a1 48 ∧ ∀ M10 : sdM, M10 = sd_s M (o + 4) a1.toNatClampNeg ((M (o + 4) a1.toNatClampNeg) ||| ((1 : Int32) <<< (a2 &&& 31))) → vp_in ((a1 * (4 : Int32)) + a2) 192 ∧ ∀ M13 : sdM, M13 = sd_s M10 (o + 3) ((a1 * (4 : Int32)) + a2).toNatClampNeg a3 → Q M13
set_option maxHeartbeats 1000000 in
theorem c_S_give {a1 : Int32} {a2 : Int32} {a3 : Int32} {o : Nat} (hA : sd_ad b n ad) (hT : l.stackTraces = false) (ho : isS n L dA o) {Q : sdM → Prop} {M : sdM} (hw : w_S_give o M a1 a2 a3 Q) : sd_Cn l (sdE0 sc) y_S_give Y_S_give.2.2.2.2.1 Y_S_give.2.2.2.2.2.1 0 0 D (sd_tys dA) b n ad L M [.ref o, .int a1, .int a2, .int a3] (sd_qv Q) sd_xf := by
  refine sd_enter (Y := Y_S_give) rfl rfl rfl (Nat.le_of_ble_eq_true rfl) ?_
  show sdW l (sdE0 sc) Y_S_give D (sd_tys dA) b n ad L ad (sd_H D (sdE0 sc).1 n ad L) (sd_qv Q) sd_xf 0 [(0, .ref o), (1, .int a1), (2, .int a2), (3, .int a3)] [] M 0 0
  unfold w_S_give at hw
  refine x_aload_n 0 0 d_S_give_0 rfl rfl ?_
  refine x_getr 3 (o + 4) d_S_give_1 ho.1 ho.2.1 rfl rfl (by decide) lay_S (List.mem_cons_of_mem _ q1) rfl ?_
  refine x_iload_n 1 1 d_S_give_4 rfl rfl ?_
  refine x_dup2 d_S_give_5 rfl rfl ?_
  obtain ⟨hi8, hw⟩ := hw
  refine x_iald d_S_give_6 ho.given.1 ho.given.2 rfl hi8 ?_
  refine x_iconst (v := 1) d_S_give_7 (by decide) ?_
  refine x_iload_n 2 2 d_S_give_8 rfl rfl ?_
  refine x_ishl d_S_give_9 ?_
  refine x_ior d_S_give_10 ?_
  obtain ⟨hi9, hw⟩ := hw
  refine x_iast hA d_S_give_11 ho.given.1 ho.given.2 rfl hi9 (fun M10 e11 => ?_)
  have hw := hw M10 e11
  clear e11
  refine x_aload_n 0 0 d_S_give_12 rfl rfl ?_
  refine x_getr 2 (o + 3) d_S_give_13 ho.1 ho.2.1 rfl rfl (by decide) lay_S (List.mem_cons_of_mem _ q2) rfl ?_
  refine x_iload_n 1 1 d_S_give_16 rfl rfl ?_
  refine x_iconst (v := 4) d_S_give_17 (by decide) ?_
  refine x_imul d_S_give_18 ?_
  refine x_iload_n 2 2 d_S_give_19 rfl rfl ?_
  refine x_iadd d_S_give_20 ?_
  refine x_iload_n 3 3 d_S_give_21 rfl rfl ?_
  obtain ⟨hi12, hw⟩ := hw
  refine x_iast hA d_S_give_22 ho.values.1 ho.values.2 rfl hi12 (fun M13 e14 => ?_)
  have hw := hw M13 e14
  clear e14
  exact x_vret d_S_give_23 rfl (fun _ h => h) ⟨rfl, hw⟩
end
abbrev y_JA_fill : MethodName := ⟨"java/util/Arrays", "fill", "([II)V"⟩
theorem d_JA_fill_0 : decode prog_23_method_103_code 0 = .ok (.iconst 0, 1) := by decide +kernel
theorem d_JA_fill_1 : decode prog_23_method_103_code 1 = .ok (.istore_n 2, 1) := by decide +kernel
theorem d_JA_fill_2 : decode prog_23_method_103_code 2 = .ok (.aload_n 0, 1) := by decide +kernel
theorem d_JA_fill_3 : decode prog_23_method_103_code 3 = .ok (.arraylength, 1) := by decide +kernel
theorem d_JA_fill_4 : decode prog_23_method_103_code 4 = .ok (.istore_n 3, 1) := by decide +kernel
theorem d_JA_fill_5 : decode prog_23_method_103_code 5 = .ok (.iload_n 2, 1) := by decide +kernel
theorem d_JA_fill_6 : decode prog_23_method_103_code 6 = .ok (.iload_n 3, 1) := by decide +kernel
theorem d_JA_fill_7 : decode prog_23_method_103_code 7 = .ok (.if_icmp .ge (13), 3) := by decide +kernel
theorem d_JA_fill_10 : decode prog_23_method_103_code 10 = .ok (.aload_n 0, 1) := by decide +kernel
theorem d_JA_fill_11 : decode prog_23_method_103_code 11 = .ok (.iload_n 2, 1) := by decide +kernel
theorem d_JA_fill_12 : decode prog_23_method_103_code 12 = .ok (.iload_n 1, 1) := by decide +kernel
theorem d_JA_fill_13 : decode prog_23_method_103_code 13 = .ok (.iastore, 1) := by decide +kernel
theorem d_JA_fill_14 : decode prog_23_method_103_code 14 = .ok (.iinc 2 (1), 3) := by decide +kernel
theorem d_JA_fill_17 : decode prog_23_method_103_code 17 = .ok (.goto (-12), 3) := by decide +kernel
theorem d_JA_fill_20 : decode prog_23_method_103_code 20 = .ok (.return_, 1) := by decide +kernel
def Y_JA_fill : sdY := ("java/util/Arrays", prog_23_method_103_code, 4, none, .code y_JA_fill prog_23_method_103_code 4 none :: sdB0, { frames := 0, cells := 0, slots := 0, locals := 0 }, 0, 0)
section
variable {l : Launch} {D : va_G} {dA : Nat → ClassId} {b n : Nat} {ad : Nat → Nat} {L : Nat → sdL} {sc : Option (Nat × Nat × (Nat → Int32))}
def h_JA_fill_5 (Q : sdM → Prop) : Nat → sdM → Nat → Int32 → Int32 → Int32 → Prop
  | 0, _, _, _, _, _ => False
  | N + 1, M, o0, x1, x2, x3 => (x3 ≤ x2 → Q M) ∧ (¬ x3 ≤ x2 → vp_in x2 4 ∧ ∀ M5 : sdM, M5 = sd_s M o0 x2.toNatClampNeg x1 → h_JA_fill_5 Q N M5 o0 x1 (x2 + 1) x3)
set_option maxHeartbeats 1000000 in
theorem t_JA_fill_5 (hA : sd_ad b n ad) (hT : l.stackTraces = false) {Q : sdM → Prop} (N : Nat) : ∀ (M : sdM) (o0 : Nat) (x1 : Int32) (x2 : Int32) (x3 : Int32) (ho0 : isI n L (dA 0) o0 4), h_JA_fill_5 Q N M o0 x1 x2 x3 → sdW l (sdE0 sc) Y_JA_fill D (sd_tys dA) b n ad L ad (sd_H D (sdE0 sc).1 n ad L) (sd_qv Q) sd_xf 5 [(0, .ref o0), (1, .int x1), (2, .int x2), (3, .int x3)] [] M 0 0 := by
  induction N with
  | zero => intro M o0 x1 x2 x3 ho0 hw; exact hw.elim
  | succ N ih =>
    intro M o0 x1 x2 x3 ho0 hw
    rw [h_JA_fill_5] at hw
    refine x_iload_n 2 2 d_JA_fill_5 rfl rfl ?_
    refine x_iload_n 3 3 d_JA_fill_6 rfl rfl ?_
    refine x_icmp_ge 20 d_JA_fill_7 rfl (fun hc => ?_) (fun hc => ?_)
    · have hw := hw.1 hc
      exact x_vret d_JA_fill_20 rfl (fun _ h => h) ⟨rfl, hw⟩
    · have hw := hw.2 hc
      refine x_aload_n 0 0 d_JA_fill_10 rfl rfl ?_
      refine x_iload_n 2 2 d_JA_fill_11 rfl rfl ?_
      refine x_iload_n 1 1 d_JA_fill_12 rfl rfl ?_
      obtain ⟨hi4, hw⟩ := hw
      refine x_iast hA d_JA_fill_13 ho0.1 ho0.2 rfl hi4 (fun M5 e6 => ?_)
      have hw := hw M5 e6
      clear e6
      refine x_iinc 2 2 [(2, .int (x2 + 1)), (0, .ref o0), (1, .int x1), (3, .int x3)] d_JA_fill_14 rfl (congrArg (HAdd.hAdd x2) (show Int32.ofInt 1 = 1 by decide)) (by decide) rfl ?_
      refine x_goto 5 d_JA_fill_17 rfl ?_
      refine x_sub [1, 2, 0, 3] [(0, .ref o0), (1, .int x1), (2, .int (x2 + 1)), (3, .int x3)] rfl ?_
      exact ih M5 o0 x1 (x2 + 1) x3 ho0 hw
def w_JA_fill (M : sdM) (p0 : Nat) (a1 : Int32) (Q : sdM → Prop) : Prop := ∃ N9 : Nat, h_JA_fill_5 Q N9 M p0 a1 (0 : Int32) (4 : Int32)
set_option maxHeartbeats 1000000 in
theorem c_JA_fill {p0 : Nat} {a1 : Int32} (hA : sd_ad b n ad) (hT : l.stackTraces = false) (hp0 : isI n L (dA 0) p0 4) {Q : sdM → Prop} {M : sdM} (hw : w_JA_fill M p0 a1 Q) : sd_Cn l (sdE0 sc) y_JA_fill Y_JA_fill.2.2.2.2.1 Y_JA_fill.2.2.2.2.2.1 0 0 D (sd_tys dA) b n ad L M [.ref p0, .int a1] (sd_qv Q) sd_xf := by
  refine sd_enter (Y := Y_JA_fill) (by decide +kernel) rfl rfl (Nat.le_of_ble_eq_true rfl) ?_
  show sdW l (sdE0 sc) Y_JA_fill D (sd_tys dA) b n ad L ad (sd_H D (sdE0 sc).1 n ad L) (sd_qv Q) sd_xf 0 [(0, .ref p0), (1, .int a1)] [] M 0 0
  unfold w_JA_fill at hw
  refine x_iconst (v := 0) d_JA_fill_0 (by decide) ?_
  refine x_istore_n 2 [(2, .int (0 : Int32)), (0, .ref p0), (1, .int a1)] d_JA_fill_1 rfl (by decide) rfl ?_
  refine x_aload_n 0 1 d_JA_fill_2 rfl rfl ?_
  refine x_alen (v := 4) d_JA_fill_3 hp0.1 hp0.2 rfl (by decide) ?_
  refine x_istore_n 3 [(3, .int (4 : Int32)), (2, .int (0 : Int32)), (0, .ref p0), (1, .int a1)] d_JA_fill_4 rfl (by decide) rfl ?_
  refine x_sub [2, 3, 1, 0] [(0, .ref p0), (1, .int a1), (2, .int (0 : Int32)), (3, .int (4 : Int32))] rfl ?_
  obtain ⟨N9, hw⟩ := hw
  exact t_JA_fill_5 hA hT N9 M p0 a1 (0 : Int32) (4 : Int32) hp0 hw
end
theorem q47 : (.methodLink "SettingsDesk$Settings" 30 ⟨"java/util/Arrays", "fill", "([II)V"⟩ : Cond) ∈ sdB0 := sd_tb4 0 rfl rfl
theorem q48 : (.code ⟨"java/util/Arrays", "fill", "([II)V"⟩ prog_23_method_103_code 4 none : Cond) ∈ sdB0 := sd_tb4 2 rfl rfl
theorem q49 : (.static ⟨"java/util/Arrays", "fill", "([II)V"⟩ : Cond) ∈ sdB0 := sd_tb4 1 rfl rfl
theorem q50 : (.initialized "java/util/Arrays" : Cond) ∈ sdB0 := sd_tb1 19 rfl rfl
abbrev y_S_removeAll : MethodName := ⟨"SettingsDesk$Settings", "removeAll", "()V"⟩
theorem d_S_removeAll_0 : decode prog_9_method_3_code 0 = .ok (.aload_n 0, 1) := by decide +kernel
theorem d_S_removeAll_1 : decode prog_9_method_3_code 1 = .ok (.getfield 9, 3) := by decide +kernel
theorem d_S_removeAll_4 : decode prog_9_method_3_code 4 = .ok (.iconst 0, 1) := by decide +kernel
theorem d_S_removeAll_5 : decode prog_9_method_3_code 5 = .ok (.invokestatic 30, 3) := by decide +kernel
theorem d_S_removeAll_8 : decode prog_9_method_3_code 8 = .ok (.return_, 1) := by decide +kernel
def Y_S_removeAll : sdY := ("SettingsDesk$Settings", prog_9_method_3_code, 1, none, .code y_S_removeAll prog_9_method_3_code 1 none :: sdB0, { frames := 1, cells := 0, slots := 0, locals := 23 }, 0, 0)
theorem cw_S_removeAll_JA_fill_30 : sd_cwS Y_S_removeAll Y_JA_fill y_JA_fill 30 2 := ⟨sd_goodS q47 q49 q50 q48, ⟨_, rfl⟩, ⟨rfl, rfl, rfl, rfl⟩, ⟨by decide, by decide, by decide +kernel⟩, ⟨by decide, by decide⟩⟩
section
variable {l : Launch} {D : va_G} {dA : Nat → ClassId} {b n : Nat} {ad : Nat → Nat} {L : Nat → sdL} {sc : Option (Nat × Nat × (Nat → Int32))}
def w_S_removeAll (o : Nat) (M : sdM) (Q : sdM → Prop) : Prop := w_JA_fill M (o + 1) (0 : Int32) (fun M2 => Q M2)
set_option maxHeartbeats 1000000 in
theorem c_S_removeAll {o : Nat} (hA : sd_ad b n ad) (hT : l.stackTraces = false) (ho : isS n L dA o) {Q : sdM → Prop} {M : sdM} (hw : w_S_removeAll o M Q) : sd_Cn l (sdE0 sc) y_S_removeAll Y_S_removeAll.2.2.2.2.1 Y_S_removeAll.2.2.2.2.2.1 0 0 D (sd_tys dA) b n ad L M [.ref o] (sd_qv Q) sd_xf := by
  refine sd_enter (Y := Y_S_removeAll) rfl rfl rfl (Nat.le_of_ble_eq_true rfl) ?_
  show sdW l (sdE0 sc) Y_S_removeAll D (sd_tys dA) b n ad L ad (sd_H D (sdE0 sc).1 n ad L) (sd_qv Q) sd_xf 0 [(0, .ref o)] [] M 0 0
  unfold w_S_removeAll at hw
  refine x_aload_n 0 0 d_S_removeAll_0 rfl rfl ?_
  refine x_getr 0 (o + 1) d_S_removeAll_1 ho.1 ho.2.1 rfl rfl (by decide) lay_S (List.mem_cons_of_mem _ q0) rfl ?_
  refine x_iconst (v := 0) d_S_removeAll_4 (by decide) ?_
  refine x_callSv (As := [.ref (o + 1), .int (0 : Int32)]) (rest := []) (rc := 0) (rs := 0) (c_JA_fill hA hT ho.counts hw) cw_S_removeAll_JA_fill_30 d_S_removeAll_5 rfl rfl (Nat.le_of_ble_eq_true rfl) (fun _ _ h => h.elim) (fun _ _ h => h) (fun M2 hw => ?_)
  exact x_vret d_S_removeAll_8 rfl (fun _ h => h) ⟨rfl, hw⟩
end
abbrev y_S_keyAfter : MethodName := ⟨"SettingsDesk$Settings", "keyAfter", "(II)I"⟩
theorem d_S_keyAfter_0 : decode prog_9_method_7_code 0 = .ok (.aload_n 0, 1) := by decide +kernel
theorem d_S_keyAfter_1 : decode prog_9_method_7_code 1 = .ok (.iload_n 1, 1) := by decide +kernel
theorem d_S_keyAfter_2 : decode prog_9_method_7_code 2 = .ok (.invokevirtual 36, 3) := by decide +kernel
theorem d_S_keyAfter_5 : decode prog_9_method_7_code 5 = .ok (.istore_n 3, 1) := by decide +kernel
theorem d_S_keyAfter_6 : decode prog_9_method_7_code 6 = .ok (.iload_n 3, 1) := by decide +kernel
theorem d_S_keyAfter_7 : decode prog_9_method_7_code 7 = .ok (.aload_n 0, 1) := by decide +kernel
theorem d_S_keyAfter_8 : decode prog_9_method_7_code 8 = .ok (.iload_n 1, 1) := by decide +kernel
theorem d_S_keyAfter_9 : decode prog_9_method_7_code 9 = .ok (.invokevirtual 40, 3) := by decide +kernel
theorem d_S_keyAfter_12 : decode prog_9_method_7_code 12 = .ok (.if_icmp .ge (26), 3) := by decide +kernel
theorem d_S_keyAfter_15 : decode prog_9_method_7_code 15 = .ok (.aload_n 0, 1) := by decide +kernel
theorem d_S_keyAfter_16 : decode prog_9_method_7_code 16 = .ok (.getfield 15, 3) := by decide +kernel
theorem d_S_keyAfter_19 : decode prog_9_method_7_code 19 = .ok (.iload_n 3, 1) := by decide +kernel
theorem d_S_keyAfter_20 : decode prog_9_method_7_code 20 = .ok (.iaload, 1) := by decide +kernel
theorem d_S_keyAfter_21 : decode prog_9_method_7_code 21 = .ok (.iload_n 2, 1) := by decide +kernel
theorem d_S_keyAfter_22 : decode prog_9_method_7_code 22 = .ok (.if_icmp .le (10), 3) := by decide +kernel
theorem d_S_keyAfter_25 : decode prog_9_method_7_code 25 = .ok (.aload_n 0, 1) := by decide +kernel
theorem d_S_keyAfter_26 : decode prog_9_method_7_code 26 = .ok (.getfield 15, 3) := by decide +kernel
theorem d_S_keyAfter_29 : decode prog_9_method_7_code 29 = .ok (.iload_n 3, 1) := by decide +kernel
theorem d_S_keyAfter_30 : decode prog_9_method_7_code 30 = .ok (.iaload, 1) := by decide +kernel
theorem d_S_keyAfter_31 : decode prog_9_method_7_code 31 = .ok (.ireturn, 1) := by decide +kernel
theorem d_S_keyAfter_32 : decode prog_9_method_7_code 32 = .ok (.iinc 3 (1), 3) := by decide +kernel
theorem d_S_keyAfter_35 : decode prog_9_method_7_code 35 = .ok (.goto (-29), 3) := by decide +kernel
theorem d_S_keyAfter_38 : decode prog_9_method_7_code 38 = .ok (.bipush (101), 2) := by decide +kernel
theorem d_S_keyAfter_40 : decode prog_9_method_7_code 40 = .ok (.ireturn, 1) := by decide +kernel
def Y_S_keyAfter : sdY := ("SettingsDesk$Settings", prog_9_method_7_code, 4, (some .int), .code y_S_keyAfter prog_9_method_7_code 4 (some .int) :: sdB0, { frames := 1, cells := 0, slots := 0, locals := 21 }, 0, 0)
theorem cw_S_keyAfter_S_firstRow_36 : sd_cwV Y_S_keyAfter Y_S_firstRow y_S_firstRow 36 1 "SettingsDesk$Settings" := ⟨sd_goodV q17 q19 q20 q7 q18, ⟨_, rfl⟩, ⟨rfl, rfl, rfl, rfl⟩, ⟨rfl, by decide, by decide, by decide +kernel⟩, ⟨by decide, by decide⟩⟩
theorem cw_S_keyAfter_S_endRow_40 : sd_cwV Y_S_keyAfter Y_S_endRow y_S_endRow 40 1 "SettingsDesk$Settings" := ⟨sd_goodV q21 q23 q24 q7 q22, ⟨_, rfl⟩, ⟨rfl, rfl, rfl, rfl⟩, ⟨rfl, by decide, by decide, by decide +kernel⟩, ⟨by decide, by decide⟩⟩
section
variable {l : Launch} {D : va_G} {dA : Nat → ClassId} {b n : Nat} {ad : Nat → Nat} {L : Nat → sdL} {sc : Option (Nat × Nat × (Nat → Int32))}
def h_S_keyAfter_6 (o : Nat) (Q : Int32 → sdM → Prop) : Nat → sdM → Int32 → Int32 → Int32 → Prop
  | 0, _, _, _, _ => False
  | N + 1, M, x1, x2, x3 => w_S_endRow o M x1 (fun r8 M7 => (r8 ≤ x3 → Q (101 : Int32) M7) ∧ (¬ r8 ≤ x3 → vp_in x3 48 ∧ ((M7 (o + 2) x3.toNatClampNeg) ≤ x2 → h_S_keyAfter_6 o Q N M7 x1 x2 (x3 + 1)) ∧ (¬ (M7 (o + 2) x3.toNatClampNeg) ≤ x2 → vp_in x3 48 ∧ Q (M7 (o + 2) x3.toNatClampNeg) M7)))
set_option maxHeartbeats 1000000 in
theorem t_S_keyAfter_6 {o : Nat} (hA : sd_ad b n ad) (hT : l.stackTraces = false) (ho : isS n L dA o) {Q : Int32 → sdM → Prop} (N : Nat) : ∀ (M : sdM) (x1 : Int32) (x2 : Int32) (x3 : Int32), h_S_keyAfter_6 o Q N M x1 x2 x3 → sdW l (sdE0 sc) Y_S_keyAfter D (sd_tys dA) b n ad L ad (sd_H D (sdE0 sc).1 n ad L) (sd_qi Q) sd_xf 6 [(0, .ref o), (1, .int x1), (2, .int x2), (3, .int x3)] [] M 0 0 := by
  induction N with
  | zero => intro M x1 x2 x3 hw; exact hw.elim
  | succ N ih =>
    intro M x1 x2 x3 hw
    rw [h_S_keyAfter_6] at hw
    refine x_iload_n 3 3 d_S_keyAfter_6 rfl rfl ?_
    refine x_aload_n 0 0 d_S_keyAfter_7 rfl rfl ?_
    refine x_iload_n 1 1 d_S_keyAfter_8 rfl rfl ?_
    refine x_callVi (As := [.int x1]) (t := o) (rest := [.int x3]) (rc := 0) (rs := 0) (c_S_endRow hA hT ho hw) cw_S_keyAfter_S_endRow_40 ho.1 ho.2.1 rfl d_S_keyAfter_9 rfl rfl (Nat.le_of_ble_eq_true rfl) (fun _ _ h => h.elim) (fun _ _ h => h) (fun r8 M7 hw => ?_)
    refine x_icmp_ge 38 d_S_keyAfter_12 rfl (fun hc => ?_) (fun hc => ?_)
    · have hw := hw.1 hc
      refine x_bipush (v := 101) d_S_keyAfter_38 (by decide) ?_
      exact x_iret d_S_keyAfter_40 rfl (fun _ h => h) ⟨_, rfl, hw⟩
    · have hw := hw.2 hc
      refine x_aload_n 0 0 d_S_keyAfter_15 rfl rfl ?_
      refine x_getr 1 (o + 2) d_S_keyAfter_16 ho.1 ho.2.1 rfl rfl (by decide) lay_S (List.mem_cons_of_mem _ q16) rfl ?_
      refine x_iload_n 3 3 d_S_keyAfter_19 rfl rfl ?_
      obtain ⟨hi9, hw⟩ := hw
      refine x_iald d_S_keyAfter_20 ho.keys.1 ho.keys.2 rfl hi9 ?_
      refine x_iload_n 2 2 d_S_keyAfter_21 rfl rfl ?_
      refine x_icmp_le 32 d_S_keyAfter_22 rfl (fun hc => ?_) (fun hc => ?_)
      · have hw := hw.1 hc
        refine x_iinc 3 3 [(3, .int (x3 + 1)), (0, .ref o), (1, .int x1), (2, .int x2)] d_S_keyAfter_32 rfl (congrArg (HAdd.hAdd x3) (show Int32.ofInt 1 = 1 by decide)) (by decide) rfl ?_
        refine x_goto 6 d_S_keyAfter_35 rfl ?_
        refine x_sub [1, 2, 3, 0] [(0, .ref o), (1, .int x1), (2, .int x2), (3, .int (x3 + 1))] rfl ?_
        exact ih M7 x1 x2 (x3 + 1) hw
      · have hw := hw.2 hc
        refine x_aload_n 0 0 d_S_keyAfter_25 rfl rfl ?_
        refine x_getr 1 (o + 2) d_S_keyAfter_26 ho.1 ho.2.1 rfl rfl (by decide) lay_S (List.mem_cons_of_mem _ q16) rfl ?_
        refine x_iload_n 3 3 d_S_keyAfter_29 rfl rfl ?_
        obtain ⟨hi10, hw⟩ := hw
        refine x_iald d_S_keyAfter_30 ho.keys.1 ho.keys.2 rfl hi10 ?_
        exact x_iret d_S_keyAfter_31 rfl (fun _ h => h) ⟨_, rfl, hw⟩
def w_S_keyAfter (o : Nat) (M : sdM) (a1 : Int32) (a2 : Int32) (Q : Int32 → sdM → Prop) : Prop := w_S_firstRow o M a1 (fun r12 M11 => ∃ N9 : Nat, h_S_keyAfter_6 o Q N9 M11 a1 a2 r12)
set_option maxHeartbeats 1000000 in
theorem c_S_keyAfter {a1 : Int32} {a2 : Int32} {o : Nat} (hA : sd_ad b n ad) (hT : l.stackTraces = false) (ho : isS n L dA o) {Q : Int32 → sdM → Prop} {M : sdM} (hw : w_S_keyAfter o M a1 a2 Q) : sd_Cn l (sdE0 sc) y_S_keyAfter Y_S_keyAfter.2.2.2.2.1 Y_S_keyAfter.2.2.2.2.2.1 0 0 D (sd_tys dA) b n ad L M [.ref o, .int a1, .int a2] (sd_qi Q) sd_xf := by
  refine sd_enter (Y := Y_S_keyAfter) rfl rfl rfl (Nat.le_of_ble_eq_true rfl) ?_
  show sdW l (sdE0 sc) Y_S_keyAfter D (sd_tys dA) b n ad L ad (sd_H D (sdE0 sc).1 n ad L) (sd_qi Q) sd_xf 0 [(0, .ref o), (1, .int a1), (2, .int a2)] [] M 0 0
  unfold w_S_keyAfter at hw
  refine x_aload_n 0 0 d_S_keyAfter_0 rfl rfl ?_
  refine x_iload_n 1 1 d_S_keyAfter_1 rfl rfl ?_
  refine x_callVi (As := [.int a1]) (t := o) (rest := []) (rc := 0) (rs := 0) (c_S_firstRow hA hT ho hw) cw_S_keyAfter_S_firstRow_36 ho.1 ho.2.1 rfl d_S_keyAfter_2 rfl rfl (Nat.le_of_ble_eq_true rfl) (fun _ _ h => h.elim) (fun _ _ h => h) (fun r12 M11 hw => ?_)
  refine x_istore_n 3 [(3, .int r12), (0, .ref o), (1, .int a1), (2, .int a2)] d_S_keyAfter_5 rfl (by decide) rfl ?_
  refine x_sub [1, 2, 3, 0] [(0, .ref o), (1, .int a1), (2, .int a2), (3, .int r12)] rfl ?_
  obtain ⟨N9, hw⟩ := hw
  exact t_S_keyAfter_6 hA hT ho N9 M11 a1 a2 r12 hw
end
theorem q51 : (.methodLink "SettingsDesk$Settings" 43 ⟨"SettingsDesk$Settings", "keyAfter", "(II)I"⟩ : Cond) ∈ sdB0 := sd_tb4 11 rfl rfl
theorem q52 : (.code ⟨"SettingsDesk$Settings", "keyAfter", "(II)I"⟩ prog_9_method_7_code 4 (some .int) : Cond) ∈ sdB0 := sd_tb4 14 rfl rfl
theorem q53 : (.instanceMethod ⟨"SettingsDesk$Settings", "keyAfter", "(II)I"⟩ : Cond) ∈ sdB0 := sd_tb4 12 rfl rfl
theorem q54 : (.selects "SettingsDesk$Settings" ⟨"SettingsDesk$Settings", "keyAfter", "(II)I"⟩ ⟨"SettingsDesk$Settings", "keyAfter", "(II)I"⟩ : Cond) ∈ sdB0 := sd_tb4 13 rfl rfl
theorem q55 : (.methodLink "SettingsDesk$Settings" 47 ⟨"java/lang/Math", "min", "(II)I"⟩ : Cond) ∈ sdB0 := sd_tb4 15 rfl rfl
theorem q56 : (.code ⟨"java/lang/Math", "min", "(II)I"⟩ prog_17_method_69_code 2 (some .int) : Cond) ∈ sdB0 := sd_tb2 57 rfl rfl
theorem q57 : (.static ⟨"java/lang/Math", "min", "(II)I"⟩ : Cond) ∈ sdB0 := sd_tb2 56 rfl rfl
theorem q58 : (.initialized "java/lang/Math" : Cond) ∈ sdB0 := sd_tb1 20 rfl rfl
abbrev y_S_keyAfterInEither : MethodName := ⟨"SettingsDesk$Settings", "keyAfterInEither", "(LSettingsDesk$Settings;II)I"⟩
theorem d_S_keyAfterInEither_0 : decode prog_9_method_8_code 0 = .ok (.aload_n 0, 1) := by decide +kernel
theorem d_S_keyAfterInEither_1 : decode prog_9_method_8_code 1 = .ok (.iload_n 2, 1) := by decide +kernel
theorem d_S_keyAfterInEither_2 : decode prog_9_method_8_code 2 = .ok (.iload_n 3, 1) := by decide +kernel
theorem d_S_keyAfterInEither_3 : decode prog_9_method_8_code 3 = .ok (.invokevirtual 43, 3) := by decide +kernel
theorem d_S_keyAfterInEither_6 : decode prog_9_method_8_code 6 = .ok (.aload_n 1, 1) := by decide +kernel
theorem d_S_keyAfterInEither_7 : decode prog_9_method_8_code 7 = .ok (.iload_n 2, 1) := by decide +kernel
theorem d_S_keyAfterInEither_8 : decode prog_9_method_8_code 8 = .ok (.iload_n 3, 1) := by decide +kernel
theorem d_S_keyAfterInEither_9 : decode prog_9_method_8_code 9 = .ok (.invokevirtual 43, 3) := by decide +kernel
theorem d_S_keyAfterInEither_12 : decode prog_9_method_8_code 12 = .ok (.invokestatic 47, 3) := by decide +kernel
theorem d_S_keyAfterInEither_15 : decode prog_9_method_8_code 15 = .ok (.ireturn, 1) := by decide +kernel
def Y_S_keyAfterInEither : sdY := ("SettingsDesk$Settings", prog_9_method_8_code, 4, (some .int), .code y_S_keyAfterInEither prog_9_method_8_code 4 (some .int) :: sdB0, { frames := 2, cells := 0, slots := 0, locals := 44 }, 0, 0)
theorem cw_S_keyAfterInEither_S_keyAfter_43 : sd_cwV Y_S_keyAfterInEither Y_S_keyAfter y_S_keyAfter 43 2 "SettingsDesk$Settings" := ⟨sd_goodV q51 q53 q54 q7 q52, ⟨_, rfl⟩, ⟨rfl, rfl, rfl, rfl⟩, ⟨rfl, by decide, by decide, by decide +kernel⟩, ⟨by decide, by decide⟩⟩
theorem cw_S_keyAfterInEither_JM_min_47 : sd_cwS Y_S_keyAfterInEither Y_JM_min y_JM_min 47 2 := ⟨sd_goodS q55 q57 q58 q56, ⟨_, rfl⟩, ⟨rfl, rfl, rfl, rfl⟩, ⟨by decide, by decide, by decide +kernel⟩, ⟨by decide, by decide⟩⟩
section
variable {l : Launch} {D : va_G} {dA : Nat → ClassId} {b n : Nat} {ad : Nat → Nat} {L : Nat → sdL} {sc : Option (Nat × Nat × (Nat → Int32))}
def w_S_keyAfterInEither (o : Nat) (M : sdM) (p1 : Nat) (a2 : Int32) (a3 : Int32) (Q : Int32 → sdM → Prop) : Prop := w_S_keyAfter o M a2 a3 (fun r8 M7 => w_S_keyAfter p1 M7 a2 a3 (fun r10 M9 => w_JM_min M9 r8 r10 (fun r12 M11 => Q r12 M11)))
set_option maxHeartbeats 1000000 in
theorem c_S_keyAfterInEither {p1 : Nat} {a2 : Int32} {a3 : Int32} {o : Nat} (hA : sd_ad b n ad) (hT : l.stackTraces = false) (ho : isS n L dA o) (hp1 : isS n L dA p1) {Q : Int32 → sdM → Prop} {M : sdM} (hw : w_S_keyAfterInEither o M p1 a2 a3 Q) : sd_Cn l (sdE0 sc) y_S_keyAfterInEither Y_S_keyAfterInEither.2.2.2.2.1 Y_S_keyAfterInEither.2.2.2.2.2.1 0 0 D (sd_tys dA) b n ad L M [.ref o, .ref p1, .int a2, .int a3] (sd_qi Q) sd_xf := by
  refine sd_enter (Y := Y_S_keyAfterInEither) rfl rfl rfl (Nat.le_of_ble_eq_true rfl) ?_
  show sdW l (sdE0 sc) Y_S_keyAfterInEither D (sd_tys dA) b n ad L ad (sd_H D (sdE0 sc).1 n ad L) (sd_qi Q) sd_xf 0 [(0, .ref o), (1, .ref p1), (2, .int a2), (3, .int a3)] [] M 0 0
  unfold w_S_keyAfterInEither at hw
  refine x_aload_n 0 0 d_S_keyAfterInEither_0 rfl rfl ?_
  refine x_iload_n 2 2 d_S_keyAfterInEither_1 rfl rfl ?_
  refine x_iload_n 3 3 d_S_keyAfterInEither_2 rfl rfl ?_
  refine x_callVi (As := [.int a2, .int a3]) (t := o) (rest := []) (rc := 0) (rs := 0) (c_S_keyAfter hA hT ho hw) cw_S_keyAfterInEither_S_keyAfter_43 ho.1 ho.2.1 rfl d_S_keyAfterInEither_3 rfl rfl (Nat.le_of_ble_eq_true rfl) (fun _ _ h => h.elim) (fun _ _ h => h) (fun r8 M7 hw => ?_)
  refine x_aload_n 1 1 d_S_keyAfterInEither_6 rfl rfl ?_
  refine x_iload_n 2 2 d_S_keyAfterInEither_7 rfl rfl ?_
  refine x_iload_n 3 3 d_S_keyAfterInEither_8 rfl rfl ?_
  refine x_callVi (As := [.int a2, .int a3]) (t := p1) (rest := [.int r8]) (rc := 0) (rs := 0) (c_S_keyAfter hA hT hp1 hw) cw_S_keyAfterInEither_S_keyAfter_43 hp1.1 hp1.2.1 rfl d_S_keyAfterInEither_9 rfl rfl (Nat.le_of_ble_eq_true rfl) (fun _ _ h => h.elim) (fun _ _ h => h) (fun r10 M9 hw => ?_)
  refine x_callSi (As := [.int r8, .int r10]) (rest := []) (rc := 0) (rs := 0) (c_JM_min hA hT  hw) cw_S_keyAfterInEither_JM_min_47 d_S_keyAfterInEither_12 rfl rfl (Nat.le_of_ble_eq_true rfl) (fun _ _ h => h.elim) (fun _ _ h => h) (fun r12 M11 hw => ?_)
  exact x_iret d_S_keyAfterInEither_15 rfl (fun _ h => h) ⟨_, rfl, hw⟩
end
theorem q59 : (.methodLink "SettingsDesk$Settings" 66 ⟨"SettingsDesk$Settings", "give", "(III)V"⟩ : Cond) ∈ sdB0 := sd_tb4 31 rfl rfl
theorem q60 : (.code ⟨"SettingsDesk$Settings", "give", "(III)V"⟩ prog_9_method_14_code 4 none : Cond) ∈ sdB0 := sd_tb3 170 rfl rfl
theorem q61 : (.instanceMethod ⟨"SettingsDesk$Settings", "give", "(III)V"⟩ : Cond) ∈ sdB0 := sd_tb3 168 rfl rfl
theorem q62 : (.selects "SettingsDesk$Settings" ⟨"SettingsDesk$Settings", "give", "(III)V"⟩ ⟨"SettingsDesk$Settings", "give", "(III)V"⟩ : Cond) ∈ sdB0 := sd_tb3 169 rfl rfl
abbrev y_S_copyLeaf : MethodName := ⟨"SettingsDesk$Settings", "copyLeaf", "(IILSettingsDesk$Settings;I)V"⟩
theorem d_S_copyLeaf_0 : decode prog_9_method_13_code 0 = .ok (.aload_n 3, 1) := by decide +kernel
theorem d_S_copyLeaf_1 : decode prog_9_method_13_code 1 = .ok (.iload 4, 2) := by decide +kernel
theorem d_S_copyLeaf_3 : decode prog_9_method_13_code 3 = .ok (.iload_n 2, 1) := by decide +kernel
theorem d_S_copyLeaf_4 : decode prog_9_method_13_code 4 = .ok (.invokevirtual 59, 3) := by decide +kernel
theorem d_S_copyLeaf_7 : decode prog_9_method_13_code 7 = .ok (.ifCond .eq (16), 3) := by decide +kernel
theorem d_S_copyLeaf_10 : decode prog_9_method_13_code 10 = .ok (.aload_n 0, 1) := by decide +kernel
theorem d_S_copyLeaf_11 : decode prog_9_method_13_code 11 = .ok (.iload_n 1, 1) := by decide +kernel
theorem d_S_copyLeaf_12 : decode prog_9_method_13_code 12 = .ok (.iload_n 2, 1) := by decide +kernel
theorem d_S_copyLeaf_13 : decode prog_9_method_13_code 13 = .ok (.aload_n 3, 1) := by decide +kernel
theorem d_S_copyLeaf_14 : decode prog_9_method_13_code 14 = .ok (.iload 4, 2) := by decide +kernel
theorem d_S_copyLeaf_16 : decode prog_9_method_13_code 16 = .ok (.iload_n 2, 1) := by decide +kernel
theorem d_S_copyLeaf_17 : decode prog_9_method_13_code 17 = .ok (.invokevirtual 63, 3) := by decide +kernel
theorem d_S_copyLeaf_20 : decode prog_9_method_13_code 20 = .ok (.invokevirtual 66, 3) := by decide +kernel
theorem d_S_copyLeaf_23 : decode prog_9_method_13_code 23 = .ok (.return_, 1) := by decide +kernel
def Y_S_copyLeaf : sdY := ("SettingsDesk$Settings", prog_9_method_13_code, 5, none, .code y_S_copyLeaf prog_9_method_13_code 5 none :: sdB0, { frames := 1, cells := 0, slots := 0, locals := 23 }, 0, 0)
theorem cw_S_copyLeaf_S_isGiven_59 : sd_cwV Y_S_copyLeaf Y_S_isGiven y_S_isGiven 59 2 "SettingsDesk$Settings" := ⟨sd_goodV q3 q5 q6 q7 q4, ⟨_, rfl⟩, ⟨rfl, rfl, rfl, rfl⟩, ⟨rfl, by decide, by decide, by decide +kernel⟩, ⟨by decide, by decide⟩⟩
theorem cw_S_copyLeaf_S_valueAt_63 : sd_cwV Y_S_copyLeaf Y_S_valueAt y_S_valueAt 63 2 "SettingsDesk$Settings" := ⟨sd_goodV q8 q10 q11 q7 q9, ⟨_, rfl⟩, ⟨rfl, rfl, rfl, rfl⟩, ⟨rfl, by decide, by decide, by decide +kernel⟩, ⟨by decide, by decide⟩⟩
theorem cw_S_copyLeaf_S_give_66 : sd_cwV Y_S_copyLeaf Y_S_give y_S_give 66 3 "SettingsDesk$Settings" := ⟨sd_goodV q59 q61 q62 q7 q60, ⟨_, rfl⟩, ⟨rfl, rfl, rfl, rfl⟩, ⟨rfl, by decide, by decide, by decide +kernel⟩, ⟨by decide, by decide⟩⟩
section
variable {l : Launch} {D : va_G} {dA : Nat → ClassId} {b n : Nat} {ad : Nat → Nat} {L : Nat → sdL} {sc : Option (Nat × Nat × (Nat → Int32))}
def k_S_copyLeaf_23 (o : Nat) (Q : sdM → Prop) (M : sdM) : Prop := Q M
set_option maxHeartbeats 1000000 in
theorem t_S_copyLeaf_23 {o : Nat} (hA : sd_ad b n ad) (hT : l.stackTraces = false) (ho : isS n L dA o) {Q : sdM → Prop} (M : sdM) (hw : k_S_copyLeaf_23 o Q M ) : sdW l (sdE0 sc) Y_S_copyLeaf D (sd_tys dA) b n ad L ad (sd_H D (sdE0 sc).1 n ad L) (sd_qv Q) sd_xf 23 [] [] M 0 0 := by
  unfold k_S_copyLeaf_23 at hw
  exact x_vret d_S_copyLeaf_23 rfl (fun _ h => h) ⟨rfl, hw⟩
def w_S_copyLeaf (o : Nat) (M : sdM) (a1 : Int32) (a2 : Int32) (p3 : Nat) (a4 : Int32) (Q : sdM → Prop) : Prop := w_S_isGiven p3 M a4 a2 (fun r7 M6 => (r7 = 0 → k_S_copyLeaf_23 o Q M6) ∧ (¬ r7 = 0 → w_S_valueAt p3 M6 a4 a2 (fun r9 M8 => w_S_give o M8 a1 a2 r9 (fun M10 => k_S_copyLeaf_23 o Q M10))))
set_option maxHeartbeats 1000000 in
theorem c_S_copyLeaf {a1 : Int32} {a2 : Int32} {p3 : Nat} {a4 : Int32} {o : Nat} (hA : sd_ad b n ad) (hT : l.stackTraces = false) (ho : isS n L dA o) (hp3 : isS n L dA p3) {Q : sdM → Prop} {M : sdM} (hw : w_S_copyLeaf o M a1 a2 p3 a4 Q) : sd_Cn l (sdE0 sc) y_S_copyLeaf Y_S_copyLeaf.2.2.2.2.1 Y_S_copyLeaf.2.2.2.2.2.1 0 0 D (sd_tys dA) b n ad L M [.ref o, .int a1, .int a2, .ref p3, .int a4] (sd_qv Q) sd_xf := by
  refine sd_enter (Y := Y_S_copyLeaf) rfl rfl rfl (Nat.le_of_ble_eq_true rfl) ?_
  show sdW l (sdE0 sc) Y_S_copyLeaf D (sd_tys dA) b n ad L ad (sd_H D (sdE0 sc).1 n ad L) (sd_qv Q) sd_xf 0 [(0, .ref o), (1, .int a1), (2, .int a2), (3, .ref p3), (4, .int a4)] [] M 0 0
  unfold w_S_copyLeaf at hw
  refine x_aload_n 3 3 d_S_copyLeaf_0 rfl rfl ?_
  refine x_iload 4 4 d_S_copyLeaf_1 rfl ?_
  refine x_iload_n 2 2 d_S_copyLeaf_3 rfl rfl ?_
  refine x_callVi (As := [.int a4, .int a2]) (t := p3) (rest := []) (rc := 0) (rs := 0) (c_S_isGiven hA hT hp3 hw) cw_S_copyLeaf_S_isGiven_59 hp3.1 hp3.2.1 rfl d_S_copyLeaf_4 rfl rfl (Nat.le_of_ble_eq_true rfl) (fun _ _ h => h.elim) (fun _ _ h => h) (fun r7 M6 hw => ?_)
  refine x_if_eq 23 d_S_copyLeaf_7 rfl (fun hc => ?_) (fun hc => ?_)
  · have hw := hw.1 hc
    refine x_sub [] [] rfl ?_
    exact t_S_copyLeaf_23 hA hT ho M6 hw
  · have hw := hw.2 hc
    refine x_aload_n 0 0 d_S_copyLeaf_10 rfl rfl ?_
    refine x_iload_n 1 1 d_S_copyLeaf_11 rfl rfl ?_
    refine x_iload_n 2 2 d_S_copyLeaf_12 rfl rfl ?_
    refine x_aload_n 3 3 d_S_copyLeaf_13 rfl rfl ?_
    refine x_iload 4 4 d_S_copyLeaf_14 rfl ?_
    refine x_iload_n 2 2 d_S_copyLeaf_16 rfl rfl ?_
    refine x_callVi (As := [.int a4, .int a2]) (t := p3) (rest := [.int a2, .int a1, .ref o]) (rc := 0) (rs := 0) (c_S_valueAt hA hT hp3 hw) cw_S_copyLeaf_S_valueAt_63 hp3.1 hp3.2.1 rfl d_S_copyLeaf_17 rfl rfl (Nat.le_of_ble_eq_true rfl) (fun _ _ h => h.elim) (fun _ _ h => h) (fun r9 M8 hw => ?_)
    refine x_callVv (As := [.int a1, .int a2, .int r9]) (t := o) (rest := []) (rc := 0) (rs := 0) (c_S_give hA hT ho hw) cw_S_copyLeaf_S_give_66 ho.1 ho.2.1 rfl d_S_copyLeaf_20 rfl rfl (Nat.le_of_ble_eq_true rfl) (fun _ _ h => h.elim) (fun _ _ h => h) (fun M10 hw => ?_)
    refine x_sub [] [] rfl ?_
    exact t_S_copyLeaf_23 hA hT ho M10 hw
end
abbrev y_S_entryCount : MethodName := ⟨"SettingsDesk$Settings", "entryCount", "()I"⟩
theorem d_S_entryCount_0 : decode prog_9_method_9_code 0 = .ok (.iconst 0, 1) := by decide +kernel
theorem d_S_entryCount_1 : decode prog_9_method_9_code 1 = .ok (.istore_n 1, 1) := by decide +kernel
theorem d_S_entryCount_2 : decode prog_9_method_9_code 2 = .ok (.iconst 0, 1) := by decide +kernel
theorem d_S_entryCount_3 : decode prog_9_method_9_code 3 = .ok (.istore_n 2, 1) := by decide +kernel
theorem d_S_entryCount_4 : decode prog_9_method_9_code 4 = .ok (.iload_n 2, 1) := by decide +kernel
theorem d_S_entryCount_5 : decode prog_9_method_9_code 5 = .ok (.iconst 4, 1) := by decide +kernel
theorem d_S_entryCount_6 : decode prog_9_method_9_code 6 = .ok (.if_icmp .ge (18), 3) := by decide +kernel
theorem d_S_entryCount_9 : decode prog_9_method_9_code 9 = .ok (.iload_n 1, 1) := by decide +kernel
theorem d_S_entryCount_10 : decode prog_9_method_9_code 10 = .ok (.aload_n 0, 1) := by decide +kernel
theorem d_S_entryCount_11 : decode prog_9_method_9_code 11 = .ok (.getfield 9, 3) := by decide +kernel
theorem d_S_entryCount_14 : decode prog_9_method_9_code 14 = .ok (.iload_n 2, 1) := by decide +kernel
theorem d_S_entryCount_15 : decode prog_9_method_9_code 15 = .ok (.iaload, 1) := by decide +kernel
theorem d_S_entryCount_16 : decode prog_9_method_9_code 16 = .ok (.iadd, 1) := by decide +kernel
theorem d_S_entryCount_17 : decode prog_9_method_9_code 17 = .ok (.istore_n 1, 1) := by decide +kernel
theorem d_S_entryCount_18 : decode prog_9_method_9_code 18 = .ok (.iinc 2 (1), 3) := by decide +kernel
theorem d_S_entryCount_21 : decode prog_9_method_9_code 21 = .ok (.goto (-17), 3) := by decide +kernel
theorem d_S_entryCount_24 : decode prog_9_method_9_code 24 = .ok (.iload_n 1, 1) := by decide +kernel
theorem d_S_entryCount_25 : decode prog_9_method_9_code 25 = .ok (.ireturn, 1) := by decide +kernel
def Y_S_entryCount : sdY := ("SettingsDesk$Settings", prog_9_method_9_code, 3, (some .int), .code y_S_entryCount prog_9_method_9_code 3 (some .int) :: sdB0, { frames := 0, cells := 0, slots := 0, locals := 0 }, 0, 0)
section
variable {l : Launch} {D : va_G} {dA : Nat → ClassId} {b n : Nat} {ad : Nat → Nat} {L : Nat → sdL} {sc : Option (Nat × Nat × (Nat → Int32))}
def h_S_entryCount_4 (o : Nat) (Q : Int32 → sdM → Prop) : Nat → sdM → Int32 → Int32 → Prop
  | 0, _, _, _ => False
  | N + 1, M, x1, x2 => ((4 : Int32) ≤ x2 → Q x1 M) ∧ (¬ (4 : Int32) ≤ x2 → vp_in x2 4 ∧ h_S_entryCount_4 o Q N M (x1 + (M (o + 1) x2.toNatClampNeg)) (x2 + 1))
set_option maxHeartbeats 1000000 in
theorem t_S_entryCount_4 {o : Nat} (hA : sd_ad b n ad) (hT : l.stackTraces = false) (ho : isS n L dA o) {Q : Int32 → sdM → Prop} (N : Nat) : ∀ (M : sdM) (x1 : Int32) (x2 : Int32), h_S_entryCount_4 o Q N M x1 x2 → sdW l (sdE0 sc) Y_S_entryCount D (sd_tys dA) b n ad L ad (sd_H D (sdE0 sc).1 n ad L) (sd_qi Q) sd_xf 4 [(0, .ref o), (1, .int x1), (2, .int x2)] [] M 0 0 := by
  induction N with
  | zero => intro M x1 x2 hw; exact hw.elim
  | succ N ih =>
    intro M x1 x2 hw
    rw [h_S_entryCount_4] at hw
    refine x_iload_n 2 2 d_S_entryCount_4 rfl rfl ?_
    refine x_iconst (v := 4) d_S_entryCount_5 (by decide) ?_
    refine x_icmp_ge 24 d_S_entryCount_6 rfl (fun hc => ?_) (fun hc => ?_)
    · have hw := hw.1 hc
      refine x_iload_n 1 1 d_S_entryCount_24 rfl rfl ?_
      exact x_iret d_S_entryCount_25 rfl (fun _ h => h) ⟨_, rfl, hw⟩
    · have hw := hw.2 hc
      refine x_iload_n 1 1 d_S_entryCount_9 rfl rfl ?_
      refine x_aload_n 0 0 d_S_entryCount_10 rfl rfl ?_
      refine x_getr 0 (o + 1) d_S_entryCount_11 ho.1 ho.2.1 rfl rfl (by decide) lay_S (List.mem_cons_of_mem _ q0) rfl ?_
      refine x_iload_n 2 2 d_S_entryCount_14 rfl rfl ?_
      obtain ⟨hi2, hw⟩ := hw
      refine x_iald d_S_entryCount_15 ho.counts.1 ho.counts.2 rfl hi2 ?_
      refine x_iadd d_S_entryCount_16 ?_
      refine x_istore_n 1 [(1, .int (x1 + (M (o + 1) x2.toNatClampNeg))), (0, .ref o), (2, .int x2)] d_S_entryCount_17 rfl (by decide) rfl ?_
      refine x_iinc 2 2 [(2, .int (x2 + 1)), (1, .int (x1 + (M (o + 1) x2.toNatClampNeg))), (0, .ref o)] d_S_entryCount_18 rfl (congrArg (HAdd.hAdd x2) (show Int32.ofInt 1 = 1 by decide)) (by decide) rfl ?_
      refine x_goto 4 d_S_entryCount_21 rfl ?_
      refine x_sub [2, 1, 0] [(0, .ref o), (1, .int (x1 + (M (o + 1) x2.toNatClampNeg))), (2, .int (x2 + 1))] rfl ?_
      exact ih M (x1 + (M (o + 1) x2.toNatClampNeg)) (x2 + 1) hw
def w_S_entryCount (o : Nat) (M : sdM) (Q : Int32 → sdM → Prop) : Prop := ∃ N9 : Nat, h_S_entryCount_4 o Q N9 M (0 : Int32) (0 : Int32)
set_option maxHeartbeats 1000000 in
theorem c_S_entryCount {o : Nat} (hA : sd_ad b n ad) (hT : l.stackTraces = false) (ho : isS n L dA o) {Q : Int32 → sdM → Prop} {M : sdM} (hw : w_S_entryCount o M Q) : sd_Cn l (sdE0 sc) y_S_entryCount Y_S_entryCount.2.2.2.2.1 Y_S_entryCount.2.2.2.2.2.1 0 0 D (sd_tys dA) b n ad L M [.ref o] (sd_qi Q) sd_xf := by
  refine sd_enter (Y := Y_S_entryCount) rfl rfl rfl (Nat.le_of_ble_eq_true rfl) ?_
  show sdW l (sdE0 sc) Y_S_entryCount D (sd_tys dA) b n ad L ad (sd_H D (sdE0 sc).1 n ad L) (sd_qi Q) sd_xf 0 [(0, .ref o)] [] M 0 0
  unfold w_S_entryCount at hw
  refine x_iconst (v := 0) d_S_entryCount_0 (by decide) ?_
  refine x_istore_n 1 [(1, .int (0 : Int32)), (0, .ref o)] d_S_entryCount_1 rfl (by decide) rfl ?_
  refine x_iconst (v := 0) d_S_entryCount_2 (by decide) ?_
  refine x_istore_n 2 [(2, .int (0 : Int32)), (1, .int (0 : Int32)), (0, .ref o)] d_S_entryCount_3 rfl (by decide) rfl ?_
  refine x_sub [2, 1, 0] [(0, .ref o), (1, .int (0 : Int32)), (2, .int (0 : Int32))] rfl ?_
  obtain ⟨N9, hw⟩ := hw
  exact t_S_entryCount_4 hA hT ho N9 M (0 : Int32) (0 : Int32) hw
end
end
section
theorem q63 : (.fieldLink "SettingsDesk$Schema" 15 "SettingsDesk$Schema" "lists" "I" : Cond) ∈ sdB0 := sd_tb1 106 rfl rfl
abbrev y_C_hasList : MethodName := ⟨"SettingsDesk$Schema", "hasList", "(I)Z"⟩
theorem d_C_hasList_0 : decode prog_7_method_2_code 0 = .ok (.iload_n 1, 1) := by decide +kernel
theorem d_C_hasList_1 : decode prog_7_method_2_code 1 = .ok (.ifCond .lt (15), 3) := by decide +kernel
theorem d_C_hasList_4 : decode prog_7_method_2_code 4 = .ok (.iload_n 1, 1) := by decide +kernel
theorem d_C_hasList_5 : decode prog_7_method_2_code 5 = .ok (.aload_n 0, 1) := by decide +kernel
theorem d_C_hasList_6 : decode prog_7_method_2_code 6 = .ok (.getfield 15, 3) := by decide +kernel
theorem d_C_hasList_9 : decode prog_7_method_2_code 9 = .ok (.if_icmp .ge (7), 3) := by decide +kernel
theorem d_C_hasList_12 : decode prog_7_method_2_code 12 = .ok (.iconst 1, 1) := by decide +kernel
theorem d_C_hasList_13 : decode prog_7_method_2_code 13 = .ok (.goto (4), 3) := by decide +kernel
theorem d_C_hasList_16 : decode prog_7_method_2_code 16 = .ok (.iconst 0, 1) := by decide +kernel
theorem d_C_hasList_17 : decode prog_7_method_2_code 17 = .ok (.ireturn, 1) := by decide +kernel
def Y_C_hasList : sdY := ("SettingsDesk$Schema", prog_7_method_2_code, 2, (some .boolean), .code y_C_hasList prog_7_method_2_code 2 (some .boolean) :: sdB0, { frames := 0, cells := 0, slots := 0, locals := 0 }, 0, 0)
section
variable {l : Launch} {D : va_G} {dA : Nat → ClassId} {b n : Nat} {ad : Nat → Nat} {L : Nat → sdL} {sc : Option (Nat × Nat × (Nat → Int32))}
def k_C_hasList_17 (Q : Int32 → sdM → Prop) (M : sdM) (s0 : Int32) : Prop := sdB s0 ∧ Q s0 M
set_option maxHeartbeats 1000000 in
theorem t_C_hasList_17 (hA : sd_ad b n ad) (hT : l.stackTraces = false) (hC : isC n L dA) {Q : Int32 → sdM → Prop} (M : sdM) (s0 : Int32) (hw : k_C_hasList_17 Q M s0) : sdW l (sdE0 sc) Y_C_hasList D (sd_tys dA) b n ad L ad (sd_H D (sdE0 sc).1 n ad L) (sd_qi Q) sd_xf 17 [] [.int s0] M 0 0 := by
  unfold k_C_hasList_17 at hw
  exact x_zret d_C_hasList_17 rfl (sdB_n hw.1) (fun _ h => h) ⟨_, rfl, hw.2⟩
def k_C_hasList_16 (Q : Int32 → sdM → Prop) (M : sdM) : Prop := k_C_hasList_17 Q M (0 : Int32)
set_option maxHeartbeats 1000000 in
theorem t_C_hasList_16 (hA : sd_ad b n ad) (hT : l.stackTraces = false) (hC : isC n L dA) {Q : Int32 → sdM → Prop} (M : sdM) (hw : k_C_hasList_16 Q M ) : sdW l (sdE0 sc) Y_C_hasList D (sd_tys dA) b n ad L ad (sd_H D (sdE0 sc).1 n ad L) (sd_qi Q) sd_xf 16 [] [] M 0 0 := by
  unfold k_C_hasList_16 at hw
  refine x_iconst (v := 0) d_C_hasList_16 (by decide) ?_
  exact t_C_hasList_17 hA hT hC M (0 : Int32) hw
def w_C_hasList (M : sdM) (a1 : Int32) (Q : Int32 → sdM → Prop) : Prop := (a1 < 0 → k_C_hasList_16 Q M) ∧ (¬ a1 < 0 → ((M 1 1) ≤ a1 → k_C_hasList_16 Q M) ∧ (¬ (M 1 1) ≤ a1 → k_C_hasList_17 Q M (1 : Int32)))
set_option maxHeartbeats 1000000 in
theorem c_C_hasList {a1 : Int32} (hA : sd_ad b n ad) (hT : l.stackTraces = false) (hC : isC n L dA) {Q : Int32 → sdM → Prop} {M : sdM} (hw : w_C_hasList M a1 Q) : sd_Cn l (sdE0 sc) y_C_hasList Y_C_hasList.2.2.2.2.1 Y_C_hasList.2.2.2.2.2.1 0 0 D (sd_tys dA) b n ad L M [.ref 1, .int a1] (sd_qi Q) sd_xf := by
  refine sd_enter (Y := Y_C_hasList) rfl rfl rfl (Nat.le_of_ble_eq_true rfl) ?_
  show sdW l (sdE0 sc) Y_C_hasList D (sd_tys dA) b n ad L ad (sd_H D (sdE0 sc).1 n ad L) (sd_qi Q) sd_xf 0 [(0, .ref 1), (1, .int a1)] [] M 0 0
  unfold w_C_hasList at hw
  refine x_iload_n 1 1 d_C_hasList_0 rfl rfl ?_
  refine x_if_lt 16 d_C_hasList_1 rfl (fun hc => ?_) (fun hc => ?_)
  · have hw := hw.1 hc
    refine x_sub [] [] rfl ?_
    exact t_C_hasList_16 hA hT hC M hw
  · have hw := hw.2 hc
    refine x_iload_n 1 1 d_C_hasList_4 rfl rfl ?_
    refine x_aload_n 0 0 d_C_hasList_5 rfl rfl ?_
    refine x_geti 1 d_C_hasList_6 hC.1 hC.2.1 rfl rfl (by decide) lay_C (List.mem_cons_of_mem _ q63) rfl ?_
    refine x_icmp_ge 16 d_C_hasList_9 rfl (fun hc => ?_) (fun hc => ?_)
    · have hw := hw.1 hc
      refine x_sub [] [] rfl ?_
      exact t_C_hasList_16 hA hT hC M hw
    · have hw := hw.2 hc
      refine x_iconst (v := 1) d_C_hasList_12 (by decide) ?_
      refine x_goto 17 d_C_hasList_13 rfl ?_
      refine x_sub [] [] rfl ?_
      exact t_C_hasList_17 hA hT hC M (1 : Int32) hw
end
theorem q64 : (.methodLink "SettingsDesk$Schema" 40 ⟨"SettingsDesk$Schema", "hasList", "(I)Z"⟩ : Cond) ∈ sdB0 := sd_tb2 178 rfl rfl
theorem q65 : (.code ⟨"SettingsDesk$Schema", "hasList", "(I)Z"⟩ prog_7_method_2_code 2 (some .boolean) : Cond) ∈ sdB0 := sd_tb2 156 rfl rfl
theorem q66 : (.instanceMethod ⟨"SettingsDesk$Schema", "hasList", "(I)Z"⟩ : Cond) ∈ sdB0 := sd_tb2 154 rfl rfl
theorem q67 : (.selects "SettingsDesk$Schema" ⟨"SettingsDesk$Schema", "hasList", "(I)Z"⟩ ⟨"SettingsDesk$Schema", "hasList", "(I)Z"⟩ : Cond) ∈ sdB0 := sd_tb2 155 rfl rfl
theorem q68 : (.initialized "SettingsDesk$Schema" : Cond) ∈ sdB0 := sd_tb1 2 rfl rfl
abbrev y_C_allowsLeaf : MethodName := ⟨"SettingsDesk$Schema", "allowsLeaf", "(III)Z"⟩
theorem d_C_allowsLeaf_0 : decode prog_7_method_5_code 0 = .ok (.iload_n 1, 1) := by decide +kernel
theorem d_C_allowsLeaf_1 : decode prog_7_method_5_code 1 = .ok (.ifCond .ne (14), 3) := by decide +kernel
theorem d_C_allowsLeaf_4 : decode prog_7_method_5_code 4 = .ok (.iload_n 2, 1) := by decide +kernel
theorem d_C_allowsLeaf_5 : decode prog_7_method_5_code 5 = .ok (.iload_n 3, 1) := by decide +kernel
theorem d_C_allowsLeaf_6 : decode prog_7_method_5_code 6 = .ok (.if_icmp .gt (7), 3) := by decide +kernel
theorem d_C_allowsLeaf_9 : decode prog_7_method_5_code 9 = .ok (.iconst 1, 1) := by decide +kernel
theorem d_C_allowsLeaf_10 : decode prog_7_method_5_code 10 = .ok (.goto (4), 3) := by decide +kernel
theorem d_C_allowsLeaf_13 : decode prog_7_method_5_code 13 = .ok (.iconst 0, 1) := by decide +kernel
theorem d_C_allowsLeaf_14 : decode prog_7_method_5_code 14 = .ok (.ireturn, 1) := by decide +kernel
theorem d_C_allowsLeaf_15 : decode prog_7_method_5_code 15 = .ok (.iload_n 1, 1) := by decide +kernel
theorem d_C_allowsLeaf_16 : decode prog_7_method_5_code 16 = .ok (.iconst 1, 1) := by decide +kernel
theorem d_C_allowsLeaf_17 : decode prog_7_method_5_code 17 = .ok (.if_icmp .ne (19), 3) := by decide +kernel
theorem d_C_allowsLeaf_20 : decode prog_7_method_5_code 20 = .ok (.iload_n 2, 1) := by decide +kernel
theorem d_C_allowsLeaf_21 : decode prog_7_method_5_code 21 = .ok (.ifCond .eq (15), 3) := by decide +kernel
theorem d_C_allowsLeaf_24 : decode prog_7_method_5_code 24 = .ok (.aload_n 0, 1) := by decide +kernel
theorem d_C_allowsLeaf_25 : decode prog_7_method_5_code 25 = .ok (.iload_n 2, 1) := by decide +kernel
theorem d_C_allowsLeaf_26 : decode prog_7_method_5_code 26 = .ok (.invokevirtual 40, 3) := by decide +kernel
theorem d_C_allowsLeaf_29 : decode prog_7_method_5_code 29 = .ok (.ifCond .eq (7), 3) := by decide +kernel
theorem d_C_allowsLeaf_32 : decode prog_7_method_5_code 32 = .ok (.iconst 1, 1) := by decide +kernel
theorem d_C_allowsLeaf_33 : decode prog_7_method_5_code 33 = .ok (.goto (4), 3) := by decide +kernel
theorem d_C_allowsLeaf_36 : decode prog_7_method_5_code 36 = .ok (.iconst 0, 1) := by decide +kernel
theorem d_C_allowsLeaf_37 : decode prog_7_method_5_code 37 = .ok (.ireturn, 1) := by decide +kernel
def Y_C_allowsLeaf : sdY := ("SettingsDesk$Schema", prog_7_method_5_code, 4, (some .boolean), .code y_C_allowsLeaf prog_7_method_5_code 4 (some .boolean) :: sdB0, { frames := 1, cells := 0, slots := 0, locals := 21 }, 0, 0)
theorem cw_C_allowsLeaf_C_hasList_40 : sd_cwV Y_C_allowsLeaf Y_C_hasList y_C_hasList 40 1 "SettingsDesk$Schema" := ⟨sd_goodV q64 q66 q67 q68 q65, ⟨_, rfl⟩, ⟨rfl, rfl, rfl, rfl⟩, ⟨rfl, by decide, by decide, by decide +kernel⟩, ⟨by decide, by decide⟩⟩
section
variable {l : Launch} {D : va_G} {dA : Nat → ClassId} {b n : Nat} {ad : Nat → Nat} {L : Nat → sdL} {sc : Option (Nat × Nat × (Nat → Int32))}
def k_C_allowsLeaf_37 (Q : Int32 → sdM → Prop) (M : sdM) (s0 : Int32) : Prop := sdB s0 ∧ Q s0 M
set_option maxHeartbeats 1000000 in
theorem t_C_allowsLeaf_37 (hA : sd_ad b n ad) (hT : l.stackTraces = false) (hC : isC n L dA) {Q : Int32 → sdM → Prop} (M : sdM) (s0 : Int32) (hw : k_C_allowsLeaf_37 Q M s0) : sdW l (sdE0 sc) Y_C_allowsLeaf D (sd_tys dA) b n ad L ad (sd_H D (sdE0 sc).1 n ad L) (sd_qi Q) sd_xf 37 [] [.int s0] M 0 0 := by
  unfold k_C_allowsLeaf_37 at hw
  exact x_zret d_C_allowsLeaf_37 rfl (sdB_n hw.1) (fun _ h => h) ⟨_, rfl, hw.2⟩
def k_C_allowsLeaf_36 (Q : Int32 → sdM → Prop) (M : sdM) : Prop := k_C_allowsLeaf_37 Q M (0 : Int32)
set_option maxHeartbeats 1000000 in
theorem t_C_allowsLeaf_36 (hA : sd_ad b n ad) (hT : l.stackTraces = false) (hC : isC n L dA) {Q : Int32 → sdM → Prop} (M : sdM) (hw : k_C_allowsLeaf_36 Q M ) : sdW l (sdE0 sc) Y_C_allowsLeaf D (sd_tys dA) b n ad L ad (sd_H D (sdE0 sc).1 n ad L) (sd_qi Q) sd_xf 36 [] [] M 0 0 := by
  unfold k_C_allowsLeaf_36 at hw
  refine x_iconst (v := 0) d_C_allowsLeaf_36 (by decide) ?_
  exact t_C_allowsLeaf_37 hA hT hC M (0 : Int32) hw
def k_C_allowsLeaf_14 (Q : Int32 → sdM → Prop) (M : sdM) (s0 : Int32) : Prop := sdB s0 ∧ Q s0 M
set_option maxHeartbeats 1000000 in
theorem t_C_allowsLeaf_14 (hA : sd_ad b n ad) (hT : l.stackTraces = false) (hC : isC n L dA) {Q : Int32 → sdM → Prop} (M : sdM) (s0 : Int32) (hw : k_C_allowsLeaf_14 Q M s0) : sdW l (sdE0 sc) Y_C_allowsLeaf D (sd_tys dA) b n ad L ad (sd_H D (sdE0 sc).1 n ad L) (sd_qi Q) sd_xf 14 [] [.int s0] M 0 0 := by
  unfold k_C_allowsLeaf_14 at hw
  exact x_zret d_C_allowsLeaf_14 rfl (sdB_n hw.1) (fun _ h => h) ⟨_, rfl, hw.2⟩
def w_C_allowsLeaf (M : sdM) (a1 : Int32) (a2 : Int32) (a3 : Int32) (Q : Int32 → sdM → Prop) : Prop := (¬ a1 = 0 → (¬ a1 = (1 : Int32) → k_C_allowsLeaf_36 Q M) ∧ (a1 = (1 : Int32) → (a2 = 0 → k_C_allowsLeaf_36 Q M) ∧ (¬ a2 = 0 → w_C_hasList M a2 (fun r4 M3 => (r4 = 0 → k_C_allowsLeaf_36 Q M3) ∧ (¬ r4 = 0 → k_C_allowsLeaf_37 Q M3 (1 : Int32)))))) ∧ (a1 = 0 → (a3 < a2 → k_C_allowsLeaf_14 Q M (0 : Int32)) ∧ (¬ a3 < a2 → k_C_allowsLeaf_14 Q M (1 : Int32)))
set_option maxHeartbeats 1000000 in
theorem c_C_allowsLeaf {a1 : Int32} {a2 : Int32} {a3 : Int32} (hA : sd_ad b n ad) (hT : l.stackTraces = false) (hC : isC n L dA) {Q : Int32 → sdM → Prop} {M : sdM} (hw : w_C_allowsLeaf M a1 a2 a3 Q) : sd_Cn l (sdE0 sc) y_C_allowsLeaf Y_C_allowsLeaf.2.2.2.2.1 Y_C_allowsLeaf.2.2.2.2.2.1 0 0 D (sd_tys dA) b n ad L M [.ref 1, .int a1, .int a2, .int a3] (sd_qi Q) sd_xf := by
  refine sd_enter (Y := Y_C_allowsLeaf) rfl rfl rfl (Nat.le_of_ble_eq_true rfl) ?_
  show sdW l (sdE0 sc) Y_C_allowsLeaf D (sd_tys dA) b n ad L ad (sd_H D (sdE0 sc).1 n ad L) (sd_qi Q) sd_xf 0 [(0, .ref 1), (1, .int a1), (2, .int a2), (3, .int a3)] [] M 0 0
  unfold w_C_allowsLeaf at hw
  refine x_iload_n 1 1 d_C_allowsLeaf_0 rfl rfl ?_
  refine x_if_ne 15 d_C_allowsLeaf_1 rfl (fun hc => ?_) (fun hc => ?_)
  · have hw := hw.1 hc
    refine x_iload_n 1 1 d_C_allowsLeaf_15 rfl rfl ?_
    refine x_iconst (v := 1) d_C_allowsLeaf_16 (by decide) ?_
    refine x_icmp_ne 36 d_C_allowsLeaf_17 rfl (fun hc => ?_) (fun hc => ?_)
    · have hw := hw.1 hc
      refine x_sub [] [] rfl ?_
      exact t_C_allowsLeaf_36 hA hT hC M hw
    · have hw := hw.2 hc
      refine x_iload_n 2 2 d_C_allowsLeaf_20 rfl rfl ?_
      refine x_if_eq 36 d_C_allowsLeaf_21 rfl (fun hc => ?_) (fun hc => ?_)
      · have hw := hw.1 hc
        refine x_sub [] [] rfl ?_
        exact t_C_allowsLeaf_36 hA hT hC M hw
      · have hw := hw.2 hc
        refine x_aload_n 0 0 d_C_allowsLeaf_24 rfl rfl ?_
        refine x_iload_n 2 2 d_C_allowsLeaf_25 rfl rfl ?_
        refine x_callVi (As := [.int a2]) (t := 1) (rest := []) (rc := 0) (rs := 0) (c_C_hasList hA hT hC hw) cw_C_allowsLeaf_C_hasList_40 hC.1 hC.2.1 rfl d_C_allowsLeaf_26 rfl rfl (Nat.le_of_ble_eq_true rfl) (fun _ _ h => h.elim) (fun _ _ h => h) (fun r4 M3 hw => ?_)
        refine x_if_eq 36 d_C_allowsLeaf_29 rfl (fun hc => ?_) (fun hc => ?_)
        · have hw := hw.1 hc
          refine x_sub [] [] rfl ?_
          exact t_C_allowsLeaf_36 hA hT hC M3 hw
        · have hw := hw.2 hc
          refine x_iconst (v := 1) d_C_allowsLeaf_32 (by decide) ?_
          refine x_goto 37 d_C_allowsLeaf_33 rfl ?_
          refine x_sub [] [] rfl ?_
          exact t_C_allowsLeaf_37 hA hT hC M3 (1 : Int32) hw
  · have hw := hw.2 hc
    refine x_iload_n 2 2 d_C_allowsLeaf_4 rfl rfl ?_
    refine x_iload_n 3 3 d_C_allowsLeaf_5 rfl rfl ?_
    refine x_icmp_gt 13 d_C_allowsLeaf_6 rfl (fun hc => ?_) (fun hc => ?_)
    · have hw := hw.1 hc
      refine x_iconst (v := 0) d_C_allowsLeaf_13 (by decide) ?_
      refine x_sub [] [] rfl ?_
      exact t_C_allowsLeaf_14 hA hT hC M (0 : Int32) hw
    · have hw := hw.2 hc
      refine x_iconst (v := 1) d_C_allowsLeaf_9 (by decide) ?_
      refine x_goto 14 d_C_allowsLeaf_10 rfl ?_
      refine x_sub [] [] rfl ?_
      exact t_C_allowsLeaf_14 hA hT hC M (1 : Int32) hw
end
theorem q69 : (.fieldLink "SettingsDesk$Schema" 25 "SettingsDesk$Schema" "leafTable" "[LSettingsDesk$Leaf;" : Cond) ∈ sdB0 := sd_tb1 112 rfl rfl
abbrev y_C_leafAt : MethodName := ⟨"SettingsDesk$Schema", "leafAt", "(II)LSettingsDesk$Leaf;"⟩
theorem d_C_leafAt_0 : decode prog_7_method_4_code 0 = .ok (.aload_n 0, 1) := by decide +kernel
theorem d_C_leafAt_1 : decode prog_7_method_4_code 1 = .ok (.getfield 25, 3) := by decide +kernel
theorem d_C_leafAt_4 : decode prog_7_method_4_code 4 = .ok (.iload_n 1, 1) := by decide +kernel
theorem d_C_leafAt_5 : decode prog_7_method_4_code 5 = .ok (.iconst 4, 1) := by decide +kernel
theorem d_C_leafAt_6 : decode prog_7_method_4_code 6 = .ok (.imul, 1) := by decide +kernel
theorem d_C_leafAt_7 : decode prog_7_method_4_code 7 = .ok (.iload_n 2, 1) := by decide +kernel
theorem d_C_leafAt_8 : decode prog_7_method_4_code 8 = .ok (.iadd, 1) := by decide +kernel
theorem d_C_leafAt_9 : decode prog_7_method_4_code 9 = .ok (.aaload, 1) := by decide +kernel
theorem d_C_leafAt_10 : decode prog_7_method_4_code 10 = .ok (.areturn, 1) := by decide +kernel
def Y_C_leafAt : sdY := ("SettingsDesk$Schema", prog_7_method_4_code, 3, (some (.object "SettingsDesk$Leaf")), .code y_C_leafAt prog_7_method_4_code 3 (some (.object "SettingsDesk$Leaf")) :: sdB0, { frames := 0, cells := 0, slots := 0, locals := 0 }, 0, 0)
section
variable {l : Launch} {D : va_G} {dA : Nat → ClassId} {b n : Nat} {ad : Nat → Nat} {L : Nat → sdL} {sc : Option (Nat × Nat × (Nat → Int32))}
def w_C_leafAt (M : sdM) (a1 : Int32) (a2 : Int32) (Q : Nat → sdM → Prop) : Prop := vp_in ((a1 * (4 : Int32)) + a2) 16 ∧ Q (5 + ((a1 * (4 : Int32)) + a2).toNatClampNeg) M
set_option maxHeartbeats 1000000 in
theorem c_C_leafAt {a1 : Int32} {a2 : Int32} (hA : sd_ad b n ad) (hT : l.stackTraces = false) (hC : isC n L dA) {Q : Nat → sdM → Prop} {M : sdM} (hw : w_C_leafAt M a1 a2 Q) : sd_Cn l (sdE0 sc) y_C_leafAt Y_C_leafAt.2.2.2.2.1 Y_C_leafAt.2.2.2.2.2.1 0 0 D (sd_tys dA) b n ad L M [.ref 1, .int a1, .int a2] (sd_qr (fun t => isF n L t) Q) sd_xf := by
  refine sd_enter (Y := Y_C_leafAt) rfl rfl rfl (Nat.le_of_ble_eq_true rfl) ?_
  show sdW l (sdE0 sc) Y_C_leafAt D (sd_tys dA) b n ad L ad (sd_H D (sdE0 sc).1 n ad L) (sd_qr (fun t => isF n L t) Q) sd_xf 0 [(0, .ref 1), (1, .int a1), (2, .int a2)] [] M 0 0
  unfold w_C_leafAt at hw
  refine x_aload_n 0 0 d_C_leafAt_0 rfl rfl ?_
  refine x_getr 3 3 d_C_leafAt_1 hC.1 hC.2.1 rfl rfl (by decide) lay_C (List.mem_cons_of_mem _ q69) rfl ?_
  refine x_iload_n 1 1 d_C_leafAt_4 rfl rfl ?_
  refine x_iconst (v := 4) d_C_leafAt_5 (by decide) ?_
  refine x_imul d_C_leafAt_6 ?_
  refine x_iload_n 2 2 d_C_leafAt_7 rfl rfl ?_
  refine x_iadd d_C_leafAt_8 ?_
  obtain ⟨hi2, hw⟩ := hw
  refine x_aald (5 + ((a1 * (4 : Int32)) + a2).toNatClampNeg) d_C_leafAt_9 hC.leafTable.1 hC.leafTable.2 (t0 := 3) rfl hi2 rfl ?_
  exact x_aret d_C_leafAt_10 rfl rfl (fun _ h => h) ⟨_, rfl, (hC.leafTableAt hi2), hw⟩
end
theorem q70 : (.fieldLink "SettingsDesk$Schema" 19 "SettingsDesk$Schema" "leaves" "[I" : Cond) ∈ sdB0 := sd_tb1 109 rfl rfl
theorem q71 : (.fieldLink "SettingsDesk$Schema" 48 "SettingsDesk$Leaf" "isReference" "Z" : Cond) ∈ sdB0 := sd_tb1 47 rfl rfl
theorem q72 : (.fieldLink "SettingsDesk$Schema" 51 "SettingsDesk$Leaf" "low" "I" : Cond) ∈ sdB0 := sd_tb1 50 rfl rfl
theorem q73 : (.fieldLink "SettingsDesk$Schema" 54 "SettingsDesk$Leaf" "high" "I" : Cond) ∈ sdB0 := sd_tb1 53 rfl rfl
theorem q74 : (.fieldLink "SettingsDesk$Schema" 57 "SettingsDesk$Leaf" "required" "Z" : Cond) ∈ sdB0 := sd_tb1 55 rfl rfl
theorem q75 : (.fieldLink "SettingsDesk$Schema" 60 "SettingsDesk$Leaf" "unique" "Z" : Cond) ∈ sdB0 := sd_tb1 56 rfl rfl
theorem q76 : (.methodLink "SettingsDesk$Schema" 44 ⟨"SettingsDesk$Schema", "leafAt", "(II)LSettingsDesk$Leaf;"⟩ : Cond) ∈ sdB0 := sd_tb2 199 rfl rfl
theorem q77 : (.code ⟨"SettingsDesk$Schema", "leafAt", "(II)LSettingsDesk$Leaf;"⟩ prog_7_method_4_code 3 (some (.object "SettingsDesk$Leaf")) : Cond) ∈ sdB0 := sd_tb2 202 rfl rfl
theorem q78 : (.instanceMethod ⟨"SettingsDesk$Schema", "leafAt", "(II)LSettingsDesk$Leaf;"⟩ : Cond) ∈ sdB0 := sd_tb2 200 rfl rfl
theorem q79 : (.selects "SettingsDesk$Schema" ⟨"SettingsDesk$Schema", "leafAt", "(II)LSettingsDesk$Leaf;"⟩ ⟨"SettingsDesk$Schema", "leafAt", "(II)LSettingsDesk$Leaf;"⟩ : Cond) ∈ sdB0 := sd_tb2 201 rfl rfl
abbrev y_C_addLeaf : MethodName := ⟨"SettingsDesk$Schema", "addLeaf", "(IIIII)I"⟩
theorem d_C_addLeaf_0 : decode prog_7_method_6_code 0 = .ok (.aload_n 0, 1) := by decide +kernel
theorem d_C_addLeaf_1 : decode prog_7_method_6_code 1 = .ok (.getfield 19, 3) := by decide +kernel
theorem d_C_addLeaf_4 : decode prog_7_method_6_code 4 = .ok (.iload_n 1, 1) := by decide +kernel
theorem d_C_addLeaf_5 : decode prog_7_method_6_code 5 = .ok (.iaload, 1) := by decide +kernel
theorem d_C_addLeaf_6 : decode prog_7_method_6_code 6 = .ok (.istore 6, 2) := by decide +kernel
theorem d_C_addLeaf_8 : decode prog_7_method_6_code 8 = .ok (.aload_n 0, 1) := by decide +kernel
theorem d_C_addLeaf_9 : decode prog_7_method_6_code 9 = .ok (.iload_n 1, 1) := by decide +kernel
theorem d_C_addLeaf_10 : decode prog_7_method_6_code 10 = .ok (.iload 6, 2) := by decide +kernel
theorem d_C_addLeaf_12 : decode prog_7_method_6_code 12 = .ok (.invokevirtual 44, 3) := by decide +kernel
theorem d_C_addLeaf_15 : decode prog_7_method_6_code 15 = .ok (.astore 7, 2) := by decide +kernel
theorem d_C_addLeaf_17 : decode prog_7_method_6_code 17 = .ok (.aload 7, 2) := by decide +kernel
theorem d_C_addLeaf_19 : decode prog_7_method_6_code 19 = .ok (.iload_n 2, 1) := by decide +kernel
theorem d_C_addLeaf_20 : decode prog_7_method_6_code 20 = .ok (.iconst 1, 1) := by decide +kernel
theorem d_C_addLeaf_21 : decode prog_7_method_6_code 21 = .ok (.if_icmp .ne (7), 3) := by decide +kernel
theorem d_C_addLeaf_24 : decode prog_7_method_6_code 24 = .ok (.iconst 1, 1) := by decide +kernel
theorem d_C_addLeaf_25 : decode prog_7_method_6_code 25 = .ok (.goto (4), 3) := by decide +kernel
theorem d_C_addLeaf_28 : decode prog_7_method_6_code 28 = .ok (.iconst 0, 1) := by decide +kernel
theorem d_C_addLeaf_29 : decode prog_7_method_6_code 29 = .ok (.putfield 48, 3) := by decide +kernel
theorem d_C_addLeaf_32 : decode prog_7_method_6_code 32 = .ok (.aload 7, 2) := by decide +kernel
theorem d_C_addLeaf_34 : decode prog_7_method_6_code 34 = .ok (.iload_n 3, 1) := by decide +kernel
theorem d_C_addLeaf_35 : decode prog_7_method_6_code 35 = .ok (.putfield 51, 3) := by decide +kernel
theorem d_C_addLeaf_38 : decode prog_7_method_6_code 38 = .ok (.aload 7, 2) := by decide +kernel
theorem d_C_addLeaf_40 : decode prog_7_method_6_code 40 = .ok (.iload 4, 2) := by decide +kernel
theorem d_C_addLeaf_42 : decode prog_7_method_6_code 42 = .ok (.putfield 54, 3) := by decide +kernel
theorem d_C_addLeaf_45 : decode prog_7_method_6_code 45 = .ok (.aload 7, 2) := by decide +kernel
theorem d_C_addLeaf_47 : decode prog_7_method_6_code 47 = .ok (.iload 5, 2) := by decide +kernel
theorem d_C_addLeaf_49 : decode prog_7_method_6_code 49 = .ok (.iconst 1, 1) := by decide +kernel
theorem d_C_addLeaf_50 : decode prog_7_method_6_code 50 = .ok (.iand, 1) := by decide +kernel
theorem d_C_addLeaf_51 : decode prog_7_method_6_code 51 = .ok (.ifCond .eq (7), 3) := by decide +kernel
theorem d_C_addLeaf_54 : decode prog_7_method_6_code 54 = .ok (.iconst 1, 1) := by decide +kernel
theorem d_C_addLeaf_55 : decode prog_7_method_6_code 55 = .ok (.goto (4), 3) := by decide +kernel
theorem d_C_addLeaf_58 : decode prog_7_method_6_code 58 = .ok (.iconst 0, 1) := by decide +kernel
theorem d_C_addLeaf_59 : decode prog_7_method_6_code 59 = .ok (.putfield 57, 3) := by decide +kernel
theorem d_C_addLeaf_62 : decode prog_7_method_6_code 62 = .ok (.aload 7, 2) := by decide +kernel
theorem d_C_addLeaf_64 : decode prog_7_method_6_code 64 = .ok (.iload 5, 2) := by decide +kernel
theorem d_C_addLeaf_66 : decode prog_7_method_6_code 66 = .ok (.iconst 2, 1) := by decide +kernel
theorem d_C_addLeaf_67 : decode prog_7_method_6_code 67 = .ok (.iand, 1) := by decide +kernel
theorem d_C_addLeaf_68 : decode prog_7_method_6_code 68 = .ok (.ifCond .eq (7), 3) := by decide +kernel
theorem d_C_addLeaf_71 : decode prog_7_method_6_code 71 = .ok (.iconst 1, 1) := by decide +kernel
theorem d_C_addLeaf_72 : decode prog_7_method_6_code 72 = .ok (.goto (4), 3) := by decide +kernel
theorem d_C_addLeaf_75 : decode prog_7_method_6_code 75 = .ok (.iconst 0, 1) := by decide +kernel
theorem d_C_addLeaf_76 : decode prog_7_method_6_code 76 = .ok (.putfield 60, 3) := by decide +kernel
theorem d_C_addLeaf_79 : decode prog_7_method_6_code 79 = .ok (.aload_n 0, 1) := by decide +kernel
theorem d_C_addLeaf_80 : decode prog_7_method_6_code 80 = .ok (.getfield 19, 3) := by decide +kernel
theorem d_C_addLeaf_83 : decode prog_7_method_6_code 83 = .ok (.iload_n 1, 1) := by decide +kernel
theorem d_C_addLeaf_84 : decode prog_7_method_6_code 84 = .ok (.dup2, 1) := by decide +kernel
theorem d_C_addLeaf_85 : decode prog_7_method_6_code 85 = .ok (.iaload, 1) := by decide +kernel
theorem d_C_addLeaf_86 : decode prog_7_method_6_code 86 = .ok (.iconst 1, 1) := by decide +kernel
theorem d_C_addLeaf_87 : decode prog_7_method_6_code 87 = .ok (.iadd, 1) := by decide +kernel
theorem d_C_addLeaf_88 : decode prog_7_method_6_code 88 = .ok (.iastore, 1) := by decide +kernel
theorem d_C_addLeaf_89 : decode prog_7_method_6_code 89 = .ok (.iload 6, 2) := by decide +kernel
theorem d_C_addLeaf_91 : decode prog_7_method_6_code 91 = .ok (.ireturn, 1) := by decide +kernel
def Y_C_addLeaf : sdY := ("SettingsDesk$Schema", prog_7_method_6_code, 8, (some .int), .code y_C_addLeaf prog_7_method_6_code 8 (some .int) :: sdB0, { frames := 1, cells := 0, slots := 0, locals := 22 }, 0, 0)
theorem cw_C_addLeaf_C_leafAt_44 : sd_cwV Y_C_addLeaf Y_C_leafAt y_C_leafAt 44 2 "SettingsDesk$Schema" := ⟨sd_goodV q76 q78 q79 q68 q77, ⟨_, rfl⟩, ⟨rfl, rfl, rfl, rfl⟩, ⟨rfl, by decide, by decide, by decide +kernel⟩, ⟨by decide, by decide⟩⟩
section
variable {l : Launch} {D : va_G} {dA : Nat → ClassId} {b n : Nat} {ad : Nat → Nat} {L : Nat → sdL} {sc : Option (Nat × Nat × (Nat → Int32))}
def k_C_addLeaf_76 (Q : Int32 → sdM → Prop) (M : sdM) (x1 : Int32) (x6 : Int32) (u0 : Nat) (s1 : Int32) : Prop := sdB s1 ∧ ∀ M22 : sdM, M22 = sd_s M u0 4 s1 → vp_in x1 4 ∧ vp_in x1 4 ∧ ∀ M27 : sdM, M27 = sd_s M22 2 x1.toNatClampNeg ((M22 2 x1.toNatClampNeg) + (1 : Int32)) → Q x6 M27
set_option maxHeartbeats 1000000 in
theorem t_C_addLeaf_76 (hA : sd_ad b n ad) (hT : l.stackTraces = false) (hC : isC n L dA) {Q : Int32 → sdM → Prop} (M : sdM) (x1 : Int32) (x6 : Int32) (u0 : Nat) (s1 : Int32) (hu0 : isF n L u0) (hw : k_C_addLeaf_76 Q M x1 x6 u0 s1) : sdW l (sdE0 sc) Y_C_addLeaf D (sd_tys dA) b n ad L ad (sd_H D (sdE0 sc).1 n ad L) (sd_qi Q) sd_xf 76 [(0, .ref 1), (1, .int x1), (6, .int x6)] [.int s1, .ref u0] M 0 0 := by
  unfold k_C_addLeaf_76 at hw
  obtain ⟨hb24, hw⟩ := hw
  refine x_puti 4 (ty := .boolean) hA d_C_addLeaf_76 hu0.1 hu0.2 rfl rfl (by decide) lay_F (List.mem_cons_of_mem _ q75) rfl ty_F ty_F_ok nm_F rfl (by decide +kernel) (sdB_n hb24) (sdB_f hb24) (fun M22 e23 => ?_)
  have hw := hw M22 e23
  clear e23
  refine x_aload_n 0 0 d_C_addLeaf_79 rfl rfl ?_
  refine x_getr 2 2 d_C_addLeaf_80 hC.1 hC.2.1 rfl rfl (by decide) lay_C (List.mem_cons_of_mem _ q70) rfl ?_
  refine x_iload_n 1 1 d_C_addLeaf_83 rfl rfl ?_
  refine x_dup2 d_C_addLeaf_84 rfl rfl ?_
  obtain ⟨hi25, hw⟩ := hw
  refine x_iald d_C_addLeaf_85 hC.leaves.1 hC.leaves.2 rfl hi25 ?_
  refine x_iconst (v := 1) d_C_addLeaf_86 (by decide) ?_
  refine x_iadd d_C_addLeaf_87 ?_
  obtain ⟨hi26, hw⟩ := hw
  refine x_iast hA d_C_addLeaf_88 hC.leaves.1 hC.leaves.2 rfl hi26 (fun M27 e28 => ?_)
  have hw := hw M27 e28
  clear e28
  refine x_iload 6 2 d_C_addLeaf_89 rfl ?_
  exact x_iret d_C_addLeaf_91 rfl (fun _ h => h) ⟨_, rfl, hw⟩
def k_C_addLeaf_59 (Q : Int32 → sdM → Prop) (M : sdM) (x1 : Int32) (x5 : Int32) (x6 : Int32) (o7 : Nat) (u0 : Nat) (s1 : Int32) : Prop := sdB s1 ∧ ∀ M29 : sdM, M29 = sd_s M u0 3 s1 → ((x5 &&& (2 : Int32)) = 0 → k_C_addLeaf_76 Q M29 x1 x6 o7 (0 : Int32)) ∧ (¬ (x5 &&& (2 : Int32)) = 0 → k_C_addLeaf_76 Q M29 x1 x6 o7 (1 : Int32))
set_option maxHeartbeats 1000000 in
theorem t_C_addLeaf_59 (hA : sd_ad b n ad) (hT : l.stackTraces = false) (hC : isC n L dA) {Q : Int32 → sdM → Prop} (M : sdM) (x1 : Int32) (x5 : Int32) (x6 : Int32) (o7 : Nat) (u0 : Nat) (s1 : Int32) (ho7 : isF n L o7) (hu0 : isF n L u0) (hw : k_C_addLeaf_59 Q M x1 x5 x6 o7 u0 s1) : sdW l (sdE0 sc) Y_C_addLeaf D (sd_tys dA) b n ad L ad (sd_H D (sdE0 sc).1 n ad L) (sd_qi Q) sd_xf 59 [(0, .ref 1), (1, .int x1), (5, .int x5), (6, .int x6), (7, .ref o7)] [.int s1, .ref u0] M 0 0 := by
  unfold k_C_addLeaf_59 at hw
  obtain ⟨hb31, hw⟩ := hw
  refine x_puti 3 (ty := .boolean) hA d_C_addLeaf_59 hu0.1 hu0.2 rfl rfl (by decide) lay_F (List.mem_cons_of_mem _ q74) rfl ty_F ty_F_ok nm_F rfl (by decide +kernel) (sdB_n hb31) (sdB_f hb31) (fun M29 e30 => ?_)
  have hw := hw M29 e30
  clear e30
  refine x_aload 7 4 d_C_addLeaf_62 rfl ?_
  refine x_iload 5 2 d_C_addLeaf_64 rfl ?_
  refine x_iconst (v := 2) d_C_addLeaf_66 (by decide) ?_
  refine x_iand d_C_addLeaf_67 ?_
  refine x_if_eq 75 d_C_addLeaf_68 rfl (fun hc => ?_) (fun hc => ?_)
  · have hw := hw.1 hc
    refine x_iconst (v := 0) d_C_addLeaf_75 (by decide) ?_
    refine x_sub [0, 1, 3] [(0, .ref 1), (1, .int x1), (6, .int x6)] rfl ?_
    exact t_C_addLeaf_76 hA hT hC M29 x1 x6 o7 (0 : Int32) ho7 hw
  · have hw := hw.2 hc
    refine x_iconst (v := 1) d_C_addLeaf_71 (by decide) ?_
    refine x_goto 76 d_C_addLeaf_72 rfl ?_
    refine x_sub [0, 1, 3] [(0, .ref 1), (1, .int x1), (6, .int x6)] rfl ?_
    exact t_C_addLeaf_76 hA hT hC M29 x1 x6 o7 (1 : Int32) ho7 hw
def k_C_addLeaf_29 (Q : Int32 → sdM → Prop) (M : sdM) (x1 : Int32) (x3 : Int32) (x4 : Int32) (x5 : Int32) (x6 : Int32) (o7 : Nat) (u0 : Nat) (s1 : Int32) : Prop := sdB s1 ∧ ∀ M32 : sdM, M32 = sd_s M u0 0 s1 → ∀ M35 : sdM, M35 = sd_s M32 o7 1 x3 → ∀ M37 : sdM, M37 = sd_s M35 o7 2 x4 → ((x5 &&& (1 : Int32)) = 0 → k_C_addLeaf_59 Q M37 x1 x5 x6 o7 o7 (0 : Int32)) ∧ (¬ (x5 &&& (1 : Int32)) = 0 → k_C_addLeaf_59 Q M37 x1 x5 x6 o7 o7 (1 : Int32))
set_option maxHeartbeats 1000000 in
theorem t_C_addLeaf_29 (hA : sd_ad b n ad) (hT : l.stackTraces = false) (hC : isC n L dA) {Q : Int32 → sdM → Prop} (M : sdM) (x1 : Int32) (x3 : Int32) (x4 : Int32) (x5 : Int32) (x6 : Int32) (o7 : Nat) (u0 : Nat) (s1 : Int32) (ho7 : isF n L o7) (hu0 : isF n L u0) (hw : k_C_addLeaf_29 Q M x1 x3 x4 x5 x6 o7 u0 s1) : sdW l (sdE0 sc) Y_C_addLeaf D (sd_tys dA) b n ad L ad (sd_H D (sdE0 sc).1 n ad L) (sd_qi Q) sd_xf 29 [(0, .ref 1), (1, .int x1), (3, .int x3), (4, .int x4), (5, .int x5), (6, .int x6), (7, .ref o7)] [.int s1, .ref u0] M 0 0 := by
  unfold k_C_addLeaf_29 at hw
  obtain ⟨hb34, hw⟩ := hw
  refine x_puti 0 (ty := .boolean) hA d_C_addLeaf_29 hu0.1 hu0.2 rfl rfl (by decide) lay_F (List.mem_cons_of_mem _ q71) rfl ty_F ty_F_ok nm_F rfl (by decide +kernel) (sdB_n hb34) (sdB_f hb34) (fun M32 e33 => ?_)
  have hw := hw M32 e33
  clear e33
  refine x_aload 7 6 d_C_addLeaf_32 rfl ?_
  refine x_iload_n 3 2 d_C_addLeaf_34 rfl rfl ?_
  refine x_puti 1 (ty := .int) hA d_C_addLeaf_35 ho7.1 ho7.2 rfl rfl (by decide) lay_F (List.mem_cons_of_mem _ q72) rfl ty_F ty_F_ok nm_F rfl (by decide +kernel) rfl rfl (fun M35 e36 => ?_)
  have hw := hw M35 e36
  clear e36
  refine x_aload 7 6 d_C_addLeaf_38 rfl ?_
  refine x_iload 4 3 d_C_addLeaf_40 rfl ?_
  refine x_puti 2 (ty := .int) hA d_C_addLeaf_42 ho7.1 ho7.2 rfl rfl (by decide) lay_F (List.mem_cons_of_mem _ q73) rfl ty_F ty_F_ok nm_F rfl (by decide +kernel) rfl rfl (fun M37 e38 => ?_)
  have hw := hw M37 e38
  clear e38
  refine x_aload 7 6 d_C_addLeaf_45 rfl ?_
  refine x_iload 5 4 d_C_addLeaf_47 rfl ?_
  refine x_iconst (v := 1) d_C_addLeaf_49 (by decide) ?_
  refine x_iand d_C_addLeaf_50 ?_
  refine x_if_eq 58 d_C_addLeaf_51 rfl (fun hc => ?_) (fun hc => ?_)
  · have hw := hw.1 hc
    refine x_iconst (v := 0) d_C_addLeaf_58 (by decide) ?_
    refine x_sub [0, 1, 4, 5, 6] [(0, .ref 1), (1, .int x1), (5, .int x5), (6, .int x6), (7, .ref o7)] rfl ?_
    exact t_C_addLeaf_59 hA hT hC M37 x1 x5 x6 o7 o7 (0 : Int32) ho7 ho7 hw
  · have hw := hw.2 hc
    refine x_iconst (v := 1) d_C_addLeaf_54 (by decide) ?_
    refine x_goto 59 d_C_addLeaf_55 rfl ?_
    refine x_sub [0, 1, 4, 5, 6] [(0, .ref 1), (1, .int x1), (5, .int x5), (6, .int x6), (7, .ref o7)] rfl ?_
    exact t_C_addLeaf_59 hA hT hC M37 x1 x5 x6 o7 o7 (1 : Int32) ho7 ho7 hw
def w_C_addLeaf (M : sdM) (a1 : Int32) (a2 : Int32) (a3 : Int32) (a4 : Int32) (a5 : Int32) (Q : Int32 → sdM → Prop) : Prop := vp_in a1 4 ∧ w_C_leafAt M a1 (M 2 a1.toNatClampNeg) (fun t41 M40 => (¬ a2 = (1 : Int32) → k_C_addLeaf_29 Q M40 a1 a3 a4 a5 (M 2 a1.toNatClampNeg) t41 t41 (0 : Int32)) ∧ (a2 = (1 : Int32) → k_C_addLeaf_29 Q M40 a1 a3 a4 a5 (M 2 a1.toNatClampNeg) t41 t41 (1 : Int32)))
set_option maxHeartbeats 1000000 in
theorem c_C_addLeaf {a1 : Int32} {a2 : Int32} {a3 : Int32} {a4 : Int32} {a5 : Int32} (hA : sd_ad b n ad) (hT : l.stackTraces = false) (hC : isC n L dA) {Q : Int32 → sdM → Prop} {M : sdM} (hw : w_C_addLeaf M a1 a2 a3 a4 a5 Q) : sd_Cn l (sdE0 sc) y_C_addLeaf Y_C_addLeaf.2.2.2.2.1 Y_C_addLeaf.2.2.2.2.2.1 0 0 D (sd_tys dA) b n ad L M [.ref 1, .int a1, .int a2, .int a3, .int a4, .int a5] (sd_qi Q) sd_xf := by
  refine sd_enter (Y := Y_C_addLeaf) rfl rfl rfl (Nat.le_of_ble_eq_true rfl) ?_
  show sdW l (sdE0 sc) Y_C_addLeaf D (sd_tys dA) b n ad L ad (sd_H D (sdE0 sc).1 n ad L) (sd_qi Q) sd_xf 0 [(0, .ref 1), (1, .int a1), (2, .int a2), (3, .int a3), (4, .int a4), (5, .int a5)] [] M 0 0
  unfold w_C_addLeaf at hw
  refine x_aload_n 0 0 d_C_addLeaf_0 rfl rfl ?_
  refine x_getr 2 2 d_C_addLeaf_1 hC.1 hC.2.1 rfl rfl (by decide) lay_C (List.mem_cons_of_mem _ q70) rfl ?_
  refine x_iload_n 1 1 d_C_addLeaf_4 rfl rfl ?_
  obtain ⟨hi39, hw⟩ := hw
  refine x_iald d_C_addLeaf_5 hC.leaves.1 hC.leaves.2 rfl hi39 ?_
  refine x_istore 6 [(6, .int (M 2 a1.toNatClampNeg)), (0, .ref 1), (1, .int a1), (2, .int a2), (3, .int a3), (4, .int a4), (5, .int a5)] d_C_addLeaf_6 (by decide) rfl ?_
  refine x_aload_n 0 1 d_C_addLeaf_8 rfl rfl ?_
  refine x_iload_n 1 2 d_C_addLeaf_9 rfl rfl ?_
  refine x_iload 6 0 d_C_addLeaf_10 rfl ?_
  refine x_callVr (As := [.int a1, .int (M 2 a1.toNatClampNeg)]) (t := 1) (rest := []) (rc := 0) (rs := 0) (c_C_leafAt hA hT hC hw) cw_C_addLeaf_C_leafAt_44 hC.1 hC.2.1 rfl d_C_addLeaf_12 rfl rfl (Nat.le_of_ble_eq_true rfl) (fun _ _ h => h.elim) (fun _ _ h => h) (fun t41 M40 ht42 hw => ?_)
  refine x_astore 7 [(7, .ref t41), (6, .int (M 2 a1.toNatClampNeg)), (0, .ref 1), (1, .int a1), (2, .int a2), (3, .int a3), (4, .int a4), (5, .int a5)] d_C_addLeaf_15 (by decide) rfl ?_
  refine x_aload 7 0 d_C_addLeaf_17 rfl ?_
  refine x_iload_n 2 4 d_C_addLeaf_19 rfl rfl ?_
  refine x_iconst (v := 1) d_C_addLeaf_20 (by decide) ?_
  refine x_icmp_ne 28 d_C_addLeaf_21 rfl (fun hc => ?_) (fun hc => ?_)
  · have hw := hw.1 hc
    refine x_iconst (v := 0) d_C_addLeaf_28 (by decide) ?_
    refine x_sub [2, 3, 5, 6, 7, 1, 0] [(0, .ref 1), (1, .int a1), (3, .int a3), (4, .int a4), (5, .int a5), (6, .int (M 2 a1.toNatClampNeg)), (7, .ref t41)] rfl ?_
    exact t_C_addLeaf_29 hA hT hC M40 a1 a3 a4 a5 (M 2 a1.toNatClampNeg) t41 t41 (0 : Int32) ht42 ht42 hw
  · have hw := hw.2 hc
    refine x_iconst (v := 1) d_C_addLeaf_24 (by decide) ?_
    refine x_goto 29 d_C_addLeaf_25 rfl ?_
    refine x_sub [2, 3, 5, 6, 7, 1, 0] [(0, .ref 1), (1, .int a1), (3, .int a3), (4, .int a4), (5, .int a5), (6, .int (M 2 a1.toNatClampNeg)), (7, .ref t41)] rfl ?_
    exact t_C_addLeaf_29 hA hT hC M40 a1 a3 a4 a5 (M 2 a1.toNatClampNeg) t41 t41 (1 : Int32) ht42 ht42 hw
end
abbrev y_C_hasLeaf : MethodName := ⟨"SettingsDesk$Schema", "hasLeaf", "(II)Z"⟩
theorem d_C_hasLeaf_0 : decode prog_7_method_3_code 0 = .ok (.aload_n 0, 1) := by decide +kernel
theorem d_C_hasLeaf_1 : decode prog_7_method_3_code 1 = .ok (.iload_n 1, 1) := by decide +kernel
theorem d_C_hasLeaf_2 : decode prog_7_method_3_code 2 = .ok (.invokevirtual 40, 3) := by decide +kernel
theorem d_C_hasLeaf_5 : decode prog_7_method_3_code 5 = .ok (.ifCond .eq (21), 3) := by decide +kernel
theorem d_C_hasLeaf_8 : decode prog_7_method_3_code 8 = .ok (.iload_n 2, 1) := by decide +kernel
theorem d_C_hasLeaf_9 : decode prog_7_method_3_code 9 = .ok (.ifCond .lt (17), 3) := by decide +kernel
theorem d_C_hasLeaf_12 : decode prog_7_method_3_code 12 = .ok (.iload_n 2, 1) := by decide +kernel
theorem d_C_hasLeaf_13 : decode prog_7_method_3_code 13 = .ok (.aload_n 0, 1) := by decide +kernel
theorem d_C_hasLeaf_14 : decode prog_7_method_3_code 14 = .ok (.getfield 19, 3) := by decide +kernel
theorem d_C_hasLeaf_17 : decode prog_7_method_3_code 17 = .ok (.iload_n 1, 1) := by decide +kernel
theorem d_C_hasLeaf_18 : decode prog_7_method_3_code 18 = .ok (.iaload, 1) := by decide +kernel
theorem d_C_hasLeaf_19 : decode prog_7_method_3_code 19 = .ok (.if_icmp .ge (7), 3) := by decide +kernel
theorem d_C_hasLeaf_22 : decode prog_7_method_3_code 22 = .ok (.iconst 1, 1) := by decide +kernel
theorem d_C_hasLeaf_23 : decode prog_7_method_3_code 23 = .ok (.goto (4), 3) := by decide +kernel
theorem d_C_hasLeaf_26 : decode prog_7_method_3_code 26 = .ok (.iconst 0, 1) := by decide +kernel
theorem d_C_hasLeaf_27 : decode prog_7_method_3_code 27 = .ok (.ireturn, 1) := by decide +kernel
def Y_C_hasLeaf : sdY := ("SettingsDesk$Schema", prog_7_method_3_code, 3, (some .boolean), .code y_C_hasLeaf prog_7_method_3_code 3 (some .boolean) :: sdB0, { frames := 1, cells := 0, slots := 0, locals := 21 }, 0, 0)
theorem cw_C_hasLeaf_C_hasList_40 : sd_cwV Y_C_hasLeaf Y_C_hasList y_C_hasList 40 1 "SettingsDesk$Schema" := ⟨sd_goodV q64 q66 q67 q68 q65, ⟨_, rfl⟩, ⟨rfl, rfl, rfl, rfl⟩, ⟨rfl, by decide, by decide, by decide +kernel⟩, ⟨by decide, by decide⟩⟩
section
variable {l : Launch} {D : va_G} {dA : Nat → ClassId} {b n : Nat} {ad : Nat → Nat} {L : Nat → sdL} {sc : Option (Nat × Nat × (Nat → Int32))}
def k_C_hasLeaf_27 (Q : Int32 → sdM → Prop) (M : sdM) (s0 : Int32) : Prop := sdB s0 ∧ Q s0 M
set_option maxHeartbeats 1000000 in
theorem t_C_hasLeaf_27 (hA : sd_ad b n ad) (hT : l.stackTraces = false) (hC : isC n L dA) {Q : Int32 → sdM → Prop} (M : sdM) (s0 : Int32) (hw : k_C_hasLeaf_27 Q M s0) : sdW l (sdE0 sc) Y_C_hasLeaf D (sd_tys dA) b n ad L ad (sd_H D (sdE0 sc).1 n ad L) (sd_qi Q) sd_xf 27 [] [.int s0] M 0 0 := by
  unfold k_C_hasLeaf_27 at hw
  exact x_zret d_C_hasLeaf_27 rfl (sdB_n hw.1) (fun _ h => h) ⟨_, rfl, hw.2⟩
def k_C_hasLeaf_26 (Q : Int32 → sdM → Prop) (M : sdM) : Prop := k_C_hasLeaf_27 Q M (0 : Int32)
set_option maxHeartbeats 1000000 in
theorem t_C_hasLeaf_26 (hA : sd_ad b n ad) (hT : l.stackTraces = false) (hC : isC n L dA) {Q : Int32 → sdM → Prop} (M : sdM) (hw : k_C_hasLeaf_26 Q M ) : sdW l (sdE0 sc) Y_C_hasLeaf D (sd_tys dA) b n ad L ad (sd_H D (sdE0 sc).1 n ad L) (sd_qi Q) sd_xf 26 [] [] M 0 0 := by
  unfold k_C_hasLeaf_26 at hw
  refine x_iconst (v := 0) d_C_hasLeaf_26 (by decide) ?_
  exact t_C_hasLeaf_27 hA hT hC M (0 : Int32) hw
def w_C_hasLeaf (M : sdM) (a1 : Int32) (a2 : Int32) (Q : Int32 → sdM → Prop) : Prop := w_C_hasList M a1 (fun r5 M4 => (r5 = 0 → k_C_hasLeaf_26 Q M4) ∧ (¬ r5 = 0 → (a2 < 0 → k_C_hasLeaf_26 Q M4) ∧ (¬ a2 < 0 → vp_in a1 4 ∧ ((M4 2 a1.toNatClampNeg) ≤ a2 → k_C_hasLeaf_26 Q M4) ∧ (¬ (M4 2 a1.toNatClampNeg) ≤ a2 → k_C_hasLeaf_27 Q M4 (1 : Int32)))))
set_option maxHeartbeats 1000000 in
theorem c_C_hasLeaf {a1 : Int32} {a2 : Int32} (hA : sd_ad b n ad) (hT : l.stackTraces = false) (hC : isC n L dA) {Q : Int32 → sdM → Prop} {M : sdM} (hw : w_C_hasLeaf M a1 a2 Q) : sd_Cn l (sdE0 sc) y_C_hasLeaf Y_C_hasLeaf.2.2.2.2.1 Y_C_hasLeaf.2.2.2.2.2.1 0 0 D (sd_tys dA) b n ad L M [.ref 1, .int a1, .int a2] (sd_qi Q) sd_xf := by
  refine sd_enter (Y := Y_C_hasLeaf) rfl rfl rfl (Nat.le_of_ble_eq_true rfl) ?_
  show sdW l (sdE0 sc) Y_C_hasLeaf D (sd_tys dA) b n ad L ad (sd_H D (sdE0 sc).1 n ad L) (sd_qi Q) sd_xf 0 [(0, .ref 1), (1, .int a1), (2, .int a2)] [] M 0 0
  unfold w_C_hasLeaf at hw
  refine x_aload_n 0 0 d_C_hasLeaf_0 rfl rfl ?_
  refine x_iload_n 1 1 d_C_hasLeaf_1 rfl rfl ?_
  refine x_callVi (As := [.int a1]) (t := 1) (rest := []) (rc := 0) (rs := 0) (c_C_hasList hA hT hC hw) cw_C_hasLeaf_C_hasList_40 hC.1 hC.2.1 rfl d_C_hasLeaf_2 rfl rfl (Nat.le_of_ble_eq_true rfl) (fun _ _ h => h.elim) (fun _ _ h => h) (fun r5 M4 hw => ?_)
  refine x_if_eq 26 d_C_hasLeaf_5 rfl (fun hc => ?_) (fun hc => ?_)
  · have hw := hw.1 hc
    refine x_sub [] [] rfl ?_
    exact t_C_hasLeaf_26 hA hT hC M4 hw
  · have hw := hw.2 hc
    refine x_iload_n 2 2 d_C_hasLeaf_8 rfl rfl ?_
    refine x_if_lt 26 d_C_hasLeaf_9 rfl (fun hc => ?_) (fun hc => ?_)
    · have hw := hw.1 hc
      refine x_sub [] [] rfl ?_
      exact t_C_hasLeaf_26 hA hT hC M4 hw
    · have hw := hw.2 hc
      refine x_iload_n 2 2 d_C_hasLeaf_12 rfl rfl ?_
      refine x_aload_n 0 0 d_C_hasLeaf_13 rfl rfl ?_
      refine x_getr 2 2 d_C_hasLeaf_14 hC.1 hC.2.1 rfl rfl (by decide) lay_C (List.mem_cons_of_mem _ q70) rfl ?_
      refine x_iload_n 1 1 d_C_hasLeaf_17 rfl rfl ?_
      obtain ⟨hi6, hw⟩ := hw
      refine x_iald d_C_hasLeaf_18 hC.leaves.1 hC.leaves.2 rfl hi6 ?_
      refine x_icmp_ge 26 d_C_hasLeaf_19 rfl (fun hc => ?_) (fun hc => ?_)
      · have hw := hw.1 hc
        refine x_sub [] [] rfl ?_
        exact t_C_hasLeaf_26 hA hT hC M4 hw
      · have hw := hw.2 hc
        refine x_iconst (v := 1) d_C_hasLeaf_22 (by decide) ?_
        refine x_goto 27 d_C_hasLeaf_23 rfl ?_
        refine x_sub [] [] rfl ?_
        exact t_C_hasLeaf_27 hA hT hC M4 (1 : Int32) hw
end
theorem q80 : (.fieldLink "SettingsDesk$Leaf" 9 "SettingsDesk$Leaf" "isReference" "Z" : Cond) ∈ sdB0 := sd_tb1 45 rfl rfl
theorem q81 : (.fieldLink "SettingsDesk$Leaf" 15 "SettingsDesk$Leaf" "low" "I" : Cond) ∈ sdB0 := sd_tb1 49 rfl rfl
theorem q82 : (.fieldLink "SettingsDesk$Leaf" 19 "SettingsDesk$Leaf" "high" "I" : Cond) ∈ sdB0 := sd_tb1 52 rfl rfl
abbrev y_F_takes : MethodName := ⟨"SettingsDesk$Leaf", "takes", "(I)Z"⟩
theorem d_F_takes_0 : decode prog_4_method_2_code 0 = .ok (.aload_n 0, 1) := by decide +kernel
theorem d_F_takes_1 : decode prog_4_method_2_code 1 = .ok (.getfield 9, 3) := by decide +kernel
theorem d_F_takes_4 : decode prog_4_method_2_code 4 = .ok (.ifCond .eq (22), 3) := by decide +kernel
theorem d_F_takes_7 : decode prog_4_method_2_code 7 = .ok (.iload_n 1, 1) := by decide +kernel
theorem d_F_takes_8 : decode prog_4_method_2_code 8 = .ok (.iconst 1, 1) := by decide +kernel
theorem d_F_takes_9 : decode prog_4_method_2_code 9 = .ok (.if_icmp .lt (13), 3) := by decide +kernel
theorem d_F_takes_12 : decode prog_4_method_2_code 12 = .ok (.iload_n 1, 1) := by decide +kernel
theorem d_F_takes_13 : decode prog_4_method_2_code 13 = .ok (.bipush (100), 2) := by decide +kernel
theorem d_F_takes_15 : decode prog_4_method_2_code 15 = .ok (.if_icmp .gt (7), 3) := by decide +kernel
theorem d_F_takes_18 : decode prog_4_method_2_code 18 = .ok (.iconst 1, 1) := by decide +kernel
theorem d_F_takes_19 : decode prog_4_method_2_code 19 = .ok (.goto (28), 3) := by decide +kernel
theorem d_F_takes_22 : decode prog_4_method_2_code 22 = .ok (.iconst 0, 1) := by decide +kernel
theorem d_F_takes_23 : decode prog_4_method_2_code 23 = .ok (.goto (24), 3) := by decide +kernel
theorem d_F_takes_26 : decode prog_4_method_2_code 26 = .ok (.iload_n 1, 1) := by decide +kernel
theorem d_F_takes_27 : decode prog_4_method_2_code 27 = .ok (.aload_n 0, 1) := by decide +kernel
theorem d_F_takes_28 : decode prog_4_method_2_code 28 = .ok (.getfield 15, 3) := by decide +kernel
theorem d_F_takes_31 : decode prog_4_method_2_code 31 = .ok (.if_icmp .lt (15), 3) := by decide +kernel
theorem d_F_takes_34 : decode prog_4_method_2_code 34 = .ok (.iload_n 1, 1) := by decide +kernel
theorem d_F_takes_35 : decode prog_4_method_2_code 35 = .ok (.aload_n 0, 1) := by decide +kernel
theorem d_F_takes_36 : decode prog_4_method_2_code 36 = .ok (.getfield 19, 3) := by decide +kernel
theorem d_F_takes_39 : decode prog_4_method_2_code 39 = .ok (.if_icmp .gt (7), 3) := by decide +kernel
theorem d_F_takes_42 : decode prog_4_method_2_code 42 = .ok (.iconst 1, 1) := by decide +kernel
theorem d_F_takes_43 : decode prog_4_method_2_code 43 = .ok (.goto (4), 3) := by decide +kernel
theorem d_F_takes_46 : decode prog_4_method_2_code 46 = .ok (.iconst 0, 1) := by decide +kernel
theorem d_F_takes_47 : decode prog_4_method_2_code 47 = .ok (.ireturn, 1) := by decide +kernel
def Y_F_takes : sdY := ("SettingsDesk$Leaf", prog_4_method_2_code, 2, (some .boolean), .code y_F_takes prog_4_method_2_code 2 (some .boolean) :: sdB0, { frames := 0, cells := 0, slots := 0, locals := 0 }, 0, 0)
section
variable {l : Launch} {D : va_G} {dA : Nat → ClassId} {b n : Nat} {ad : Nat → Nat} {L : Nat → sdL} {sc : Option (Nat × Nat × (Nat → Int32))}
def k_F_takes_47 (o : Nat) (Q : Int32 → sdM → Prop) (M : sdM) (s0 : Int32) : Prop := sdB s0 ∧ Q s0 M
set_option maxHeartbeats 1000000 in
theorem t_F_takes_47 {o : Nat} (hA : sd_ad b n ad) (hT : l.stackTraces = false) (ho : isF n L o) {Q : Int32 → sdM → Prop} (M : sdM) (s0 : Int32) (hw : k_F_takes_47 o Q M s0) : sdW l (sdE0 sc) Y_F_takes D (sd_tys dA) b n ad L ad (sd_H D (sdE0 sc).1 n ad L) (sd_qi Q) sd_xf 47 [] [.int s0] M 0 0 := by
  unfold k_F_takes_47 at hw
  exact x_zret d_F_takes_47 rfl (sdB_n hw.1) (fun _ h => h) ⟨_, rfl, hw.2⟩
def k_F_takes_46 (o : Nat) (Q : Int32 → sdM → Prop) (M : sdM) : Prop := k_F_takes_47 o Q M (0 : Int32)
set_option maxHeartbeats 1000000 in
theorem t_F_takes_46 {o : Nat} (hA : sd_ad b n ad) (hT : l.stackTraces = false) (ho : isF n L o) {Q : Int32 → sdM → Prop} (M : sdM) (hw : k_F_takes_46 o Q M ) : sdW l (sdE0 sc) Y_F_takes D (sd_tys dA) b n ad L ad (sd_H D (sdE0 sc).1 n ad L) (sd_qi Q) sd_xf 46 [] [] M 0 0 := by
  unfold k_F_takes_46 at hw
  refine x_iconst (v := 0) d_F_takes_46 (by decide) ?_
  exact t_F_takes_47 hA hT ho M (0 : Int32) hw
def k_F_takes_22 (o : Nat) (Q : Int32 → sdM → Prop) (M : sdM) : Prop := k_F_takes_47 o Q M (0 : Int32)
set_option maxHeartbeats 1000000 in
theorem t_F_takes_22 {o : Nat} (hA : sd_ad b n ad) (hT : l.stackTraces = false) (ho : isF n L o) {Q : Int32 → sdM → Prop} (M : sdM) (hw : k_F_takes_22 o Q M ) : sdW l (sdE0 sc) Y_F_takes D (sd_tys dA) b n ad L ad (sd_H D (sdE0 sc).1 n ad L) (sd_qi Q) sd_xf 22 [] [] M 0 0 := by
  unfold k_F_takes_22 at hw
  refine x_iconst (v := 0) d_F_takes_22 (by decide) ?_
  refine x_goto 47 d_F_takes_23 rfl ?_
  exact t_F_takes_47 hA hT ho M (0 : Int32) hw
def w_F_takes (o : Nat) (M : sdM) (a1 : Int32) (Q : Int32 → sdM → Prop) : Prop := ((M o 0) = 0 → (a1 < (M o 1) → k_F_takes_46 o Q M) ∧ (¬ a1 < (M o 1) → ((M o 2) < a1 → k_F_takes_46 o Q M) ∧ (¬ (M o 2) < a1 → k_F_takes_47 o Q M (1 : Int32)))) ∧ (¬ (M o 0) = 0 → (a1 < (1 : Int32) → k_F_takes_22 o Q M) ∧ (¬ a1 < (1 : Int32) → ((100 : Int32) < a1 → k_F_takes_22 o Q M) ∧ (¬ (100 : Int32) < a1 → k_F_takes_47 o Q M (1 : Int32))))
set_option maxHeartbeats 1000000 in
theorem c_F_takes {a1 : Int32} {o : Nat} (hA : sd_ad b n ad) (hT : l.stackTraces = false) (ho : isF n L o) {Q : Int32 → sdM → Prop} {M : sdM} (hw : w_F_takes o M a1 Q) : sd_Cn l (sdE0 sc) y_F_takes Y_F_takes.2.2.2.2.1 Y_F_takes.2.2.2.2.2.1 0 0 D (sd_tys dA) b n ad L M [.ref o, .int a1] (sd_qi Q) sd_xf := by
  refine sd_enter (Y := Y_F_takes) rfl rfl rfl (Nat.le_of_ble_eq_true rfl) ?_
  show sdW l (sdE0 sc) Y_F_takes D (sd_tys dA) b n ad L ad (sd_H D (sdE0 sc).1 n ad L) (sd_qi Q) sd_xf 0 [(0, .ref o), (1, .int a1)] [] M 0 0
  unfold w_F_takes at hw
  refine x_aload_n 0 0 d_F_takes_0 rfl rfl ?_
  refine x_geti 0 d_F_takes_1 ho.1 ho.2 rfl rfl (by decide) lay_F (List.mem_cons_of_mem _ q80) rfl ?_
  refine x_if_eq 26 d_F_takes_4 rfl (fun hc => ?_) (fun hc => ?_)
  · have hw := hw.1 hc
    refine x_iload_n 1 1 d_F_takes_26 rfl rfl ?_
    refine x_aload_n 0 0 d_F_takes_27 rfl rfl ?_
    refine x_geti 1 d_F_takes_28 ho.1 ho.2 rfl rfl (by decide) lay_F (List.mem_cons_of_mem _ q81) rfl ?_
    refine x_icmp_lt 46 d_F_takes_31 rfl (fun hc => ?_) (fun hc => ?_)
    · have hw := hw.1 hc
      refine x_sub [] [] rfl ?_
      exact t_F_takes_46 hA hT ho M hw
    · have hw := hw.2 hc
      refine x_iload_n 1 1 d_F_takes_34 rfl rfl ?_
      refine x_aload_n 0 0 d_F_takes_35 rfl rfl ?_
      refine x_geti 2 d_F_takes_36 ho.1 ho.2 rfl rfl (by decide) lay_F (List.mem_cons_of_mem _ q82) rfl ?_
      refine x_icmp_gt 46 d_F_takes_39 rfl (fun hc => ?_) (fun hc => ?_)
      · have hw := hw.1 hc
        refine x_sub [] [] rfl ?_
        exact t_F_takes_46 hA hT ho M hw
      · have hw := hw.2 hc
        refine x_iconst (v := 1) d_F_takes_42 (by decide) ?_
        refine x_goto 47 d_F_takes_43 rfl ?_
        refine x_sub [] [] rfl ?_
        exact t_F_takes_47 hA hT ho M (1 : Int32) hw
  · have hw := hw.2 hc
    refine x_iload_n 1 1 d_F_takes_7 rfl rfl ?_
    refine x_iconst (v := 1) d_F_takes_8 (by decide) ?_
    refine x_icmp_lt 22 d_F_takes_9 rfl (fun hc => ?_) (fun hc => ?_)
    · have hw := hw.1 hc
      refine x_sub [] [] rfl ?_
      exact t_F_takes_22 hA hT ho M hw
    · have hw := hw.2 hc
      refine x_iload_n 1 1 d_F_takes_12 rfl rfl ?_
      refine x_bipush (v := 100) d_F_takes_13 (by decide) ?_
      refine x_icmp_gt 22 d_F_takes_15 rfl (fun hc => ?_) (fun hc => ?_)
      · have hw := hw.1 hc
        refine x_sub [] [] rfl ?_
        exact t_F_takes_22 hA hT ho M hw
      · have hw := hw.2 hc
        refine x_iconst (v := 1) d_F_takes_18 (by decide) ?_
        refine x_goto 47 d_F_takes_19 rfl ?_
        refine x_sub [] [] rfl ?_
        exact t_F_takes_47 hA hT ho M (1 : Int32) hw
end
theorem q83 : (.fieldLink "SettingsDesk$Schema" 34 "SettingsDesk$Schema" "rules" "[LSettingsDesk$Rule;" : Cond) ∈ sdB0 := sd_tb1 116 rfl rfl
theorem q84 : (.fieldLink "SettingsDesk$Schema" 29 "SettingsDesk$Schema" "ruleCount" "I" : Cond) ∈ sdB0 := sd_tb1 113 rfl rfl
theorem q85 : (.fieldLink "SettingsDesk$Schema" 63 "SettingsDesk$Rule" "ofList" "I" : Cond) ∈ sdB0 := sd_tb1 83 rfl rfl
theorem q86 : (.fieldLink "SettingsDesk$Schema" 66 "SettingsDesk$Rule" "a" "I" : Cond) ∈ sdB0 := sd_tb1 85 rfl rfl
theorem q87 : (.fieldLink "SettingsDesk$Schema" 69 "SettingsDesk$Rule" "value" "I" : Cond) ∈ sdB0 := sd_tb1 87 rfl rfl
theorem q88 : (.fieldLink "SettingsDesk$Schema" 72 "SettingsDesk$Rule" "b" "I" : Cond) ∈ sdB0 := sd_tb1 89 rfl rfl
theorem q89 : (.fieldLink "SettingsDesk$Schema" 75 "SettingsDesk$Rule" "there" "Z" : Cond) ∈ sdB0 := sd_tb1 91 rfl rfl
abbrev y_C_addRule : MethodName := ⟨"SettingsDesk$Schema", "addRule", "(IIIIZ)I"⟩
theorem d_C_addRule_0 : decode prog_7_method_7_code 0 = .ok (.aload_n 0, 1) := by decide +kernel
theorem d_C_addRule_1 : decode prog_7_method_7_code 1 = .ok (.getfield 34, 3) := by decide +kernel
theorem d_C_addRule_4 : decode prog_7_method_7_code 4 = .ok (.aload_n 0, 1) := by decide +kernel
theorem d_C_addRule_5 : decode prog_7_method_7_code 5 = .ok (.getfield 29, 3) := by decide +kernel
theorem d_C_addRule_8 : decode prog_7_method_7_code 8 = .ok (.aaload, 1) := by decide +kernel
theorem d_C_addRule_9 : decode prog_7_method_7_code 9 = .ok (.astore 6, 2) := by decide +kernel
theorem d_C_addRule_11 : decode prog_7_method_7_code 11 = .ok (.aload 6, 2) := by decide +kernel
theorem d_C_addRule_13 : decode prog_7_method_7_code 13 = .ok (.iload_n 1, 1) := by decide +kernel
theorem d_C_addRule_14 : decode prog_7_method_7_code 14 = .ok (.putfield 63, 3) := by decide +kernel
theorem d_C_addRule_17 : decode prog_7_method_7_code 17 = .ok (.aload 6, 2) := by decide +kernel
theorem d_C_addRule_19 : decode prog_7_method_7_code 19 = .ok (.iload_n 2, 1) := by decide +kernel
theorem d_C_addRule_20 : decode prog_7_method_7_code 20 = .ok (.putfield 66, 3) := by decide +kernel
theorem d_C_addRule_23 : decode prog_7_method_7_code 23 = .ok (.aload 6, 2) := by decide +kernel
theorem d_C_addRule_25 : decode prog_7_method_7_code 25 = .ok (.iload_n 3, 1) := by decide +kernel
theorem d_C_addRule_26 : decode prog_7_method_7_code 26 = .ok (.putfield 69, 3) := by decide +kernel
theorem d_C_addRule_29 : decode prog_7_method_7_code 29 = .ok (.aload 6, 2) := by decide +kernel
theorem d_C_addRule_31 : decode prog_7_method_7_code 31 = .ok (.iload 4, 2) := by decide +kernel
theorem d_C_addRule_33 : decode prog_7_method_7_code 33 = .ok (.putfield 72, 3) := by decide +kernel
theorem d_C_addRule_36 : decode prog_7_method_7_code 36 = .ok (.aload 6, 2) := by decide +kernel
theorem d_C_addRule_38 : decode prog_7_method_7_code 38 = .ok (.iload 5, 2) := by decide +kernel
theorem d_C_addRule_40 : decode prog_7_method_7_code 40 = .ok (.putfield 75, 3) := by decide +kernel
theorem d_C_addRule_43 : decode prog_7_method_7_code 43 = .ok (.aload_n 0, 1) := by decide +kernel
theorem d_C_addRule_44 : decode prog_7_method_7_code 44 = .ok (.dup, 1) := by decide +kernel
theorem d_C_addRule_45 : decode prog_7_method_7_code 45 = .ok (.getfield 29, 3) := by decide +kernel
theorem d_C_addRule_48 : decode prog_7_method_7_code 48 = .ok (.iconst 1, 1) := by decide +kernel
theorem d_C_addRule_49 : decode prog_7_method_7_code 49 = .ok (.iadd, 1) := by decide +kernel
theorem d_C_addRule_50 : decode prog_7_method_7_code 50 = .ok (.putfield 29, 3) := by decide +kernel
theorem d_C_addRule_53 : decode prog_7_method_7_code 53 = .ok (.aload_n 0, 1) := by decide +kernel
theorem d_C_addRule_54 : decode prog_7_method_7_code 54 = .ok (.getfield 29, 3) := by decide +kernel
theorem d_C_addRule_57 : decode prog_7_method_7_code 57 = .ok (.iconst 1, 1) := by decide +kernel
theorem d_C_addRule_58 : decode prog_7_method_7_code 58 = .ok (.isub, 1) := by decide +kernel
theorem d_C_addRule_59 : decode prog_7_method_7_code 59 = .ok (.ireturn, 1) := by decide +kernel
def Y_C_addRule : sdY := ("SettingsDesk$Schema", prog_7_method_7_code, 7, (some .int), .code y_C_addRule prog_7_method_7_code 7 (some .int) :: sdB0, { frames := 0, cells := 0, slots := 0, locals := 0 }, 0, 0)
section
variable {l : Launch} {D : va_G} {dA : Nat → ClassId} {b n : Nat} {ad : Nat → Nat} {L : Nat → sdL} {sc : Option (Nat × Nat × (Nat → Int32))}
def w_C_addRule (M : sdM) (a1 : Int32) (a2 : Int32) (a3 : Int32) (a4 : Int32) (a5 : Int32) (Q : Int32 → sdM → Prop) : Prop := vp_in (M 1 4) 4 ∧ ∀ M16 : sdM, M16 = sd_s M (21 + (M 1 4).toNatClampNeg) 0 a1 → ∀ M18 : sdM, M18 = sd_s M16 (21 + (M 1 4).toNatClampNeg) 1 a2 → ∀ M20 : sdM, M20 = sd_s M18 (21 + (M 1 4).toNatClampNeg) 2 a3 → ∀ M22 : sdM, M22 = sd_s M20 (21 + (M 1 4).toNatClampNeg) 3 a4 → sdB a5 ∧ ∀ M24 : sdM, M24 = sd_s M22 (21 + (M 1 4).toNatClampNeg) 4 a5 → ∀ M27 : sdM, M27 = sd_s M24 1 4 ((M24 1 4) + (1 : Int32)) → Q ((M27 1 4) - (1 : Int32)) M27
set_option maxHeartbeats 1000000 in
theorem c_C_addRule {a1 : Int32} {a2 : Int32} {a3 : Int32} {a4 : Int32} {a5 : Int32} (hA : sd_ad b n ad) (hT : l.stackTraces = false) (hC : isC n L dA) {Q : Int32 → sdM → Prop} {M : sdM} (hw : w_C_addRule M a1 a2 a3 a4 a5 Q) : sd_Cn l (sdE0 sc) y_C_addRule Y_C_addRule.2.2.2.2.1 Y_C_addRule.2.2.2.2.2.1 0 0 D (sd_tys dA) b n ad L M [.ref 1, .int a1, .int a2, .int a3, .int a4, .int a5] (sd_qi Q) sd_xf := by
  refine sd_enter (Y := Y_C_addRule) rfl rfl rfl (Nat.le_of_ble_eq_true rfl) ?_
  show sdW l (sdE0 sc) Y_C_addRule D (sd_tys dA) b n ad L ad (sd_H D (sdE0 sc).1 n ad L) (sd_qi Q) sd_xf 0 [(0, .ref 1), (1, .int a1), (2, .int a2), (3, .int a3), (4, .int a4), (5, .int a5)] [] M 0 0
  unfold w_C_addRule at hw
  refine x_aload_n 0 0 d_C_addRule_0 rfl rfl ?_
  refine x_getr 5 4 d_C_addRule_1 hC.1 hC.2.1 rfl rfl (by decide) lay_C (List.mem_cons_of_mem _ q83) rfl ?_
  refine x_aload_n 0 0 d_C_addRule_4 rfl rfl ?_
  refine x_geti 4 d_C_addRule_5 hC.1 hC.2.1 rfl rfl (by decide) lay_C (List.mem_cons_of_mem _ q84) rfl ?_
  obtain ⟨hi15, hw⟩ := hw
  refine x_aald (21 + (M 1 4).toNatClampNeg) d_C_addRule_8 hC.rules.1 hC.rules.2 (t0 := 4) rfl hi15 rfl ?_
  refine x_astore 6 [(6, .ref (21 + (M 1 4).toNatClampNeg)), (0, .ref 1), (1, .int a1), (2, .int a2), (3, .int a3), (4, .int a4), (5, .int a5)] d_C_addRule_9 (by decide) rfl ?_
  refine x_aload 6 0 d_C_addRule_11 rfl ?_
  refine x_iload_n 1 2 d_C_addRule_13 rfl rfl ?_
  refine x_puti 0 (ty := .int) hA d_C_addRule_14 (hC.rulesAt hi15).1 (hC.rulesAt hi15).2 rfl rfl (by decide) lay_R (List.mem_cons_of_mem _ q85) rfl ty_R ty_R_ok nm_R rfl (by decide +kernel) rfl rfl (fun M16 e17 => ?_)
  have hw := hw M16 e17
  clear e17
  refine x_aload 6 0 d_C_addRule_17 rfl ?_
  refine x_iload_n 2 3 d_C_addRule_19 rfl rfl ?_
  refine x_puti 1 (ty := .int) hA d_C_addRule_20 (hC.rulesAt hi15).1 (hC.rulesAt hi15).2 rfl rfl (by decide) lay_R (List.mem_cons_of_mem _ q86) rfl ty_R ty_R_ok nm_R rfl (by decide +kernel) rfl rfl (fun M18 e19 => ?_)
  have hw := hw M18 e19
  clear e19
  refine x_aload 6 0 d_C_addRule_23 rfl ?_
  refine x_iload_n 3 4 d_C_addRule_25 rfl rfl ?_
  refine x_puti 2 (ty := .int) hA d_C_addRule_26 (hC.rulesAt hi15).1 (hC.rulesAt hi15).2 rfl rfl (by decide) lay_R (List.mem_cons_of_mem _ q87) rfl ty_R ty_R_ok nm_R rfl (by decide +kernel) rfl rfl (fun M20 e21 => ?_)
  have hw := hw M20 e21
  clear e21
  refine x_aload 6 0 d_C_addRule_29 rfl ?_
  refine x_iload 4 5 d_C_addRule_31 rfl ?_
  refine x_puti 3 (ty := .int) hA d_C_addRule_33 (hC.rulesAt hi15).1 (hC.rulesAt hi15).2 rfl rfl (by decide) lay_R (List.mem_cons_of_mem _ q88) rfl ty_R ty_R_ok nm_R rfl (by decide +kernel) rfl rfl (fun M22 e23 => ?_)
  have hw := hw M22 e23
  clear e23
  refine x_aload 6 0 d_C_addRule_36 rfl ?_
  refine x_iload 5 6 d_C_addRule_38 rfl ?_
  obtain ⟨hb26, hw⟩ := hw
  refine x_puti 4 (ty := .boolean) hA d_C_addRule_40 (hC.rulesAt hi15).1 (hC.rulesAt hi15).2 rfl rfl (by decide) lay_R (List.mem_cons_of_mem _ q89) rfl ty_R ty_R_ok nm_R rfl (by decide +kernel) (sdB_n hb26) (sdB_f hb26) (fun M24 e25 => ?_)
  have hw := hw M24 e25
  clear e25
  refine x_aload_n 0 1 d_C_addRule_43 rfl rfl ?_
  refine x_dup d_C_addRule_44 rfl ?_
  refine x_geti 4 d_C_addRule_45 hC.1 hC.2.1 rfl rfl (by decide) lay_C (List.mem_cons_of_mem _ q84) rfl ?_
  refine x_iconst (v := 1) d_C_addRule_48 (by decide) ?_
  refine x_iadd d_C_addRule_49 ?_
  refine x_puti 4 (ty := .int) hA d_C_addRule_50 hC.1 hC.2.1 rfl rfl (by decide) lay_C (List.mem_cons_of_mem _ q84) rfl ty_C ty_C_ok nm_C rfl (by decide +kernel) rfl rfl (fun M27 e28 => ?_)
  have hw := hw M27 e28
  clear e28
  refine x_aload_n 0 1 d_C_addRule_53 rfl rfl ?_
  refine x_geti 4 d_C_addRule_54 hC.1 hC.2.1 rfl rfl (by decide) lay_C (List.mem_cons_of_mem _ q84) rfl ?_
  refine x_iconst (v := 1) d_C_addRule_57 (by decide) ?_
  refine x_isub d_C_addRule_58 ?_
  exact x_iret d_C_addRule_59 rfl (fun _ h => h) ⟨_, rfl, hw⟩
end
theorem q90 : (.fieldLink "SettingsDesk$Trouble" 7 "SettingsDesk$Trouble" "fault" "I" : Cond) ∈ sdB0 := sd_tb1 162 rfl rfl
theorem q91 : (.fieldLink "SettingsDesk$Trouble" 13 "SettingsDesk$Trouble" "atList" "I" : Cond) ∈ sdB0 := sd_tb1 164 rfl rfl
theorem q92 : (.fieldLink "SettingsDesk$Trouble" 16 "SettingsDesk$Trouble" "atKey" "I" : Cond) ∈ sdB0 := sd_tb1 166 rfl rfl
theorem q93 : (.fieldLink "SettingsDesk$Trouble" 19 "SettingsDesk$Trouble" "atPart" "I" : Cond) ∈ sdB0 := sd_tb1 168 rfl rfl
abbrev y_T_note : MethodName := ⟨"SettingsDesk$Trouble", "note", "(IIII)V"⟩
theorem d_T_note_0 : decode prog_10_method_2_code 0 = .ok (.aload_n 0, 1) := by decide +kernel
theorem d_T_note_1 : decode prog_10_method_2_code 1 = .ok (.iload_n 1, 1) := by decide +kernel
theorem d_T_note_2 : decode prog_10_method_2_code 2 = .ok (.putfield 7, 3) := by decide +kernel
theorem d_T_note_5 : decode prog_10_method_2_code 5 = .ok (.aload_n 0, 1) := by decide +kernel
theorem d_T_note_6 : decode prog_10_method_2_code 6 = .ok (.iload_n 2, 1) := by decide +kernel
theorem d_T_note_7 : decode prog_10_method_2_code 7 = .ok (.putfield 13, 3) := by decide +kernel
theorem d_T_note_10 : decode prog_10_method_2_code 10 = .ok (.aload_n 0, 1) := by decide +kernel
theorem d_T_note_11 : decode prog_10_method_2_code 11 = .ok (.iload_n 3, 1) := by decide +kernel
theorem d_T_note_12 : decode prog_10_method_2_code 12 = .ok (.putfield 16, 3) := by decide +kernel
theorem d_T_note_15 : decode prog_10_method_2_code 15 = .ok (.aload_n 0, 1) := by decide +kernel
theorem d_T_note_16 : decode prog_10_method_2_code 16 = .ok (.iload 4, 2) := by decide +kernel
theorem d_T_note_18 : decode prog_10_method_2_code 18 = .ok (.putfield 19, 3) := by decide +kernel
theorem d_T_note_21 : decode prog_10_method_2_code 21 = .ok (.return_, 1) := by decide +kernel
def Y_T_note : sdY := ("SettingsDesk$Trouble", prog_10_method_2_code, 5, none, .code y_T_note prog_10_method_2_code 5 none :: sdB0, { frames := 0, cells := 0, slots := 0, locals := 0 }, 0, 0)
section
variable {l : Launch} {D : va_G} {dA : Nat → ClassId} {b n : Nat} {ad : Nat → Nat} {L : Nat → sdL} {sc : Option (Nat × Nat × (Nat → Int32))}
def w_T_note (o : Nat) (M : sdM) (a1 : Int32) (a2 : Int32) (a3 : Int32) (a4 : Int32) (Q : sdM → Prop) : Prop := ∀ M9 : sdM, M9 = sd_s M o 0 a1 → ∀ M11 : sdM, M11 = sd_s M9 o 1 a2 → ∀ M13 : sdM, M13 = sd_s M11 o 2 a3 → ∀ M15 : sdM, M15 = sd_s M13 o 3 a4 → Q M15
set_option maxHeartbeats 1000000 in
theorem c_T_note {a1 : Int32} {a2 : Int32} {a3 : Int32} {a4 : Int32} {o : Nat} (hA : sd_ad b n ad) (hT : l.stackTraces = false) (ho : isT n L o) {Q : sdM → Prop} {M : sdM} (hw : w_T_note o M a1 a2 a3 a4 Q) : sd_Cn l (sdE0 sc) y_T_note Y_T_note.2.2.2.2.1 Y_T_note.2.2.2.2.2.1 0 0 D (sd_tys dA) b n ad L M [.ref o, .int a1, .int a2, .int a3, .int a4] (sd_qv Q) sd_xf := by
  refine sd_enter (Y := Y_T_note) rfl rfl rfl (Nat.le_of_ble_eq_true rfl) ?_
  show sdW l (sdE0 sc) Y_T_note D (sd_tys dA) b n ad L ad (sd_H D (sdE0 sc).1 n ad L) (sd_qv Q) sd_xf 0 [(0, .ref o), (1, .int a1), (2, .int a2), (3, .int a3), (4, .int a4)] [] M 0 0
  unfold w_T_note at hw
  refine x_aload_n 0 0 d_T_note_0 rfl rfl ?_
  refine x_iload_n 1 1 d_T_note_1 rfl rfl ?_
  refine x_puti 0 (ty := .int) hA d_T_note_2 ho.1 ho.2 rfl rfl (by decide) lay_T (List.mem_cons_of_mem _ q90) rfl ty_T ty_T_ok nm_T rfl (by decide +kernel) rfl rfl (fun M9 e10 => ?_)
  have hw := hw M9 e10
  clear e10
  refine x_aload_n 0 0 d_T_note_5 rfl rfl ?_
  refine x_iload_n 2 2 d_T_note_6 rfl rfl ?_
  refine x_puti 1 (ty := .int) hA d_T_note_7 ho.1 ho.2 rfl rfl (by decide) lay_T (List.mem_cons_of_mem _ q91) rfl ty_T ty_T_ok nm_T rfl (by decide +kernel) rfl rfl (fun M11 e12 => ?_)
  have hw := hw M11 e12
  clear e12
  refine x_aload_n 0 0 d_T_note_10 rfl rfl ?_
  refine x_iload_n 3 3 d_T_note_11 rfl rfl ?_
  refine x_puti 2 (ty := .int) hA d_T_note_12 ho.1 ho.2 rfl rfl (by decide) lay_T (List.mem_cons_of_mem _ q92) rfl ty_T ty_T_ok nm_T rfl (by decide +kernel) rfl rfl (fun M13 e14 => ?_)
  have hw := hw M13 e14
  clear e14
  refine x_aload_n 0 0 d_T_note_15 rfl rfl ?_
  refine x_iload 4 4 d_T_note_16 rfl ?_
  refine x_puti 3 (ty := .int) hA d_T_note_18 ho.1 ho.2 rfl rfl (by decide) lay_T (List.mem_cons_of_mem _ q93) rfl ty_T ty_T_ok nm_T rfl (by decide +kernel) rfl rfl (fun M15 e16 => ?_)
  have hw := hw M15 e16
  clear e16
  exact x_vret d_T_note_21 rfl (fun _ h => h) ⟨rfl, hw⟩
end
theorem q94 : (.fieldLink "SettingsDesk$Session" 16 "SettingsDesk$Session" "candidate" "LSettingsDesk$Settings;" : Cond) ∈ sdB0 := sd_tb1 189 rfl rfl
theorem q95 : (.fieldLink "SettingsDesk$Session" 20 "SettingsDesk$Session" "base" "LSettingsDesk$Settings;" : Cond) ∈ sdB0 := sd_tb1 192 rfl rfl
theorem q96 : (.methodLink "SettingsDesk$Session" 23 ⟨"SettingsDesk$Settings", "copyFrom", "(LSettingsDesk$Settings;)V"⟩ : Cond) ∈ sdB0 := sd_tb3 102 rfl rfl
theorem q97 : (.code ⟨"SettingsDesk$Settings", "copyFrom", "(LSettingsDesk$Settings;)V"⟩ prog_9_method_2_code 2 none : Cond) ∈ sdB0 := sd_tb2 43 rfl rfl
theorem q98 : (.instanceMethod ⟨"SettingsDesk$Settings", "copyFrom", "(LSettingsDesk$Settings;)V"⟩ : Cond) ∈ sdB0 := sd_tb2 41 rfl rfl
theorem q99 : (.selects "SettingsDesk$Settings" ⟨"SettingsDesk$Settings", "copyFrom", "(LSettingsDesk$Settings;)V"⟩ ⟨"SettingsDesk$Settings", "copyFrom", "(LSettingsDesk$Settings;)V"⟩ : Cond) ∈ sdB0 := sd_tb2 42 rfl rfl
abbrev y_N_takeOver : MethodName := ⟨"SettingsDesk$Session", "takeOver", "(LSettingsDesk$Settings;LSettingsDesk$Settings;)V"⟩
theorem d_N_takeOver_0 : decode prog_8_method_2_code 0 = .ok (.aload_n 0, 1) := by decide +kernel
theorem d_N_takeOver_1 : decode prog_8_method_2_code 1 = .ok (.getfield 16, 3) := by decide +kernel
theorem d_N_takeOver_4 : decode prog_8_method_2_code 4 = .ok (.aload_n 1, 1) := by decide +kernel
theorem d_N_takeOver_5 : decode prog_8_method_2_code 5 = .ok (.invokevirtual 23, 3) := by decide +kernel
theorem d_N_takeOver_8 : decode prog_8_method_2_code 8 = .ok (.aload_n 0, 1) := by decide +kernel
theorem d_N_takeOver_9 : decode prog_8_method_2_code 9 = .ok (.getfield 20, 3) := by decide +kernel
theorem d_N_takeOver_12 : decode prog_8_method_2_code 12 = .ok (.aload_n 2, 1) := by decide +kernel
theorem d_N_takeOver_13 : decode prog_8_method_2_code 13 = .ok (.invokevirtual 23, 3) := by decide +kernel
theorem d_N_takeOver_16 : decode prog_8_method_2_code 16 = .ok (.return_, 1) := by decide +kernel
def Y_N_takeOver : sdY := ("SettingsDesk$Session", prog_8_method_2_code, 3, none, .code y_N_takeOver prog_8_method_2_code 3 none :: sdB0, { frames := 2, cells := 0, slots := 0, locals := 39 }, 0, 0)
theorem cw_N_takeOver_S_copyFrom_23 : sd_cwV Y_N_takeOver Y_S_copyFrom y_S_copyFrom 23 1 "SettingsDesk$Settings" := ⟨sd_goodV q96 q98 q99 q7 q97, ⟨_, rfl⟩, ⟨rfl, rfl, rfl, rfl⟩, ⟨rfl, by decide, by decide, by decide +kernel⟩, ⟨by decide, by decide⟩⟩
section
variable {l : Launch} {D : va_G} {dA : Nat → ClassId} {b n : Nat} {ad : Nat → Nat} {L : Nat → sdL} {sc : Option (Nat × Nat × (Nat → Int32))}
def w_N_takeOver (o : Nat) (M : sdM) (p1 : Nat) (p2 : Nat) (Q : sdM → Prop) : Prop := w_S_copyFrom (o + 1) M p1 (fun M3 => w_S_copyFrom (o + 6) M3 p2 (fun M4 => Q M4))
set_option maxHeartbeats 1000000 in
theorem c_N_takeOver {p1 : Nat} {p2 : Nat} {o : Nat} (hA : sd_ad b n ad) (hT : l.stackTraces = false) (ho : isN n L dA o) (hp1 : isS n L dA p1) (hp2 : isS n L dA p2) {Q : sdM → Prop} {M : sdM} (hw : w_N_takeOver o M p1 p2 Q) : sd_Cn l (sdE0 sc) y_N_takeOver Y_N_takeOver.2.2.2.2.1 Y_N_takeOver.2.2.2.2.2.1 0 0 D (sd_tys dA) b n ad L M [.ref o, .ref p1, .ref p2] (sd_qv Q) sd_xf := by
  refine sd_enter (Y := Y_N_takeOver) rfl rfl rfl (Nat.le_of_ble_eq_true rfl) ?_
  show sdW l (sdE0 sc) Y_N_takeOver D (sd_tys dA) b n ad L ad (sd_H D (sdE0 sc).1 n ad L) (sd_qv Q) sd_xf 0 [(0, .ref o), (1, .ref p1), (2, .ref p2)] [] M 0 0
  unfold w_N_takeOver at hw
  refine x_aload_n 0 0 d_N_takeOver_0 rfl rfl ?_
  refine x_getr 1 (o + 1) d_N_takeOver_1 ho.1 ho.2.1 rfl rfl (by decide) lay_N (List.mem_cons_of_mem _ q94) rfl ?_
  refine x_aload_n 1 1 d_N_takeOver_4 rfl rfl ?_
  refine x_callVv (As := [.ref p1]) (t := (o + 1)) (rest := []) (rc := 0) (rs := 0) (c_S_copyFrom hA hT ho.candidate hp1 hw) cw_N_takeOver_S_copyFrom_23 ho.candidate.1 ho.candidate.2.1 rfl d_N_takeOver_5 rfl rfl (Nat.le_of_ble_eq_true rfl) (fun _ _ h => h.elim) (fun _ _ h => h) (fun M3 hw => ?_)
  refine x_aload_n 0 0 d_N_takeOver_8 rfl rfl ?_
  refine x_getr 2 (o + 6) d_N_takeOver_9 ho.1 ho.2.1 rfl rfl (by decide) lay_N (List.mem_cons_of_mem _ q95) rfl ?_
  refine x_aload_n 2 2 d_N_takeOver_12 rfl rfl ?_
  refine x_callVv (As := [.ref p2]) (t := (o + 6)) (rest := []) (rc := 0) (rs := 0) (c_S_copyFrom hA hT ho.base hp2 hw) cw_N_takeOver_S_copyFrom_23 ho.base.1 ho.base.2.1 rfl d_N_takeOver_13 rfl rfl (Nat.le_of_ble_eq_true rfl) (fun _ _ h => h.elim) (fun _ _ h => h) (fun M4 hw => ?_)
  exact x_vret d_N_takeOver_16 rfl (fun _ h => h) ⟨rfl, hw⟩
end
end
section
theorem q100 : (.fieldLink "SettingsDesk$Merge" 25 "SettingsDesk$Merge" "outcome" "LSettingsDesk$Settings;" : Cond) ∈ sdB0 := sd_tb3 219 rfl rfl
theorem q101 : (.methodLink "SettingsDesk$Merge" 71 ⟨"SettingsDesk$Settings", "addEntry", "(II)I"⟩ : Cond) ∈ sdB0 := sd_tb4 26 rfl rfl
theorem q102 : (.code ⟨"SettingsDesk$Settings", "addEntry", "(II)I"⟩ prog_9_method_10_code 5 (some .int) : Cond) ∈ sdB0 := sd_tb3 149 rfl rfl
theorem q103 : (.instanceMethod ⟨"SettingsDesk$Settings", "addEntry", "(II)I"⟩ : Cond) ∈ sdB0 := sd_tb3 147 rfl rfl
theorem q104 : (.selects "SettingsDesk$Settings" ⟨"SettingsDesk$Settings", "addEntry", "(II)I"⟩ ⟨"SettingsDesk$Settings", "addEntry", "(II)I"⟩ : Cond) ∈ sdB0 := sd_tb3 148 rfl rfl
theorem q105 : (.methodLink "SettingsDesk$Merge" 74 ⟨"SettingsDesk$Settings", "copyLeaf", "(IILSettingsDesk$Settings;I)V"⟩ : Cond) ∈ sdB0 := sd_tb4 27 rfl rfl
theorem q106 : (.code ⟨"SettingsDesk$Settings", "copyLeaf", "(IILSettingsDesk$Settings;I)V"⟩ prog_9_method_13_code 5 none : Cond) ∈ sdB0 := sd_tb4 30 rfl rfl
theorem q107 : (.instanceMethod ⟨"SettingsDesk$Settings", "copyLeaf", "(IILSettingsDesk$Settings;I)V"⟩ : Cond) ∈ sdB0 := sd_tb4 28 rfl rfl
theorem q108 : (.selects "SettingsDesk$Settings" ⟨"SettingsDesk$Settings", "copyLeaf", "(IILSettingsDesk$Settings;I)V"⟩ ⟨"SettingsDesk$Settings", "copyLeaf", "(IILSettingsDesk$Settings;I)V"⟩ : Cond) ∈ sdB0 := sd_tb4 29 rfl rfl
abbrev y_G_takeEntry : MethodName := ⟨"SettingsDesk$Merge", "takeEntry", "(IILSettingsDesk$Settings;I)V"⟩
theorem d_G_takeEntry_0 : decode prog_5_method_5_code 0 = .ok (.iload 4, 2) := by decide +kernel
theorem d_G_takeEntry_2 : decode prog_5_method_5_code 2 = .ok (.iconst (-1), 1) := by decide +kernel
theorem d_G_takeEntry_3 : decode prog_5_method_5_code 3 = .ok (.if_icmp .ne (4), 3) := by decide +kernel
theorem d_G_takeEntry_6 : decode prog_5_method_5_code 6 = .ok (.return_, 1) := by decide +kernel
theorem d_G_takeEntry_7 : decode prog_5_method_5_code 7 = .ok (.aload_n 0, 1) := by decide +kernel
theorem d_G_takeEntry_8 : decode prog_5_method_5_code 8 = .ok (.getfield 25, 3) := by decide +kernel
theorem d_G_takeEntry_11 : decode prog_5_method_5_code 11 = .ok (.iload_n 1, 1) := by decide +kernel
theorem d_G_takeEntry_12 : decode prog_5_method_5_code 12 = .ok (.iload_n 2, 1) := by decide +kernel
theorem d_G_takeEntry_13 : decode prog_5_method_5_code 13 = .ok (.invokevirtual 71, 3) := by decide +kernel
theorem d_G_takeEntry_16 : decode prog_5_method_5_code 16 = .ok (.istore 5, 2) := by decide +kernel
theorem d_G_takeEntry_18 : decode prog_5_method_5_code 18 = .ok (.iconst 0, 1) := by decide +kernel
theorem d_G_takeEntry_19 : decode prog_5_method_5_code 19 = .ok (.istore 6, 2) := by decide +kernel
theorem d_G_takeEntry_21 : decode prog_5_method_5_code 21 = .ok (.iload 6, 2) := by decide +kernel
theorem d_G_takeEntry_23 : decode prog_5_method_5_code 23 = .ok (.iconst 4, 1) := by decide +kernel
theorem d_G_takeEntry_24 : decode prog_5_method_5_code 24 = .ok (.if_icmp .ge (23), 3) := by decide +kernel
theorem d_G_takeEntry_27 : decode prog_5_method_5_code 27 = .ok (.aload_n 0, 1) := by decide +kernel
theorem d_G_takeEntry_28 : decode prog_5_method_5_code 28 = .ok (.getfield 25, 3) := by decide +kernel
theorem d_G_takeEntry_31 : decode prog_5_method_5_code 31 = .ok (.iload 5, 2) := by decide +kernel
theorem d_G_takeEntry_33 : decode prog_5_method_5_code 33 = .ok (.iload 6, 2) := by decide +kernel
theorem d_G_takeEntry_35 : decode prog_5_method_5_code 35 = .ok (.aload_n 3, 1) := by decide +kernel
theorem d_G_takeEntry_36 : decode prog_5_method_5_code 36 = .ok (.iload 4, 2) := by decide +kernel
theorem d_G_takeEntry_38 : decode prog_5_method_5_code 38 = .ok (.invokevirtual 74, 3) := by decide +kernel
theorem d_G_takeEntry_41 : decode prog_5_method_5_code 41 = .ok (.iinc 6 (1), 3) := by decide +kernel
theorem d_G_takeEntry_44 : decode prog_5_method_5_code 44 = .ok (.goto (-23), 3) := by decide +kernel
theorem d_G_takeEntry_47 : decode prog_5_method_5_code 47 = .ok (.return_, 1) := by decide +kernel
def Y_G_takeEntry : sdY := ("SettingsDesk$Merge", prog_5_method_5_code, 7, none, .code y_G_takeEntry prog_5_method_5_code 7 none :: sdB0, { frames := 3, cells := 0, slots := 0, locals := 64 }, 0, 0)
theorem cw_G_takeEntry_S_addEntry_71 : sd_cwV Y_G_takeEntry Y_S_addEntry y_S_addEntry 71 2 "SettingsDesk$Settings" := ⟨sd_goodV q101 q103 q104 q7 q102, ⟨_, rfl⟩, ⟨rfl, rfl, rfl, rfl⟩, ⟨rfl, by decide, by decide, by decide +kernel⟩, ⟨by decide, by decide⟩⟩
theorem cw_G_takeEntry_S_copyLeaf_74 : sd_cwV Y_G_takeEntry Y_S_copyLeaf y_S_copyLeaf 74 4 "SettingsDesk$Settings" := ⟨sd_goodV q105 q107 q108 q7 q106, ⟨_, rfl⟩, ⟨rfl, rfl, rfl, rfl⟩, ⟨rfl, by decide, by decide, by decide +kernel⟩, ⟨by decide, by decide⟩⟩
section
variable {l : Launch} {D : va_G} {dA : Nat → ClassId} {b n : Nat} {ad : Nat → Nat} {L : Nat → sdL} {sc : Option (Nat × Nat × (Nat → Int32))}
def h_G_takeEntry_21 (o : Nat) (ca : Nat) (ba : Nat) (ru : Nat) (ou : Nat) (tr : Nat) (Q : sdM → Prop) : Nat → sdM → Nat → Int32 → Int32 → Int32 → Prop
  | 0, _, _, _, _, _ => False
  | N + 1, M, o3, x4, x5, x6 => ((4 : Int32) ≤ x6 → Q M) ∧ (¬ (4 : Int32) ≤ x6 → w_S_copyLeaf ou M x5 x6 o3 x4 (fun M4 => h_G_takeEntry_21 o ca ba ru ou tr Q N M4 o3 x4 x5 (x6 + 1)))
set_option maxHeartbeats 1000000 in
theorem t_G_takeEntry_21 {o : Nat} {ca : Nat} {ba : Nat} {ru : Nat} {ou : Nat} {tr : Nat} (hA : sd_ad b n ad) (hT : l.stackTraces = false) (ho : isG n L dA o ca ba ru ou tr) {Q : sdM → Prop} (N : Nat) : ∀ (M : sdM) (o3 : Nat) (x4 : Int32) (x5 : Int32) (x6 : Int32) (ho3 : isS n L dA o3), h_G_takeEntry_21 o ca ba ru ou tr Q N M o3 x4 x5 x6 → sdW l (sdE0 sc) Y_G_takeEntry D (sd_tys dA) b n ad L ad (sd_H D (sdE0 sc).1 n ad L) (sd_qv Q) sd_xf 21 [(0, .ref o), (3, .ref o3), (4, .int x4), (5, .int x5), (6, .int x6)] [] M 0 0 := by
  induction N with
  | zero => intro M o3 x4 x5 x6 ho3 hw; exact hw.elim
  | succ N ih =>
    intro M o3 x4 x5 x6 ho3 hw
    rw [h_G_takeEntry_21] at hw
    refine x_iload 6 4 d_G_takeEntry_21 rfl ?_
    refine x_iconst (v := 4) d_G_takeEntry_23 (by decide) ?_
    refine x_icmp_ge 47 d_G_takeEntry_24 rfl (fun hc => ?_) (fun hc => ?_)
    · have hw := hw.1 hc
      exact x_vret d_G_takeEntry_47 rfl (fun _ h => h) ⟨rfl, hw⟩
    · have hw := hw.2 hc
      refine x_aload_n 0 0 d_G_takeEntry_27 rfl rfl ?_
      refine x_getr 3 ou d_G_takeEntry_28 ho.1 ho.2.1 rfl rfl (by decide) lay_G (List.mem_cons_of_mem _ q100) rfl ?_
      refine x_iload 5 3 d_G_takeEntry_31 rfl ?_
      refine x_iload 6 4 d_G_takeEntry_33 rfl ?_
      refine x_aload_n 3 1 d_G_takeEntry_35 rfl rfl ?_
      refine x_iload 4 2 d_G_takeEntry_36 rfl ?_
      refine x_callVv (As := [.int x5, .int x6, .ref o3, .int x4]) (t := ou) (rest := []) (rc := 0) (rs := 0) (c_S_copyLeaf hA hT ho.outcome ho3 hw) cw_G_takeEntry_S_copyLeaf_74 ho.outcome.1 ho.outcome.2.1 rfl d_G_takeEntry_38 rfl rfl (Nat.le_of_ble_eq_true rfl) (fun _ _ h => h.elim) (fun _ _ h => h) (fun M4 hw => ?_)
      refine x_iinc 6 4 [(6, .int (x6 + 1)), (0, .ref o), (3, .ref o3), (4, .int x4), (5, .int x5)] d_G_takeEntry_41 rfl (congrArg (HAdd.hAdd x6) (show Int32.ofInt 1 = 1 by decide)) (by decide) rfl ?_
      refine x_goto 21 d_G_takeEntry_44 rfl ?_
      refine x_sub [1, 2, 3, 4, 0] [(0, .ref o), (3, .ref o3), (4, .int x4), (5, .int x5), (6, .int (x6 + 1))] rfl ?_
      exact ih M4 o3 x4 x5 (x6 + 1) ho3 hw
def w_G_takeEntry (o : Nat) (ca : Nat) (ba : Nat) (ru : Nat) (ou : Nat) (tr : Nat) (M : sdM) (a1 : Int32) (a2 : Int32) (p3 : Nat) (a4 : Int32) (Q : sdM → Prop) : Prop := (¬ a4 = (-1 : Int32) → w_S_addEntry ou M a1 a2 (fun r6 M5 => ∃ N9 : Nat, h_G_takeEntry_21 o ca ba ru ou tr Q N9 M5 p3 a4 r6 (0 : Int32))) ∧ (a4 = (-1 : Int32) → Q M)
set_option maxHeartbeats 1000000 in
theorem c_G_takeEntry {a1 : Int32} {a2 : Int32} {p3 : Nat} {a4 : Int32} {o : Nat} {ca : Nat} {ba : Nat} {ru : Nat} {ou : Nat} {tr : Nat} (hA : sd_ad b n ad) (hT : l.stackTraces = false) (ho : isG n L dA o ca ba ru ou tr) (hp3 : isS n L dA p3) {Q : sdM → Prop} {M : sdM} (hw : w_G_takeEntry o ca ba ru ou tr M a1 a2 p3 a4 Q) : sd_Cn l (sdE0 sc) y_G_takeEntry Y_G_takeEntry.2.2.2.2.1 Y_G_takeEntry.2.2.2.2.2.1 0 0 D (sd_tys dA) b n ad L M [.ref o, .int a1, .int a2, .ref p3, .int a4] (sd_qv Q) sd_xf := by
  refine sd_enter (Y := Y_G_takeEntry) rfl rfl rfl (Nat.le_of_ble_eq_true rfl) ?_
  show sdW l (sdE0 sc) Y_G_takeEntry D (sd_tys dA) b n ad L ad (sd_H D (sdE0 sc).1 n ad L) (sd_qv Q) sd_xf 0 [(0, .ref o), (1, .int a1), (2, .int a2), (3, .ref p3), (4, .int a4)] [] M 0 0
  unfold w_G_takeEntry at hw
  refine x_iload 4 4 d_G_takeEntry_0 rfl ?_
  refine x_iconst (v := (-1)) d_G_takeEntry_2 (by decide) ?_
  refine x_icmp_ne 7 d_G_takeEntry_3 rfl (fun hc => ?_) (fun hc => ?_)
  · have hw := hw.1 hc
    refine x_aload_n 0 0 d_G_takeEntry_7 rfl rfl ?_
    refine x_getr 3 ou d_G_takeEntry_8 ho.1 ho.2.1 rfl rfl (by decide) lay_G (List.mem_cons_of_mem _ q100) rfl ?_
    refine x_iload_n 1 1 d_G_takeEntry_11 rfl rfl ?_
    refine x_iload_n 2 2 d_G_takeEntry_12 rfl rfl ?_
    refine x_callVi (As := [.int a1, .int a2]) (t := ou) (rest := []) (rc := 0) (rs := 0) (c_S_addEntry hA hT ho.outcome hw) cw_G_takeEntry_S_addEntry_71 ho.outcome.1 ho.outcome.2.1 rfl d_G_takeEntry_13 rfl rfl (Nat.le_of_ble_eq_true rfl) (fun _ _ h => h.elim) (fun _ _ h => h) (fun r6 M5 hw => ?_)
    refine x_istore 5 [(5, .int r6), (0, .ref o), (1, .int a1), (2, .int a2), (3, .ref p3), (4, .int a4)] d_G_takeEntry_16 (by decide) rfl ?_
    refine x_iconst (v := 0) d_G_takeEntry_18 (by decide) ?_
    refine x_istore 6 [(6, .int (0 : Int32)), (5, .int r6), (0, .ref o), (1, .int a1), (2, .int a2), (3, .ref p3), (4, .int a4)] d_G_takeEntry_19 (by decide) rfl ?_
    refine x_sub [2, 5, 6, 1, 0] [(0, .ref o), (3, .ref p3), (4, .int a4), (5, .int r6), (6, .int (0 : Int32))] rfl ?_
    obtain ⟨N9, hw⟩ := hw
    exact t_G_takeEntry_21 hA hT ho N9 M5 p3 a4 r6 (0 : Int32) hp3 hw
  · have hw := hw.2 hc
    exact x_vret d_G_takeEntry_6 rfl (fun _ h => h) ⟨rfl, hw⟩
end
theorem q109 : (.fieldLink "SettingsDesk$Merge" 15 "SettingsDesk$Merge" "candidate" "LSettingsDesk$Settings;" : Cond) ∈ sdB0 := sd_tb3 216 rfl rfl
theorem q110 : (.fieldLink "SettingsDesk$Merge" 21 "SettingsDesk$Merge" "base" "LSettingsDesk$Settings;" : Cond) ∈ sdB0 := sd_tb3 217 rfl rfl
theorem q111 : (.fieldLink "SettingsDesk$Merge" 22 "SettingsDesk$Merge" "running" "LSettingsDesk$Settings;" : Cond) ∈ sdB0 := sd_tb3 218 rfl rfl
theorem q112 : (.fieldLink "SettingsDesk$Merge" 28 "SettingsDesk$Merge" "trouble" "LSettingsDesk$Trouble;" : Cond) ∈ sdB0 := sd_tb3 220 rfl rfl
theorem q113 : (.methodLink "SettingsDesk$Merge" 77 ⟨"SettingsDesk$Settings", "sameLeaf", "(IILSettingsDesk$Settings;I)Z"⟩ : Cond) ∈ sdB0 := sd_tb4 37 rfl rfl
theorem q114 : (.methodLink "SettingsDesk$Merge" 61 ⟨"SettingsDesk$Trouble", "note", "(IIII)V"⟩ : Cond) ∈ sdB0 := sd_tb4 32 rfl rfl
theorem q115 : (.code ⟨"SettingsDesk$Trouble", "note", "(IIII)V"⟩ prog_10_method_2_code 5 none : Cond) ∈ sdB0 := sd_tb3 31 rfl rfl
theorem q116 : (.instanceMethod ⟨"SettingsDesk$Trouble", "note", "(IIII)V"⟩ : Cond) ∈ sdB0 := sd_tb3 29 rfl rfl
theorem q117 : (.selects "SettingsDesk$Trouble" ⟨"SettingsDesk$Trouble", "note", "(IIII)V"⟩ ⟨"SettingsDesk$Trouble", "note", "(IIII)V"⟩ : Cond) ∈ sdB0 := sd_tb3 30 rfl rfl
theorem q118 : (.initialized "SettingsDesk$Trouble" : Cond) ∈ sdB0 := sd_tb1 6 rfl rfl
abbrev y_G_mergesLeaves : MethodName := ⟨"SettingsDesk$Merge", "mergesLeaves", "(IIIII)Z"⟩
theorem d_G_mergesLeaves_0 : decode prog_5_method_6_code 0 = .ok (.aload_n 0, 1) := by decide +kernel
theorem d_G_mergesLeaves_1 : decode prog_5_method_6_code 1 = .ok (.getfield 25, 3) := by decide +kernel
theorem d_G_mergesLeaves_4 : decode prog_5_method_6_code 4 = .ok (.iload_n 1, 1) := by decide +kernel
theorem d_G_mergesLeaves_5 : decode prog_5_method_6_code 5 = .ok (.iload_n 2, 1) := by decide +kernel
theorem d_G_mergesLeaves_6 : decode prog_5_method_6_code 6 = .ok (.invokevirtual 71, 3) := by decide +kernel
theorem d_G_mergesLeaves_9 : decode prog_5_method_6_code 9 = .ok (.istore 6, 2) := by decide +kernel
theorem d_G_mergesLeaves_11 : decode prog_5_method_6_code 11 = .ok (.iconst 0, 1) := by decide +kernel
theorem d_G_mergesLeaves_12 : decode prog_5_method_6_code 12 = .ok (.istore 7, 2) := by decide +kernel
theorem d_G_mergesLeaves_14 : decode prog_5_method_6_code 14 = .ok (.iload 7, 2) := by decide +kernel
theorem d_G_mergesLeaves_16 : decode prog_5_method_6_code 16 = .ok (.iconst 4, 1) := by decide +kernel
theorem d_G_mergesLeaves_17 : decode prog_5_method_6_code 17 = .ok (.if_icmp .ge (120), 3) := by decide +kernel
theorem d_G_mergesLeaves_20 : decode prog_5_method_6_code 20 = .ok (.aload_n 0, 1) := by decide +kernel
theorem d_G_mergesLeaves_21 : decode prog_5_method_6_code 21 = .ok (.getfield 15, 3) := by decide +kernel
theorem d_G_mergesLeaves_24 : decode prog_5_method_6_code 24 = .ok (.iload_n 3, 1) := by decide +kernel
theorem d_G_mergesLeaves_25 : decode prog_5_method_6_code 25 = .ok (.iload 7, 2) := by decide +kernel
theorem d_G_mergesLeaves_27 : decode prog_5_method_6_code 27 = .ok (.aload_n 0, 1) := by decide +kernel
theorem d_G_mergesLeaves_28 : decode prog_5_method_6_code 28 = .ok (.getfield 21, 3) := by decide +kernel
theorem d_G_mergesLeaves_31 : decode prog_5_method_6_code 31 = .ok (.iload 4, 2) := by decide +kernel
theorem d_G_mergesLeaves_33 : decode prog_5_method_6_code 33 = .ok (.invokevirtual 77, 3) := by decide +kernel
theorem d_G_mergesLeaves_36 : decode prog_5_method_6_code 36 = .ok (.ifCond .eq (23), 3) := by decide +kernel
theorem d_G_mergesLeaves_39 : decode prog_5_method_6_code 39 = .ok (.aload_n 0, 1) := by decide +kernel
theorem d_G_mergesLeaves_40 : decode prog_5_method_6_code 40 = .ok (.getfield 25, 3) := by decide +kernel
theorem d_G_mergesLeaves_43 : decode prog_5_method_6_code 43 = .ok (.iload 6, 2) := by decide +kernel
theorem d_G_mergesLeaves_45 : decode prog_5_method_6_code 45 = .ok (.iload 7, 2) := by decide +kernel
theorem d_G_mergesLeaves_47 : decode prog_5_method_6_code 47 = .ok (.aload_n 0, 1) := by decide +kernel
theorem d_G_mergesLeaves_48 : decode prog_5_method_6_code 48 = .ok (.getfield 22, 3) := by decide +kernel
theorem d_G_mergesLeaves_51 : decode prog_5_method_6_code 51 = .ok (.iload 5, 2) := by decide +kernel
theorem d_G_mergesLeaves_53 : decode prog_5_method_6_code 53 = .ok (.invokevirtual 74, 3) := by decide +kernel
theorem d_G_mergesLeaves_56 : decode prog_5_method_6_code 56 = .ok (.goto (75), 3) := by decide +kernel
theorem d_G_mergesLeaves_59 : decode prog_5_method_6_code 59 = .ok (.aload_n 0, 1) := by decide +kernel
theorem d_G_mergesLeaves_60 : decode prog_5_method_6_code 60 = .ok (.getfield 22, 3) := by decide +kernel
theorem d_G_mergesLeaves_63 : decode prog_5_method_6_code 63 = .ok (.iload 5, 2) := by decide +kernel
theorem d_G_mergesLeaves_65 : decode prog_5_method_6_code 65 = .ok (.iload 7, 2) := by decide +kernel
theorem d_G_mergesLeaves_67 : decode prog_5_method_6_code 67 = .ok (.aload_n 0, 1) := by decide +kernel
theorem d_G_mergesLeaves_68 : decode prog_5_method_6_code 68 = .ok (.getfield 21, 3) := by decide +kernel
theorem d_G_mergesLeaves_71 : decode prog_5_method_6_code 71 = .ok (.iload 4, 2) := by decide +kernel
theorem d_G_mergesLeaves_73 : decode prog_5_method_6_code 73 = .ok (.invokevirtual 77, 3) := by decide +kernel
theorem d_G_mergesLeaves_76 : decode prog_5_method_6_code 76 = .ok (.ifCond .ne (22), 3) := by decide +kernel
theorem d_G_mergesLeaves_79 : decode prog_5_method_6_code 79 = .ok (.aload_n 0, 1) := by decide +kernel
theorem d_G_mergesLeaves_80 : decode prog_5_method_6_code 80 = .ok (.getfield 22, 3) := by decide +kernel
theorem d_G_mergesLeaves_83 : decode prog_5_method_6_code 83 = .ok (.iload 5, 2) := by decide +kernel
theorem d_G_mergesLeaves_85 : decode prog_5_method_6_code 85 = .ok (.iload 7, 2) := by decide +kernel
theorem d_G_mergesLeaves_87 : decode prog_5_method_6_code 87 = .ok (.aload_n 0, 1) := by decide +kernel
theorem d_G_mergesLeaves_88 : decode prog_5_method_6_code 88 = .ok (.getfield 15, 3) := by decide +kernel
theorem d_G_mergesLeaves_91 : decode prog_5_method_6_code 91 = .ok (.iload_n 3, 1) := by decide +kernel
theorem d_G_mergesLeaves_92 : decode prog_5_method_6_code 92 = .ok (.invokevirtual 77, 3) := by decide +kernel
theorem d_G_mergesLeaves_95 : decode prog_5_method_6_code 95 = .ok (.ifCond .eq (22), 3) := by decide +kernel
theorem d_G_mergesLeaves_98 : decode prog_5_method_6_code 98 = .ok (.aload_n 0, 1) := by decide +kernel
theorem d_G_mergesLeaves_99 : decode prog_5_method_6_code 99 = .ok (.getfield 25, 3) := by decide +kernel
theorem d_G_mergesLeaves_102 : decode prog_5_method_6_code 102 = .ok (.iload 6, 2) := by decide +kernel
theorem d_G_mergesLeaves_104 : decode prog_5_method_6_code 104 = .ok (.iload 7, 2) := by decide +kernel
theorem d_G_mergesLeaves_106 : decode prog_5_method_6_code 106 = .ok (.aload_n 0, 1) := by decide +kernel
theorem d_G_mergesLeaves_107 : decode prog_5_method_6_code 107 = .ok (.getfield 15, 3) := by decide +kernel
theorem d_G_mergesLeaves_110 : decode prog_5_method_6_code 110 = .ok (.iload_n 3, 1) := by decide +kernel
theorem d_G_mergesLeaves_111 : decode prog_5_method_6_code 111 = .ok (.invokevirtual 74, 3) := by decide +kernel
theorem d_G_mergesLeaves_114 : decode prog_5_method_6_code 114 = .ok (.goto (17), 3) := by decide +kernel
theorem d_G_mergesLeaves_117 : decode prog_5_method_6_code 117 = .ok (.aload_n 0, 1) := by decide +kernel
theorem d_G_mergesLeaves_118 : decode prog_5_method_6_code 118 = .ok (.getfield 28, 3) := by decide +kernel
theorem d_G_mergesLeaves_121 : decode prog_5_method_6_code 121 = .ok (.iconst 0, 1) := by decide +kernel
theorem d_G_mergesLeaves_122 : decode prog_5_method_6_code 122 = .ok (.iload_n 1, 1) := by decide +kernel
theorem d_G_mergesLeaves_123 : decode prog_5_method_6_code 123 = .ok (.iload_n 2, 1) := by decide +kernel
theorem d_G_mergesLeaves_124 : decode prog_5_method_6_code 124 = .ok (.iload 7, 2) := by decide +kernel
theorem d_G_mergesLeaves_126 : decode prog_5_method_6_code 126 = .ok (.invokevirtual 61, 3) := by decide +kernel
theorem d_G_mergesLeaves_129 : decode prog_5_method_6_code 129 = .ok (.iconst 0, 1) := by decide +kernel
theorem d_G_mergesLeaves_130 : decode prog_5_method_6_code 130 = .ok (.ireturn, 1) := by decide +kernel
theorem d_G_mergesLeaves_131 : decode prog_5_method_6_code 131 = .ok (.iinc 7 (1), 3) := by decide +kernel
theorem d_G_mergesLeaves_134 : decode prog_5_method_6_code 134 = .ok (.goto (-120), 3) := by decide +kernel
theorem d_G_mergesLeaves_137 : decode prog_5_method_6_code 137 = .ok (.iconst 1, 1) := by decide +kernel
theorem d_G_mergesLeaves_138 : decode prog_5_method_6_code 138 = .ok (.ireturn, 1) := by decide +kernel
def Y_G_mergesLeaves : sdY := ("SettingsDesk$Merge", prog_5_method_6_code, 8, (some .boolean), .code y_G_mergesLeaves prog_5_method_6_code 8 (some .boolean) :: sdB0, { frames := 3, cells := 0, slots := 0, locals := 64 }, 0, 0)
theorem cw_G_mergesLeaves_S_addEntry_71 : sd_cwV Y_G_mergesLeaves Y_S_addEntry y_S_addEntry 71 2 "SettingsDesk$Settings" := ⟨sd_goodV q101 q103 q104 q7 q102, ⟨_, rfl⟩, ⟨rfl, rfl, rfl, rfl⟩, ⟨rfl, by decide, by decide, by decide +kernel⟩, ⟨by decide, by decide⟩⟩
theorem cw_G_mergesLeaves_S_sameLeaf_77 : sd_cwV Y_G_mergesLeaves Y_S_sameLeaf y_S_sameLeaf 77 4 "SettingsDesk$Settings" := ⟨sd_goodV q113 q14 q15 q7 q13, ⟨_, rfl⟩, ⟨rfl, rfl, rfl, rfl⟩, ⟨rfl, by decide, by decide, by decide +kernel⟩, ⟨by decide, by decide⟩⟩
theorem cw_G_mergesLeaves_T_note_61 : sd_cwV Y_G_mergesLeaves Y_T_note y_T_note 61 4 "SettingsDesk$Trouble" := ⟨sd_goodV q114 q116 q117 q118 q115, ⟨_, rfl⟩, ⟨rfl, rfl, rfl, rfl⟩, ⟨rfl, by decide, by decide, by decide +kernel⟩, ⟨by decide, by decide⟩⟩
theorem cw_G_mergesLeaves_S_copyLeaf_74 : sd_cwV Y_G_mergesLeaves Y_S_copyLeaf y_S_copyLeaf 74 4 "SettingsDesk$Settings" := ⟨sd_goodV q105 q107 q108 q7 q106, ⟨_, rfl⟩, ⟨rfl, rfl, rfl, rfl⟩, ⟨rfl, by decide, by decide, by decide +kernel⟩, ⟨by decide, by decide⟩⟩
section
variable {l : Launch} {D : va_G} {dA : Nat → ClassId} {b n : Nat} {ad : Nat → Nat} {L : Nat → sdL} {sc : Option (Nat × Nat × (Nat → Int32))}
def k_G_mergesLeaves_131 (o : Nat) (ca : Nat) (ba : Nat) (ru : Nat) (ou : Nat) (tr : Nat) (Q : Int32 → sdM → Prop) (k14 : sdM → Int32 → Int32 → Int32 → Int32 → Int32 → Int32 → Int32 → Prop) (M : sdM) (x1 : Int32) (x2 : Int32) (x3 : Int32) (x4 : Int32) (x5 : Int32) (x6 : Int32) (x7 : Int32) : Prop := k14 M x1 x2 x3 x4 x5 x6 (x7 + 1)
set_option maxHeartbeats 1000000 in
theorem t_G_mergesLeaves_131 {o : Nat} {ca : Nat} {ba : Nat} {ru : Nat} {ou : Nat} {tr : Nat} (hA : sd_ad b n ad) (hT : l.stackTraces = false) (ho : isG n L dA o ca ba ru ou tr) {Q : Int32 → sdM → Prop} {k14 : sdM → Int32 → Int32 → Int32 → Int32 → Int32 → Int32 → Int32 → Prop} (hk14 : ∀ (M : sdM) (x1 : Int32) (x2 : Int32) (x3 : Int32) (x4 : Int32) (x5 : Int32) (x6 : Int32) (x7 : Int32), k14 M x1 x2 x3 x4 x5 x6 x7 → sdW l (sdE0 sc) Y_G_mergesLeaves D (sd_tys dA) b n ad L ad (sd_H D (sdE0 sc).1 n ad L) (sd_qi Q) sd_xf 14 [(0, .ref o), (1, .int x1), (2, .int x2), (3, .int x3), (4, .int x4), (5, .int x5), (6, .int x6), (7, .int x7)] [] M 0 0) (M : sdM) (x1 : Int32) (x2 : Int32) (x3 : Int32) (x4 : Int32) (x5 : Int32) (x6 : Int32) (x7 : Int32) (hw : k_G_mergesLeaves_131 o ca ba ru ou tr Q k14 M x1 x2 x3 x4 x5 x6 x7) : sdW l (sdE0 sc) Y_G_mergesLeaves D (sd_tys dA) b n ad L ad (sd_H D (sdE0 sc).1 n ad L) (sd_qi Q) sd_xf 131 [(0, .ref o), (1, .int x1), (2, .int x2), (3, .int x3), (4, .int x4), (5, .int x5), (6, .int x6), (7, .int x7)] [] M 0 0 := by
  unfold k_G_mergesLeaves_131 at hw
  refine x_iinc 7 7 [(7, .int (x7 + 1)), (0, .ref o), (1, .int x1), (2, .int x2), (3, .int x3), (4, .int x4), (5, .int x5), (6, .int x6)] d_G_mergesLeaves_131 rfl (congrArg (HAdd.hAdd x7) (show Int32.ofInt 1 = 1 by decide)) (by decide) rfl ?_
  refine x_goto 14 d_G_mergesLeaves_134 rfl ?_
  refine x_sub [1, 2, 3, 4, 5, 6, 7, 0] [(0, .ref o), (1, .int x1), (2, .int x2), (3, .int x3), (4, .int x4), (5, .int x5), (6, .int x6), (7, .int (x7 + 1))] rfl ?_
  exact hk14 M x1 x2 x3 x4 x5 x6 (x7 + 1) hw
def k_G_mergesLeaves_98 (o : Nat) (ca : Nat) (ba : Nat) (ru : Nat) (ou : Nat) (tr : Nat) (Q : Int32 → sdM → Prop) (k14 : sdM → Int32 → Int32 → Int32 → Int32 → Int32 → Int32 → Int32 → Prop) (M : sdM) (x1 : Int32) (x2 : Int32) (x3 : Int32) (x4 : Int32) (x5 : Int32) (x6 : Int32) (x7 : Int32) : Prop := w_S_copyLeaf ou M x6 x7 ca x3 (fun M12 => k_G_mergesLeaves_131 o ca ba ru ou tr Q k14 M12 x1 x2 x3 x4 x5 x6 x7)
set_option maxHeartbeats 1000000 in
theorem t_G_mergesLeaves_98 {o : Nat} {ca : Nat} {ba : Nat} {ru : Nat} {ou : Nat} {tr : Nat} (hA : sd_ad b n ad) (hT : l.stackTraces = false) (ho : isG n L dA o ca ba ru ou tr) {Q : Int32 → sdM → Prop} {k14 : sdM → Int32 → Int32 → Int32 → Int32 → Int32 → Int32 → Int32 → Prop} (hk14 : ∀ (M : sdM) (x1 : Int32) (x2 : Int32) (x3 : Int32) (x4 : Int32) (x5 : Int32) (x6 : Int32) (x7 : Int32), k14 M x1 x2 x3 x4 x5 x6 x7 → sdW l (sdE0 sc) Y_G_mergesLeaves D (sd_tys dA) b n ad L ad (sd_H D (sdE0 sc).1 n ad L) (sd_qi Q) sd_xf 14 [(0, .ref o), (1, .int x1), (2, .int x2), (3, .int x3), (4, .int x4), (5, .int x5), (6, .int x6), (7, .int x7)] [] M 0 0) (M : sdM) (x1 : Int32) (x2 : Int32) (x3 : Int32) (x4 : Int32) (x5 : Int32) (x6 : Int32) (x7 : Int32) (hw : k_G_mergesLeaves_98 o ca ba ru ou tr Q k14 M x1 x2 x3 x4 x5 x6 x7) : sdW l (sdE0 sc) Y_G_mergesLeaves D (sd_tys dA) b n ad L ad (sd_H D (sdE0 sc).1 n ad L) (sd_qi Q) sd_xf 98 [(0, .ref o), (1, .int x1), (2, .int x2), (3, .int x3), (4, .int x4), (5, .int x5), (6, .int x6), (7, .int x7)] [] M 0 0 := by
  unfold k_G_mergesLeaves_98 at hw
  refine x_aload_n 0 0 d_G_mergesLeaves_98 rfl rfl ?_
  refine x_getr 3 ou d_G_mergesLeaves_99 ho.1 ho.2.1 rfl rfl (by decide) lay_G (List.mem_cons_of_mem _ q100) rfl ?_
  refine x_iload 6 6 d_G_mergesLeaves_102 rfl ?_
  refine x_iload 7 7 d_G_mergesLeaves_104 rfl ?_
  refine x_aload_n 0 0 d_G_mergesLeaves_106 rfl rfl ?_
  refine x_getr 0 ca d_G_mergesLeaves_107 ho.1 ho.2.1 rfl rfl (by decide) lay_G (List.mem_cons_of_mem _ q109) rfl ?_
  refine x_iload_n 3 3 d_G_mergesLeaves_110 rfl rfl ?_
  refine x_callVv (As := [.int x6, .int x7, .ref ca, .int x3]) (t := ou) (rest := []) (rc := 0) (rs := 0) (c_S_copyLeaf hA hT ho.outcome ho.candidate hw) cw_G_mergesLeaves_S_copyLeaf_74 ho.outcome.1 ho.outcome.2.1 rfl d_G_mergesLeaves_111 rfl rfl (Nat.le_of_ble_eq_true rfl) (fun _ _ h => h.elim) (fun _ _ h => h) (fun M12 hw => ?_)
  refine x_goto 131 d_G_mergesLeaves_114 rfl ?_
  exact t_G_mergesLeaves_131 hA hT ho hk14 M12 x1 x2 x3 x4 x5 x6 x7 hw
def h_G_mergesLeaves_14 (o : Nat) (ca : Nat) (ba : Nat) (ru : Nat) (ou : Nat) (tr : Nat) (Q : Int32 → sdM → Prop) : Nat → sdM → Int32 → Int32 → Int32 → Int32 → Int32 → Int32 → Int32 → Prop
  | 0, _, _, _, _, _, _, _, _ => False
  | N + 1, M, x1, x2, x3, x4, x5, x6, x7 => ((4 : Int32) ≤ x7 → sdB (1 : Int32) ∧ Q (1 : Int32) M) ∧ (¬ (4 : Int32) ≤ x7 → w_S_sameLeaf ca M x3 x7 ba x4 (fun r14 M13 => (r14 = 0 → w_S_sameLeaf ru M13 x5 x7 ba x4 (fun r16 M15 => (¬ r16 = 0 → k_G_mergesLeaves_98 o ca ba ru ou tr Q (fun M x1 x2 x3 x4 x5 x6 x7 => h_G_mergesLeaves_14 o ca ba ru ou tr Q N M x1 x2 x3 x4 x5 x6 x7) M15 x1 x2 x3 x4 x5 x6 x7) ∧ (r16 = 0 → w_S_sameLeaf ru M15 x5 x7 ca x3 (fun r18 M17 => (r18 = 0 → w_T_note tr M17 (0 : Int32) x1 x2 x7 (fun M19 => sdB (0 : Int32) ∧ Q (0 : Int32) M19)) ∧ (¬ r18 = 0 → k_G_mergesLeaves_98 o ca ba ru ou tr Q (fun M x1 x2 x3 x4 x5 x6 x7 => h_G_mergesLeaves_14 o ca ba ru ou tr Q N M x1 x2 x3 x4 x5 x6 x7) M17 x1 x2 x3 x4 x5 x6 x7))))) ∧ (¬ r14 = 0 → w_S_copyLeaf ou M13 x6 x7 ru x5 (fun M20 => k_G_mergesLeaves_131 o ca ba ru ou tr Q (fun M x1 x2 x3 x4 x5 x6 x7 => h_G_mergesLeaves_14 o ca ba ru ou tr Q N M x1 x2 x3 x4 x5 x6 x7) M20 x1 x2 x3 x4 x5 x6 x7))))
set_option maxHeartbeats 1000000 in
theorem t_G_mergesLeaves_14 {o : Nat} {ca : Nat} {ba : Nat} {ru : Nat} {ou : Nat} {tr : Nat} (hA : sd_ad b n ad) (hT : l.stackTraces = false) (ho : isG n L dA o ca ba ru ou tr) {Q : Int32 → sdM → Prop} (N : Nat) : ∀ (M : sdM) (x1 : Int32) (x2 : Int32) (x3 : Int32) (x4 : Int32) (x5 : Int32) (x6 : Int32) (x7 : Int32), h_G_mergesLeaves_14 o ca ba ru ou tr Q N M x1 x2 x3 x4 x5 x6 x7 → sdW l (sdE0 sc) Y_G_mergesLeaves D (sd_tys dA) b n ad L ad (sd_H D (sdE0 sc).1 n ad L) (sd_qi Q) sd_xf 14 [(0, .ref o), (1, .int x1), (2, .int x2), (3, .int x3), (4, .int x4), (5, .int x5), (6, .int x6), (7, .int x7)] [] M 0 0 := by
  induction N with
  | zero => intro M x1 x2 x3 x4 x5 x6 x7 hw; exact hw.elim
  | succ N ih =>
    intro M x1 x2 x3 x4 x5 x6 x7 hw
    rw [h_G_mergesLeaves_14] at hw
    refine x_iload 7 7 d_G_mergesLeaves_14 rfl ?_
    refine x_iconst (v := 4) d_G_mergesLeaves_16 (by decide) ?_
    refine x_icmp_ge 137 d_G_mergesLeaves_17 rfl (fun hc => ?_) (fun hc => ?_)
    · have hw := hw.1 hc
      refine x_iconst (v := 1) d_G_mergesLeaves_137 (by decide) ?_
      exact x_zret d_G_mergesLeaves_138 rfl (sdB_n hw.1) (fun _ h => h) ⟨_, rfl, hw.2⟩
    · have hw := hw.2 hc
      refine x_aload_n 0 0 d_G_mergesLeaves_20 rfl rfl ?_
      refine x_getr 0 ca d_G_mergesLeaves_21 ho.1 ho.2.1 rfl rfl (by decide) lay_G (List.mem_cons_of_mem _ q109) rfl ?_
      refine x_iload_n 3 3 d_G_mergesLeaves_24 rfl rfl ?_
      refine x_iload 7 7 d_G_mergesLeaves_25 rfl ?_
      refine x_aload_n 0 0 d_G_mergesLeaves_27 rfl rfl ?_
      refine x_getr 1 ba d_G_mergesLeaves_28 ho.1 ho.2.1 rfl rfl (by decide) lay_G (List.mem_cons_of_mem _ q110) rfl ?_
      refine x_iload 4 4 d_G_mergesLeaves_31 rfl ?_
      refine x_callVi (As := [.int x3, .int x7, .ref ba, .int x4]) (t := ca) (rest := []) (rc := 0) (rs := 0) (c_S_sameLeaf hA hT ho.candidate ho.base hw) cw_G_mergesLeaves_S_sameLeaf_77 ho.candidate.1 ho.candidate.2.1 rfl d_G_mergesLeaves_33 rfl rfl (Nat.le_of_ble_eq_true rfl) (fun _ _ h => h.elim) (fun _ _ h => h) (fun r14 M13 hw => ?_)
      refine x_if_eq 59 d_G_mergesLeaves_36 rfl (fun hc => ?_) (fun hc => ?_)
      · have hw := hw.1 hc
        refine x_aload_n 0 0 d_G_mergesLeaves_59 rfl rfl ?_
        refine x_getr 2 ru d_G_mergesLeaves_60 ho.1 ho.2.1 rfl rfl (by decide) lay_G (List.mem_cons_of_mem _ q111) rfl ?_
        refine x_iload 5 5 d_G_mergesLeaves_63 rfl ?_
        refine x_iload 7 7 d_G_mergesLeaves_65 rfl ?_
        refine x_aload_n 0 0 d_G_mergesLeaves_67 rfl rfl ?_
        refine x_getr 1 ba d_G_mergesLeaves_68 ho.1 ho.2.1 rfl rfl (by decide) lay_G (List.mem_cons_of_mem _ q110) rfl ?_
        refine x_iload 4 4 d_G_mergesLeaves_71 rfl ?_
        refine x_callVi (As := [.int x5, .int x7, .ref ba, .int x4]) (t := ru) (rest := []) (rc := 0) (rs := 0) (c_S_sameLeaf hA hT ho.running ho.base hw) cw_G_mergesLeaves_S_sameLeaf_77 ho.running.1 ho.running.2.1 rfl d_G_mergesLeaves_73 rfl rfl (Nat.le_of_ble_eq_true rfl) (fun _ _ h => h.elim) (fun _ _ h => h) (fun r16 M15 hw => ?_)
        refine x_if_ne 98 d_G_mergesLeaves_76 rfl (fun hc => ?_) (fun hc => ?_)
        · have hw := hw.1 hc
          exact t_G_mergesLeaves_98 hA hT ho (fun M x1 x2 x3 x4 x5 x6 x7  hw => ih M x1 x2 x3 x4 x5 x6 x7 hw) M15 x1 x2 x3 x4 x5 x6 x7 hw
        · have hw := hw.2 hc
          refine x_aload_n 0 0 d_G_mergesLeaves_79 rfl rfl ?_
          refine x_getr 2 ru d_G_mergesLeaves_80 ho.1 ho.2.1 rfl rfl (by decide) lay_G (List.mem_cons_of_mem _ q111) rfl ?_
          refine x_iload 5 5 d_G_mergesLeaves_83 rfl ?_
          refine x_iload 7 7 d_G_mergesLeaves_85 rfl ?_
          refine x_aload_n 0 0 d_G_mergesLeaves_87 rfl rfl ?_
          refine x_getr 0 ca d_G_mergesLeaves_88 ho.1 ho.2.1 rfl rfl (by decide) lay_G (List.mem_cons_of_mem _ q109) rfl ?_
          refine x_iload_n 3 3 d_G_mergesLeaves_91 rfl rfl ?_
          refine x_callVi (As := [.int x5, .int x7, .ref ca, .int x3]) (t := ru) (rest := []) (rc := 0) (rs := 0) (c_S_sameLeaf hA hT ho.running ho.candidate hw) cw_G_mergesLeaves_S_sameLeaf_77 ho.running.1 ho.running.2.1 rfl d_G_mergesLeaves_92 rfl rfl (Nat.le_of_ble_eq_true rfl) (fun _ _ h => h.elim) (fun _ _ h => h) (fun r18 M17 hw => ?_)
          refine x_if_eq 117 d_G_mergesLeaves_95 rfl (fun hc => ?_) (fun hc => ?_)
          · have hw := hw.1 hc
            refine x_aload_n 0 0 d_G_mergesLeaves_117 rfl rfl ?_
            refine x_getr 4 tr d_G_mergesLeaves_118 ho.1 ho.2.1 rfl rfl (by decide) lay_G (List.mem_cons_of_mem _ q112) rfl ?_
            refine x_iconst (v := 0) d_G_mergesLeaves_121 (by decide) ?_
            refine x_iload_n 1 1 d_G_mergesLeaves_122 rfl rfl ?_
            refine x_iload_n 2 2 d_G_mergesLeaves_123 rfl rfl ?_
            refine x_iload 7 7 d_G_mergesLeaves_124 rfl ?_
            refine x_callVv (As := [.int (0 : Int32), .int x1, .int x2, .int x7]) (t := tr) (rest := []) (rc := 0) (rs := 0) (c_T_note hA hT ho.trouble hw) cw_G_mergesLeaves_T_note_61 ho.trouble.1 ho.trouble.2 rfl d_G_mergesLeaves_126 rfl rfl (Nat.le_of_ble_eq_true rfl) (fun _ _ h => h.elim) (fun _ _ h => h) (fun M19 hw => ?_)
            refine x_iconst (v := 0) d_G_mergesLeaves_129 (by decide) ?_
            exact x_zret d_G_mergesLeaves_130 rfl (sdB_n hw.1) (fun _ h => h) ⟨_, rfl, hw.2⟩
          · have hw := hw.2 hc
            exact t_G_mergesLeaves_98 hA hT ho (fun M x1 x2 x3 x4 x5 x6 x7  hw => ih M x1 x2 x3 x4 x5 x6 x7 hw) M17 x1 x2 x3 x4 x5 x6 x7 hw
      · have hw := hw.2 hc
        refine x_aload_n 0 0 d_G_mergesLeaves_39 rfl rfl ?_
        refine x_getr 3 ou d_G_mergesLeaves_40 ho.1 ho.2.1 rfl rfl (by decide) lay_G (List.mem_cons_of_mem _ q100) rfl ?_
        refine x_iload 6 6 d_G_mergesLeaves_43 rfl ?_
        refine x_iload 7 7 d_G_mergesLeaves_45 rfl ?_
        refine x_aload_n 0 0 d_G_mergesLeaves_47 rfl rfl ?_
        refine x_getr 2 ru d_G_mergesLeaves_48 ho.1 ho.2.1 rfl rfl (by decide) lay_G (List.mem_cons_of_mem _ q111) rfl ?_
        refine x_iload 5 5 d_G_mergesLeaves_51 rfl ?_
        refine x_callVv (As := [.int x6, .int x7, .ref ru, .int x5]) (t := ou) (rest := []) (rc := 0) (rs := 0) (c_S_copyLeaf hA hT ho.outcome ho.running hw) cw_G_mergesLeaves_S_copyLeaf_74 ho.outcome.1 ho.outcome.2.1 rfl d_G_mergesLeaves_53 rfl rfl (Nat.le_of_ble_eq_true rfl) (fun _ _ h => h.elim) (fun _ _ h => h) (fun M20 hw => ?_)
        refine x_goto 131 d_G_mergesLeaves_56 rfl ?_
        exact t_G_mergesLeaves_131 hA hT ho (fun M x1 x2 x3 x4 x5 x6 x7  hw => ih M x1 x2 x3 x4 x5 x6 x7 hw) M20 x1 x2 x3 x4 x5 x6 x7 hw
def w_G_mergesLeaves (o : Nat) (ca : Nat) (ba : Nat) (ru : Nat) (ou : Nat) (tr : Nat) (M : sdM) (a1 : Int32) (a2 : Int32) (a3 : Int32) (a4 : Int32) (a5 : Int32) (Q : Int32 → sdM → Prop) : Prop := w_S_addEntry ou M a1 a2 (fun r22 M21 => ∃ N9 : Nat, h_G_mergesLeaves_14 o ca ba ru ou tr Q N9 M21 a1 a2 a3 a4 a5 r22 (0 : Int32))
set_option maxHeartbeats 1000000 in
theorem c_G_mergesLeaves {a1 : Int32} {a2 : Int32} {a3 : Int32} {a4 : Int32} {a5 : Int32} {o : Nat} {ca : Nat} {ba : Nat} {ru : Nat} {ou : Nat} {tr : Nat} (hA : sd_ad b n ad) (hT : l.stackTraces = false) (ho : isG n L dA o ca ba ru ou tr) {Q : Int32 → sdM → Prop} {M : sdM} (hw : w_G_mergesLeaves o ca ba ru ou tr M a1 a2 a3 a4 a5 Q) : sd_Cn l (sdE0 sc) y_G_mergesLeaves Y_G_mergesLeaves.2.2.2.2.1 Y_G_mergesLeaves.2.2.2.2.2.1 0 0 D (sd_tys dA) b n ad L M [.ref o, .int a1, .int a2, .int a3, .int a4, .int a5] (sd_qi Q) sd_xf := by
  refine sd_enter (Y := Y_G_mergesLeaves) rfl rfl rfl (Nat.le_of_ble_eq_true rfl) ?_
  show sdW l (sdE0 sc) Y_G_mergesLeaves D (sd_tys dA) b n ad L ad (sd_H D (sdE0 sc).1 n ad L) (sd_qi Q) sd_xf 0 [(0, .ref o), (1, .int a1), (2, .int a2), (3, .int a3), (4, .int a4), (5, .int a5)] [] M 0 0
  unfold w_G_mergesLeaves at hw
  refine x_aload_n 0 0 d_G_mergesLeaves_0 rfl rfl ?_
  refine x_getr 3 ou d_G_mergesLeaves_1 ho.1 ho.2.1 rfl rfl (by decide) lay_G (List.mem_cons_of_mem _ q100) rfl ?_
  refine x_iload_n 1 1 d_G_mergesLeaves_4 rfl rfl ?_
  refine x_iload_n 2 2 d_G_mergesLeaves_5 rfl rfl ?_
  refine x_callVi (As := [.int a1, .int a2]) (t := ou) (rest := []) (rc := 0) (rs := 0) (c_S_addEntry hA hT ho.outcome hw) cw_G_mergesLeaves_S_addEntry_71 ho.outcome.1 ho.outcome.2.1 rfl d_G_mergesLeaves_6 rfl rfl (Nat.le_of_ble_eq_true rfl) (fun _ _ h => h.elim) (fun _ _ h => h) (fun r22 M21 hw => ?_)
  refine x_istore 6 [(6, .int r22), (0, .ref o), (1, .int a1), (2, .int a2), (3, .int a3), (4, .int a4), (5, .int a5)] d_G_mergesLeaves_9 (by decide) rfl ?_
  refine x_iconst (v := 0) d_G_mergesLeaves_11 (by decide) ?_
  refine x_istore 7 [(7, .int (0 : Int32)), (6, .int r22), (0, .ref o), (1, .int a1), (2, .int a2), (3, .int a3), (4, .int a4), (5, .int a5)] d_G_mergesLeaves_12 (by decide) rfl ?_
  refine x_sub [2, 3, 4, 5, 6, 7, 1, 0] [(0, .ref o), (1, .int a1), (2, .int a2), (3, .int a3), (4, .int a4), (5, .int a5), (6, .int r22), (7, .int (0 : Int32))] rfl ?_
  obtain ⟨N9, hw⟩ := hw
  exact t_G_mergesLeaves_14 hA hT ho N9 M21 a1 a2 a3 a4 a5 r22 (0 : Int32) hw
end
theorem q119 : (.methodLink "SettingsDesk$Merge" 49 ⟨"SettingsDesk$Settings", "rowOf", "(II)I"⟩ : Cond) ∈ sdB0 := sd_tb4 20 rfl rfl
theorem q120 : (.code ⟨"SettingsDesk$Settings", "rowOf", "(II)I"⟩ prog_9_method_6_code 4 (some .int) : Cond) ∈ sdB0 := sd_tb3 56 rfl rfl
theorem q121 : (.instanceMethod ⟨"SettingsDesk$Settings", "rowOf", "(II)I"⟩ : Cond) ∈ sdB0 := sd_tb3 54 rfl rfl
theorem q122 : (.selects "SettingsDesk$Settings" ⟨"SettingsDesk$Settings", "rowOf", "(II)I"⟩ ⟨"SettingsDesk$Settings", "rowOf", "(II)I"⟩ : Cond) ∈ sdB0 := sd_tb3 55 rfl rfl
theorem q123 : (.methodLink "SettingsDesk$Merge" 53 ⟨"SettingsDesk$Settings", "sameEntry", "(ILSettingsDesk$Settings;I)Z"⟩ : Cond) ∈ sdB0 := sd_tb4 21 rfl rfl
theorem q124 : (.methodLink "SettingsDesk$Merge" 67 ⟨"SettingsDesk$Merge", "mergesLeaves", "(IIIII)Z"⟩ : Cond) ∈ sdB0 := sd_tb4 33 rfl rfl
theorem q125 : (.code ⟨"SettingsDesk$Merge", "mergesLeaves", "(IIIII)Z"⟩ prog_5_method_6_code 8 (some .boolean) : Cond) ∈ sdB0 := sd_tb4 36 rfl rfl
theorem q126 : (.instanceMethod ⟨"SettingsDesk$Merge", "mergesLeaves", "(IIIII)Z"⟩ : Cond) ∈ sdB0 := sd_tb4 34 rfl rfl
theorem q127 : (.selects "SettingsDesk$Merge" ⟨"SettingsDesk$Merge", "mergesLeaves", "(IIIII)Z"⟩ ⟨"SettingsDesk$Merge", "mergesLeaves", "(IIIII)Z"⟩ : Cond) ∈ sdB0 := sd_tb4 35 rfl rfl
theorem q128 : (.initialized "SettingsDesk$Merge" : Cond) ∈ sdB0 := sd_tb1 18 rfl rfl
theorem q129 : (.methodLink "SettingsDesk$Merge" 57 ⟨"SettingsDesk$Merge", "takeEntry", "(IILSettingsDesk$Settings;I)V"⟩ : Cond) ∈ sdB0 := sd_tb4 22 rfl rfl
theorem q130 : (.code ⟨"SettingsDesk$Merge", "takeEntry", "(IILSettingsDesk$Settings;I)V"⟩ prog_5_method_5_code 7 none : Cond) ∈ sdB0 := sd_tb4 25 rfl rfl
theorem q131 : (.instanceMethod ⟨"SettingsDesk$Merge", "takeEntry", "(IILSettingsDesk$Settings;I)V"⟩ : Cond) ∈ sdB0 := sd_tb4 23 rfl rfl
theorem q132 : (.selects "SettingsDesk$Merge" ⟨"SettingsDesk$Merge", "takeEntry", "(IILSettingsDesk$Settings;I)V"⟩ ⟨"SettingsDesk$Merge", "takeEntry", "(IILSettingsDesk$Settings;I)V"⟩ : Cond) ∈ sdB0 := sd_tb4 24 rfl rfl
abbrev y_G_mergesEntry : MethodName := ⟨"SettingsDesk$Merge", "mergesEntry", "(II)Z"⟩
theorem d_G_mergesEntry_0 : decode prog_5_method_4_code 0 = .ok (.aload_n 0, 1) := by decide +kernel
theorem d_G_mergesEntry_1 : decode prog_5_method_4_code 1 = .ok (.getfield 15, 3) := by decide +kernel
theorem d_G_mergesEntry_4 : decode prog_5_method_4_code 4 = .ok (.iload_n 1, 1) := by decide +kernel
theorem d_G_mergesEntry_5 : decode prog_5_method_4_code 5 = .ok (.iload_n 2, 1) := by decide +kernel
theorem d_G_mergesEntry_6 : decode prog_5_method_4_code 6 = .ok (.invokevirtual 49, 3) := by decide +kernel
theorem d_G_mergesEntry_9 : decode prog_5_method_4_code 9 = .ok (.istore_n 3, 1) := by decide +kernel
theorem d_G_mergesEntry_10 : decode prog_5_method_4_code 10 = .ok (.aload_n 0, 1) := by decide +kernel
theorem d_G_mergesEntry_11 : decode prog_5_method_4_code 11 = .ok (.getfield 21, 3) := by decide +kernel
theorem d_G_mergesEntry_14 : decode prog_5_method_4_code 14 = .ok (.iload_n 1, 1) := by decide +kernel
theorem d_G_mergesEntry_15 : decode prog_5_method_4_code 15 = .ok (.iload_n 2, 1) := by decide +kernel
theorem d_G_mergesEntry_16 : decode prog_5_method_4_code 16 = .ok (.invokevirtual 49, 3) := by decide +kernel
theorem d_G_mergesEntry_19 : decode prog_5_method_4_code 19 = .ok (.istore 4, 2) := by decide +kernel
theorem d_G_mergesEntry_21 : decode prog_5_method_4_code 21 = .ok (.aload_n 0, 1) := by decide +kernel
theorem d_G_mergesEntry_22 : decode prog_5_method_4_code 22 = .ok (.getfield 22, 3) := by decide +kernel
theorem d_G_mergesEntry_25 : decode prog_5_method_4_code 25 = .ok (.iload_n 1, 1) := by decide +kernel
theorem d_G_mergesEntry_26 : decode prog_5_method_4_code 26 = .ok (.iload_n 2, 1) := by decide +kernel
theorem d_G_mergesEntry_27 : decode prog_5_method_4_code 27 = .ok (.invokevirtual 49, 3) := by decide +kernel
theorem d_G_mergesEntry_30 : decode prog_5_method_4_code 30 = .ok (.istore 5, 2) := by decide +kernel
theorem d_G_mergesEntry_32 : decode prog_5_method_4_code 32 = .ok (.aload_n 0, 1) := by decide +kernel
theorem d_G_mergesEntry_33 : decode prog_5_method_4_code 33 = .ok (.getfield 15, 3) := by decide +kernel
theorem d_G_mergesEntry_36 : decode prog_5_method_4_code 36 = .ok (.iload_n 3, 1) := by decide +kernel
theorem d_G_mergesEntry_37 : decode prog_5_method_4_code 37 = .ok (.aload_n 0, 1) := by decide +kernel
theorem d_G_mergesEntry_38 : decode prog_5_method_4_code 38 = .ok (.getfield 21, 3) := by decide +kernel
theorem d_G_mergesEntry_41 : decode prog_5_method_4_code 41 = .ok (.iload 4, 2) := by decide +kernel
theorem d_G_mergesEntry_43 : decode prog_5_method_4_code 43 = .ok (.invokevirtual 53, 3) := by decide +kernel
theorem d_G_mergesEntry_46 : decode prog_5_method_4_code 46 = .ok (.ifCond .eq (17), 3) := by decide +kernel
theorem d_G_mergesEntry_49 : decode prog_5_method_4_code 49 = .ok (.aload_n 0, 1) := by decide +kernel
theorem d_G_mergesEntry_50 : decode prog_5_method_4_code 50 = .ok (.iload_n 1, 1) := by decide +kernel
theorem d_G_mergesEntry_51 : decode prog_5_method_4_code 51 = .ok (.iload_n 2, 1) := by decide +kernel
theorem d_G_mergesEntry_52 : decode prog_5_method_4_code 52 = .ok (.aload_n 0, 1) := by decide +kernel
theorem d_G_mergesEntry_53 : decode prog_5_method_4_code 53 = .ok (.getfield 22, 3) := by decide +kernel
theorem d_G_mergesEntry_56 : decode prog_5_method_4_code 56 = .ok (.iload 5, 2) := by decide +kernel
theorem d_G_mergesEntry_58 : decode prog_5_method_4_code 58 = .ok (.invokevirtual 57, 3) := by decide +kernel
theorem d_G_mergesEntry_61 : decode prog_5_method_4_code 61 = .ok (.iconst 1, 1) := by decide +kernel
theorem d_G_mergesEntry_62 : decode prog_5_method_4_code 62 = .ok (.ireturn, 1) := by decide +kernel
theorem d_G_mergesEntry_63 : decode prog_5_method_4_code 63 = .ok (.aload_n 0, 1) := by decide +kernel
theorem d_G_mergesEntry_64 : decode prog_5_method_4_code 64 = .ok (.getfield 22, 3) := by decide +kernel
theorem d_G_mergesEntry_67 : decode prog_5_method_4_code 67 = .ok (.iload 5, 2) := by decide +kernel
theorem d_G_mergesEntry_69 : decode prog_5_method_4_code 69 = .ok (.aload_n 0, 1) := by decide +kernel
theorem d_G_mergesEntry_70 : decode prog_5_method_4_code 70 = .ok (.getfield 21, 3) := by decide +kernel
theorem d_G_mergesEntry_73 : decode prog_5_method_4_code 73 = .ok (.iload 4, 2) := by decide +kernel
theorem d_G_mergesEntry_75 : decode prog_5_method_4_code 75 = .ok (.invokevirtual 53, 3) := by decide +kernel
theorem d_G_mergesEntry_78 : decode prog_5_method_4_code 78 = .ok (.ifCond .eq (16), 3) := by decide +kernel
theorem d_G_mergesEntry_81 : decode prog_5_method_4_code 81 = .ok (.aload_n 0, 1) := by decide +kernel
theorem d_G_mergesEntry_82 : decode prog_5_method_4_code 82 = .ok (.iload_n 1, 1) := by decide +kernel
theorem d_G_mergesEntry_83 : decode prog_5_method_4_code 83 = .ok (.iload_n 2, 1) := by decide +kernel
theorem d_G_mergesEntry_84 : decode prog_5_method_4_code 84 = .ok (.aload_n 0, 1) := by decide +kernel
theorem d_G_mergesEntry_85 : decode prog_5_method_4_code 85 = .ok (.getfield 15, 3) := by decide +kernel
theorem d_G_mergesEntry_88 : decode prog_5_method_4_code 88 = .ok (.iload_n 3, 1) := by decide +kernel
theorem d_G_mergesEntry_89 : decode prog_5_method_4_code 89 = .ok (.invokevirtual 57, 3) := by decide +kernel
theorem d_G_mergesEntry_92 : decode prog_5_method_4_code 92 = .ok (.iconst 1, 1) := by decide +kernel
theorem d_G_mergesEntry_93 : decode prog_5_method_4_code 93 = .ok (.ireturn, 1) := by decide +kernel
theorem d_G_mergesEntry_94 : decode prog_5_method_4_code 94 = .ok (.iload_n 3, 1) := by decide +kernel
theorem d_G_mergesEntry_95 : decode prog_5_method_4_code 95 = .ok (.iconst (-1), 1) := by decide +kernel
theorem d_G_mergesEntry_96 : decode prog_5_method_4_code 96 = .ok (.if_icmp .eq (9), 3) := by decide +kernel
theorem d_G_mergesEntry_99 : decode prog_5_method_4_code 99 = .ok (.iload 5, 2) := by decide +kernel
theorem d_G_mergesEntry_101 : decode prog_5_method_4_code 101 = .ok (.iconst (-1), 1) := by decide +kernel
theorem d_G_mergesEntry_102 : decode prog_5_method_4_code 102 = .ok (.if_icmp .ne (16), 3) := by decide +kernel
theorem d_G_mergesEntry_105 : decode prog_5_method_4_code 105 = .ok (.aload_n 0, 1) := by decide +kernel
theorem d_G_mergesEntry_106 : decode prog_5_method_4_code 106 = .ok (.getfield 28, 3) := by decide +kernel
theorem d_G_mergesEntry_109 : decode prog_5_method_4_code 109 = .ok (.iconst 0, 1) := by decide +kernel
theorem d_G_mergesEntry_110 : decode prog_5_method_4_code 110 = .ok (.iload_n 1, 1) := by decide +kernel
theorem d_G_mergesEntry_111 : decode prog_5_method_4_code 111 = .ok (.iload_n 2, 1) := by decide +kernel
theorem d_G_mergesEntry_112 : decode prog_5_method_4_code 112 = .ok (.iconst (-1), 1) := by decide +kernel
theorem d_G_mergesEntry_113 : decode prog_5_method_4_code 113 = .ok (.invokevirtual 61, 3) := by decide +kernel
theorem d_G_mergesEntry_116 : decode prog_5_method_4_code 116 = .ok (.iconst 0, 1) := by decide +kernel
theorem d_G_mergesEntry_117 : decode prog_5_method_4_code 117 = .ok (.ireturn, 1) := by decide +kernel
theorem d_G_mergesEntry_118 : decode prog_5_method_4_code 118 = .ok (.aload_n 0, 1) := by decide +kernel
theorem d_G_mergesEntry_119 : decode prog_5_method_4_code 119 = .ok (.iload_n 1, 1) := by decide +kernel
theorem d_G_mergesEntry_120 : decode prog_5_method_4_code 120 = .ok (.iload_n 2, 1) := by decide +kernel
theorem d_G_mergesEntry_121 : decode prog_5_method_4_code 121 = .ok (.iload_n 3, 1) := by decide +kernel
theorem d_G_mergesEntry_122 : decode prog_5_method_4_code 122 = .ok (.iload 4, 2) := by decide +kernel
theorem d_G_mergesEntry_124 : decode prog_5_method_4_code 124 = .ok (.iload 5, 2) := by decide +kernel
theorem d_G_mergesEntry_126 : decode prog_5_method_4_code 126 = .ok (.invokevirtual 67, 3) := by decide +kernel
theorem d_G_mergesEntry_129 : decode prog_5_method_4_code 129 = .ok (.ireturn, 1) := by decide +kernel
def Y_G_mergesEntry : sdY := ("SettingsDesk$Merge", prog_5_method_4_code, 6, (some .boolean), .code y_G_mergesEntry prog_5_method_4_code 6 (some .boolean) :: sdB0, { frames := 4, cells := 0, slots := 0, locals := 91 }, 0, 0)
theorem cw_G_mergesEntry_S_rowOf_49 : sd_cwV Y_G_mergesEntry Y_S_rowOf y_S_rowOf 49 2 "SettingsDesk$Settings" := ⟨sd_goodV q119 q121 q122 q7 q120, ⟨_, rfl⟩, ⟨rfl, rfl, rfl, rfl⟩, ⟨rfl, by decide, by decide, by decide +kernel⟩, ⟨by decide, by decide⟩⟩
theorem cw_G_mergesEntry_S_sameEntry_53 : sd_cwV Y_G_mergesEntry Y_S_sameEntry y_S_sameEntry 53 3 "SettingsDesk$Settings" := ⟨sd_goodV q123 q27 q28 q7 q26, ⟨_, rfl⟩, ⟨rfl, rfl, rfl, rfl⟩, ⟨rfl, by decide, by decide, by decide +kernel⟩, ⟨by decide, by decide⟩⟩
theorem cw_G_mergesEntry_G_mergesLeaves_67 : sd_cwV Y_G_mergesEntry Y_G_mergesLeaves y_G_mergesLeaves 67 5 "SettingsDesk$Merge" := ⟨sd_goodV q124 q126 q127 q128 q125, ⟨_, rfl⟩, ⟨rfl, rfl, rfl, rfl⟩, ⟨rfl, by decide, by decide, by decide +kernel⟩, ⟨by decide, by decide⟩⟩
theorem cw_G_mergesEntry_G_takeEntry_57 : sd_cwV Y_G_mergesEntry Y_G_takeEntry y_G_takeEntry 57 4 "SettingsDesk$Merge" := ⟨sd_goodV q129 q131 q132 q128 q130, ⟨_, rfl⟩, ⟨rfl, rfl, rfl, rfl⟩, ⟨rfl, by decide, by decide, by decide +kernel⟩, ⟨by decide, by decide⟩⟩
theorem cw_G_mergesEntry_T_note_61 : sd_cwV Y_G_mergesEntry Y_T_note y_T_note 61 4 "SettingsDesk$Trouble" := ⟨sd_goodV q114 q116 q117 q118 q115, ⟨_, rfl⟩, ⟨rfl, rfl, rfl, rfl⟩, ⟨rfl, by decide, by decide, by decide +kernel⟩, ⟨by decide, by decide⟩⟩
section
variable {l : Launch} {D : va_G} {dA : Nat → ClassId} {b n : Nat} {ad : Nat → Nat} {L : Nat → sdL} {sc : Option (Nat × Nat × (Nat → Int32))}
def k_G_mergesEntry_105 (o : Nat) (ca : Nat) (ba : Nat) (ru : Nat) (ou : Nat) (tr : Nat) (Q : Int32 → sdM → Prop) (M : sdM) (x1 : Int32) (x2 : Int32) : Prop := w_T_note tr M (0 : Int32) x1 x2 (-1 : Int32) (fun M16 => sdB (0 : Int32) ∧ Q (0 : Int32) M16)
set_option maxHeartbeats 1000000 in
theorem t_G_mergesEntry_105 {o : Nat} {ca : Nat} {ba : Nat} {ru : Nat} {ou : Nat} {tr : Nat} (hA : sd_ad b n ad) (hT : l.stackTraces = false) (ho : isG n L dA o ca ba ru ou tr) {Q : Int32 → sdM → Prop} (M : sdM) (x1 : Int32) (x2 : Int32) (hw : k_G_mergesEntry_105 o ca ba ru ou tr Q M x1 x2) : sdW l (sdE0 sc) Y_G_mergesEntry D (sd_tys dA) b n ad L ad (sd_H D (sdE0 sc).1 n ad L) (sd_qi Q) sd_xf 105 [(0, .ref o), (1, .int x1), (2, .int x2)] [] M 0 0 := by
  unfold k_G_mergesEntry_105 at hw
  refine x_aload_n 0 0 d_G_mergesEntry_105 rfl rfl ?_
  refine x_getr 4 tr d_G_mergesEntry_106 ho.1 ho.2.1 rfl rfl (by decide) lay_G (List.mem_cons_of_mem _ q112) rfl ?_
  refine x_iconst (v := 0) d_G_mergesEntry_109 (by decide) ?_
  refine x_iload_n 1 1 d_G_mergesEntry_110 rfl rfl ?_
  refine x_iload_n 2 2 d_G_mergesEntry_111 rfl rfl ?_
  refine x_iconst (v := (-1)) d_G_mergesEntry_112 (by decide) ?_
  refine x_callVv (As := [.int (0 : Int32), .int x1, .int x2, .int (-1 : Int32)]) (t := tr) (rest := []) (rc := 0) (rs := 0) (c_T_note hA hT ho.trouble hw) cw_G_mergesEntry_T_note_61 ho.trouble.1 ho.trouble.2 rfl d_G_mergesEntry_113 rfl rfl (Nat.le_of_ble_eq_true rfl) (fun _ _ h => h.elim) (fun _ _ h => h) (fun M16 hw => ?_)
  refine x_iconst (v := 0) d_G_mergesEntry_116 (by decide) ?_
  exact x_zret d_G_mergesEntry_117 rfl (sdB_n hw.1) (fun _ h => h) ⟨_, rfl, hw.2⟩
def w_G_mergesEntry (o : Nat) (ca : Nat) (ba : Nat) (ru : Nat) (ou : Nat) (tr : Nat) (M : sdM) (a1 : Int32) (a2 : Int32) (Q : Int32 → sdM → Prop) : Prop := w_S_rowOf ca M a1 a2 (fun r18 M17 => w_S_rowOf ba M17 a1 a2 (fun r20 M19 => w_S_rowOf ru M19 a1 a2 (fun r22 M21 => w_S_sameEntry ca M21 r18 ba r20 (fun r24 M23 => (r24 = 0 → w_S_sameEntry ru M23 r22 ba r20 (fun r26 M25 => (r26 = 0 → (r18 = (-1 : Int32) → k_G_mergesEntry_105 o ca ba ru ou tr Q M25 a1 a2) ∧ (¬ r18 = (-1 : Int32) → (¬ r22 = (-1 : Int32) → w_G_mergesLeaves o ca ba ru ou tr M25 a1 a2 r18 r20 r22 (fun r28 M27 => sdB r28 ∧ Q r28 M27)) ∧ (r22 = (-1 : Int32) → k_G_mergesEntry_105 o ca ba ru ou tr Q M25 a1 a2))) ∧ (¬ r26 = 0 → w_G_takeEntry o ca ba ru ou tr M25 a1 a2 ca r18 (fun M29 => sdB (1 : Int32) ∧ Q (1 : Int32) M29)))) ∧ (¬ r24 = 0 → w_G_takeEntry o ca ba ru ou tr M23 a1 a2 ru r22 (fun M30 => sdB (1 : Int32) ∧ Q (1 : Int32) M30))))))
set_option maxHeartbeats 1000000 in
theorem c_G_mergesEntry {a1 : Int32} {a2 : Int32} {o : Nat} {ca : Nat} {ba : Nat} {ru : Nat} {ou : Nat} {tr : Nat} (hA : sd_ad b n ad) (hT : l.stackTraces = false) (ho : isG n L dA o ca ba ru ou tr) {Q : Int32 → sdM → Prop} {M : sdM} (hw : w_G_mergesEntry o ca ba ru ou tr M a1 a2 Q) : sd_Cn l (sdE0 sc) y_G_mergesEntry Y_G_mergesEntry.2.2.2.2.1 Y_G_mergesEntry.2.2.2.2.2.1 0 0 D (sd_tys dA) b n ad L M [.ref o, .int a1, .int a2] (sd_qi Q) sd_xf := by
  refine sd_enter (Y := Y_G_mergesEntry) rfl rfl rfl (Nat.le_of_ble_eq_true rfl) ?_
  show sdW l (sdE0 sc) Y_G_mergesEntry D (sd_tys dA) b n ad L ad (sd_H D (sdE0 sc).1 n ad L) (sd_qi Q) sd_xf 0 [(0, .ref o), (1, .int a1), (2, .int a2)] [] M 0 0
  unfold w_G_mergesEntry at hw
  refine x_aload_n 0 0 d_G_mergesEntry_0 rfl rfl ?_
  refine x_getr 0 ca d_G_mergesEntry_1 ho.1 ho.2.1 rfl rfl (by decide) lay_G (List.mem_cons_of_mem _ q109) rfl ?_
  refine x_iload_n 1 1 d_G_mergesEntry_4 rfl rfl ?_
  refine x_iload_n 2 2 d_G_mergesEntry_5 rfl rfl ?_
  refine x_callVi (As := [.int a1, .int a2]) (t := ca) (rest := []) (rc := 0) (rs := 0) (c_S_rowOf hA hT ho.candidate hw) cw_G_mergesEntry_S_rowOf_49 ho.candidate.1 ho.candidate.2.1 rfl d_G_mergesEntry_6 rfl rfl (Nat.le_of_ble_eq_true rfl) (fun _ _ h => h.elim) (fun _ _ h => h) (fun r18 M17 hw => ?_)
  refine x_istore_n 3 [(3, .int r18), (0, .ref o), (1, .int a1), (2, .int a2)] d_G_mergesEntry_9 rfl (by decide) rfl ?_
  refine x_aload_n 0 1 d_G_mergesEntry_10 rfl rfl ?_
  refine x_getr 1 ba d_G_mergesEntry_11 ho.1 ho.2.1 rfl rfl (by decide) lay_G (List.mem_cons_of_mem _ q110) rfl ?_
  refine x_iload_n 1 2 d_G_mergesEntry_14 rfl rfl ?_
  refine x_iload_n 2 3 d_G_mergesEntry_15 rfl rfl ?_
  refine x_callVi (As := [.int a1, .int a2]) (t := ba) (rest := []) (rc := 0) (rs := 0) (c_S_rowOf hA hT ho.base hw) cw_G_mergesEntry_S_rowOf_49 ho.base.1 ho.base.2.1 rfl d_G_mergesEntry_16 rfl rfl (Nat.le_of_ble_eq_true rfl) (fun _ _ h => h.elim) (fun _ _ h => h) (fun r20 M19 hw => ?_)
  refine x_istore 4 [(4, .int r20), (3, .int r18), (0, .ref o), (1, .int a1), (2, .int a2)] d_G_mergesEntry_19 (by decide) rfl ?_
  refine x_aload_n 0 2 d_G_mergesEntry_21 rfl rfl ?_
  refine x_getr 2 ru d_G_mergesEntry_22 ho.1 ho.2.1 rfl rfl (by decide) lay_G (List.mem_cons_of_mem _ q111) rfl ?_
  refine x_iload_n 1 3 d_G_mergesEntry_25 rfl rfl ?_
  refine x_iload_n 2 4 d_G_mergesEntry_26 rfl rfl ?_
  refine x_callVi (As := [.int a1, .int a2]) (t := ru) (rest := []) (rc := 0) (rs := 0) (c_S_rowOf hA hT ho.running hw) cw_G_mergesEntry_S_rowOf_49 ho.running.1 ho.running.2.1 rfl d_G_mergesEntry_27 rfl rfl (Nat.le_of_ble_eq_true rfl) (fun _ _ h => h.elim) (fun _ _ h => h) (fun r22 M21 hw => ?_)
  refine x_istore 5 [(5, .int r22), (4, .int r20), (3, .int r18), (0, .ref o), (1, .int a1), (2, .int a2)] d_G_mergesEntry_30 (by decide) rfl ?_
  refine x_aload_n 0 3 d_G_mergesEntry_32 rfl rfl ?_
  refine x_getr 0 ca d_G_mergesEntry_33 ho.1 ho.2.1 rfl rfl (by decide) lay_G (List.mem_cons_of_mem _ q109) rfl ?_
  refine x_iload_n 3 2 d_G_mergesEntry_36 rfl rfl ?_
  refine x_aload_n 0 3 d_G_mergesEntry_37 rfl rfl ?_
  refine x_getr 1 ba d_G_mergesEntry_38 ho.1 ho.2.1 rfl rfl (by decide) lay_G (List.mem_cons_of_mem _ q110) rfl ?_
  refine x_iload 4 1 d_G_mergesEntry_41 rfl ?_
  refine x_callVi (As := [.int r18, .ref ba, .int r20]) (t := ca) (rest := []) (rc := 0) (rs := 0) (c_S_sameEntry hA hT ho.candidate ho.base hw) cw_G_mergesEntry_S_sameEntry_53 ho.candidate.1 ho.candidate.2.1 rfl d_G_mergesEntry_43 rfl rfl (Nat.le_of_ble_eq_true rfl) (fun _ _ h => h.elim) (fun _ _ h => h) (fun r24 M23 hw => ?_)
  refine x_if_eq 63 d_G_mergesEntry_46 rfl (fun hc => ?_) (fun hc => ?_)
  · have hw := hw.1 hc
    refine x_aload_n 0 3 d_G_mergesEntry_63 rfl rfl ?_
    refine x_getr 2 ru d_G_mergesEntry_64 ho.1 ho.2.1 rfl rfl (by decide) lay_G (List.mem_cons_of_mem _ q111) rfl ?_
    refine x_iload 5 0 d_G_mergesEntry_67 rfl ?_
    refine x_aload_n 0 3 d_G_mergesEntry_69 rfl rfl ?_
    refine x_getr 1 ba d_G_mergesEntry_70 ho.1 ho.2.1 rfl rfl (by decide) lay_G (List.mem_cons_of_mem _ q110) rfl ?_
    refine x_iload 4 1 d_G_mergesEntry_73 rfl ?_
    refine x_callVi (As := [.int r22, .ref ba, .int r20]) (t := ru) (rest := []) (rc := 0) (rs := 0) (c_S_sameEntry hA hT ho.running ho.base hw) cw_G_mergesEntry_S_sameEntry_53 ho.running.1 ho.running.2.1 rfl d_G_mergesEntry_75 rfl rfl (Nat.le_of_ble_eq_true rfl) (fun _ _ h => h.elim) (fun _ _ h => h) (fun r26 M25 hw => ?_)
    refine x_if_eq 94 d_G_mergesEntry_78 rfl (fun hc => ?_) (fun hc => ?_)
    · have hw := hw.1 hc
      refine x_iload_n 3 2 d_G_mergesEntry_94 rfl rfl ?_
      refine x_iconst (v := (-1)) d_G_mergesEntry_95 (by decide) ?_
      refine x_icmp_eq 105 d_G_mergesEntry_96 rfl (fun hc => ?_) (fun hc => ?_)
      · have hw := hw.1 hc
        refine x_sub [3, 4, 5] [(0, .ref o), (1, .int a1), (2, .int a2)] rfl ?_
        exact t_G_mergesEntry_105 hA hT ho M25 a1 a2 hw
      · have hw := hw.2 hc
        refine x_iload 5 0 d_G_mergesEntry_99 rfl ?_
        refine x_iconst (v := (-1)) d_G_mergesEntry_101 (by decide) ?_
        refine x_icmp_ne 118 d_G_mergesEntry_102 rfl (fun hc => ?_) (fun hc => ?_)
        · have hw := hw.1 hc
          refine x_aload_n 0 3 d_G_mergesEntry_118 rfl rfl ?_
          refine x_iload_n 1 4 d_G_mergesEntry_119 rfl rfl ?_
          refine x_iload_n 2 5 d_G_mergesEntry_120 rfl rfl ?_
          refine x_iload_n 3 2 d_G_mergesEntry_121 rfl rfl ?_
          refine x_iload 4 1 d_G_mergesEntry_122 rfl ?_
          refine x_iload 5 0 d_G_mergesEntry_124 rfl ?_
          refine x_callVi (As := [.int a1, .int a2, .int r18, .int r20, .int r22]) (t := o) (rest := []) (rc := 0) (rs := 0) (c_G_mergesLeaves hA hT ho hw) cw_G_mergesEntry_G_mergesLeaves_67 ho.1 ho.2.1 rfl d_G_mergesEntry_126 rfl rfl (Nat.le_of_ble_eq_true rfl) (fun _ _ h => h.elim) (fun _ _ h => h) (fun r28 M27 hw => ?_)
          exact x_zret d_G_mergesEntry_129 rfl (sdB_n hw.1) (fun _ h => h) ⟨_, rfl, hw.2⟩
        · have hw := hw.2 hc
          refine x_sub [3, 4, 5] [(0, .ref o), (1, .int a1), (2, .int a2)] rfl ?_
          exact t_G_mergesEntry_105 hA hT ho M25 a1 a2 hw
    · have hw := hw.2 hc
      refine x_aload_n 0 3 d_G_mergesEntry_81 rfl rfl ?_
      refine x_iload_n 1 4 d_G_mergesEntry_82 rfl rfl ?_
      refine x_iload_n 2 5 d_G_mergesEntry_83 rfl rfl ?_
      refine x_aload_n 0 3 d_G_mergesEntry_84 rfl rfl ?_
      refine x_getr 0 ca d_G_mergesEntry_85 ho.1 ho.2.1 rfl rfl (by decide) lay_G (List.mem_cons_of_mem _ q109) rfl ?_
      refine x_iload_n 3 2 d_G_mergesEntry_88 rfl rfl ?_
      refine x_callVv (As := [.int a1, .int a2, .ref ca, .int r18]) (t := o) (rest := []) (rc := 0) (rs := 0) (c_G_takeEntry hA hT ho ho.candidate hw) cw_G_mergesEntry_G_takeEntry_57 ho.1 ho.2.1 rfl d_G_mergesEntry_89 rfl rfl (Nat.le_of_ble_eq_true rfl) (fun _ _ h => h.elim) (fun _ _ h => h) (fun M29 hw => ?_)
      refine x_iconst (v := 1) d_G_mergesEntry_92 (by decide) ?_
      exact x_zret d_G_mergesEntry_93 rfl (sdB_n hw.1) (fun _ h => h) ⟨_, rfl, hw.2⟩
  · have hw := hw.2 hc
    refine x_aload_n 0 3 d_G_mergesEntry_49 rfl rfl ?_
    refine x_iload_n 1 4 d_G_mergesEntry_50 rfl rfl ?_
    refine x_iload_n 2 5 d_G_mergesEntry_51 rfl rfl ?_
    refine x_aload_n 0 3 d_G_mergesEntry_52 rfl rfl ?_
    refine x_getr 2 ru d_G_mergesEntry_53 ho.1 ho.2.1 rfl rfl (by decide) lay_G (List.mem_cons_of_mem _ q111) rfl ?_
    refine x_iload 5 0 d_G_mergesEntry_56 rfl ?_
    refine x_callVv (As := [.int a1, .int a2, .ref ru, .int r22]) (t := o) (rest := []) (rc := 0) (rs := 0) (c_G_takeEntry hA hT ho ho.running hw) cw_G_mergesEntry_G_takeEntry_57 ho.1 ho.2.1 rfl d_G_mergesEntry_58 rfl rfl (Nat.le_of_ble_eq_true rfl) (fun _ _ h => h.elim) (fun _ _ h => h) (fun M30 hw => ?_)
    refine x_iconst (v := 1) d_G_mergesEntry_61 (by decide) ?_
    exact x_zret d_G_mergesEntry_62 rfl (sdB_n hw.1) (fun _ h => h) ⟨_, rfl, hw.2⟩
end
theorem q133 : (.methodLink "SettingsDesk$Merge" 41 ⟨"SettingsDesk$Settings", "keyAfterInEither", "(LSettingsDesk$Settings;II)I"⟩ : Cond) ∈ sdB0 := sd_tb4 7 rfl rfl
theorem q134 : (.code ⟨"SettingsDesk$Settings", "keyAfterInEither", "(LSettingsDesk$Settings;II)I"⟩ prog_9_method_8_code 4 (some .int) : Cond) ∈ sdB0 := sd_tb4 10 rfl rfl
theorem q135 : (.instanceMethod ⟨"SettingsDesk$Settings", "keyAfterInEither", "(LSettingsDesk$Settings;II)I"⟩ : Cond) ∈ sdB0 := sd_tb4 8 rfl rfl
theorem q136 : (.selects "SettingsDesk$Settings" ⟨"SettingsDesk$Settings", "keyAfterInEither", "(LSettingsDesk$Settings;II)I"⟩ ⟨"SettingsDesk$Settings", "keyAfterInEither", "(LSettingsDesk$Settings;II)I"⟩ : Cond) ∈ sdB0 := sd_tb4 9 rfl rfl
theorem q137 : (.methodLink "SettingsDesk$Merge" 45 ⟨"SettingsDesk$Merge", "mergesEntry", "(II)Z"⟩ : Cond) ∈ sdB0 := sd_tb4 16 rfl rfl
theorem q138 : (.code ⟨"SettingsDesk$Merge", "mergesEntry", "(II)Z"⟩ prog_5_method_4_code 6 (some .boolean) : Cond) ∈ sdB0 := sd_tb4 19 rfl rfl
theorem q139 : (.instanceMethod ⟨"SettingsDesk$Merge", "mergesEntry", "(II)Z"⟩ : Cond) ∈ sdB0 := sd_tb4 17 rfl rfl
theorem q140 : (.selects "SettingsDesk$Merge" ⟨"SettingsDesk$Merge", "mergesEntry", "(II)Z"⟩ ⟨"SettingsDesk$Merge", "mergesEntry", "(II)Z"⟩ : Cond) ∈ sdB0 := sd_tb4 18 rfl rfl
abbrev y_G_mergesList : MethodName := ⟨"SettingsDesk$Merge", "mergesList", "(I)Z"⟩
theorem d_G_mergesList_0 : decode prog_5_method_3_code 0 = .ok (.aload_n 0, 1) := by decide +kernel
theorem d_G_mergesList_1 : decode prog_5_method_3_code 1 = .ok (.getfield 15, 3) := by decide +kernel
theorem d_G_mergesList_4 : decode prog_5_method_3_code 4 = .ok (.aload_n 0, 1) := by decide +kernel
theorem d_G_mergesList_5 : decode prog_5_method_3_code 5 = .ok (.getfield 22, 3) := by decide +kernel
theorem d_G_mergesList_8 : decode prog_5_method_3_code 8 = .ok (.iload_n 1, 1) := by decide +kernel
theorem d_G_mergesList_9 : decode prog_5_method_3_code 9 = .ok (.iconst (-1), 1) := by decide +kernel
theorem d_G_mergesList_10 : decode prog_5_method_3_code 10 = .ok (.invokevirtual 41, 3) := by decide +kernel
theorem d_G_mergesList_13 : decode prog_5_method_3_code 13 = .ok (.istore_n 2, 1) := by decide +kernel
theorem d_G_mergesList_14 : decode prog_5_method_3_code 14 = .ok (.iconst 0, 1) := by decide +kernel
theorem d_G_mergesList_15 : decode prog_5_method_3_code 15 = .ok (.istore_n 3, 1) := by decide +kernel
theorem d_G_mergesList_16 : decode prog_5_method_3_code 16 = .ok (.iload_n 3, 1) := by decide +kernel
theorem d_G_mergesList_17 : decode prog_5_method_3_code 17 = .ok (.bipush (12), 2) := by decide +kernel
theorem d_G_mergesList_19 : decode prog_5_method_3_code 19 = .ok (.if_icmp .ge (40), 3) := by decide +kernel
theorem d_G_mergesList_22 : decode prog_5_method_3_code 22 = .ok (.iload_n 2, 1) := by decide +kernel
theorem d_G_mergesList_23 : decode prog_5_method_3_code 23 = .ok (.bipush (101), 2) := by decide +kernel
theorem d_G_mergesList_25 : decode prog_5_method_3_code 25 = .ok (.if_icmp .eq (34), 3) := by decide +kernel
theorem d_G_mergesList_28 : decode prog_5_method_3_code 28 = .ok (.aload_n 0, 1) := by decide +kernel
theorem d_G_mergesList_29 : decode prog_5_method_3_code 29 = .ok (.iload_n 1, 1) := by decide +kernel
theorem d_G_mergesList_30 : decode prog_5_method_3_code 30 = .ok (.iload_n 2, 1) := by decide +kernel
theorem d_G_mergesList_31 : decode prog_5_method_3_code 31 = .ok (.invokevirtual 45, 3) := by decide +kernel
theorem d_G_mergesList_34 : decode prog_5_method_3_code 34 = .ok (.ifCond .ne (5), 3) := by decide +kernel
theorem d_G_mergesList_37 : decode prog_5_method_3_code 37 = .ok (.iconst 0, 1) := by decide +kernel
theorem d_G_mergesList_38 : decode prog_5_method_3_code 38 = .ok (.ireturn, 1) := by decide +kernel
theorem d_G_mergesList_39 : decode prog_5_method_3_code 39 = .ok (.aload_n 0, 1) := by decide +kernel
theorem d_G_mergesList_40 : decode prog_5_method_3_code 40 = .ok (.getfield 15, 3) := by decide +kernel
theorem d_G_mergesList_43 : decode prog_5_method_3_code 43 = .ok (.aload_n 0, 1) := by decide +kernel
theorem d_G_mergesList_44 : decode prog_5_method_3_code 44 = .ok (.getfield 22, 3) := by decide +kernel
theorem d_G_mergesList_47 : decode prog_5_method_3_code 47 = .ok (.iload_n 1, 1) := by decide +kernel
theorem d_G_mergesList_48 : decode prog_5_method_3_code 48 = .ok (.iload_n 2, 1) := by decide +kernel
theorem d_G_mergesList_49 : decode prog_5_method_3_code 49 = .ok (.invokevirtual 41, 3) := by decide +kernel
theorem d_G_mergesList_52 : decode prog_5_method_3_code 52 = .ok (.istore_n 2, 1) := by decide +kernel
theorem d_G_mergesList_53 : decode prog_5_method_3_code 53 = .ok (.iinc 3 (1), 3) := by decide +kernel
theorem d_G_mergesList_56 : decode prog_5_method_3_code 56 = .ok (.goto (-40), 3) := by decide +kernel
theorem d_G_mergesList_59 : decode prog_5_method_3_code 59 = .ok (.iconst 1, 1) := by decide +kernel
theorem d_G_mergesList_60 : decode prog_5_method_3_code 60 = .ok (.ireturn, 1) := by decide +kernel
def Y_G_mergesList : sdY := ("SettingsDesk$Merge", prog_5_method_3_code, 4, (some .boolean), .code y_G_mergesList prog_5_method_3_code 4 (some .boolean) :: sdB0, { frames := 5, cells := 0, slots := 0, locals := 116 }, 0, 0)
theorem cw_G_mergesList_S_keyAfterInEither_41 : sd_cwV Y_G_mergesList Y_S_keyAfterInEither y_S_keyAfterInEither 41 3 "SettingsDesk$Settings" := ⟨sd_goodV q133 q135 q136 q7 q134, ⟨_, rfl⟩, ⟨rfl, rfl, rfl, rfl⟩, ⟨rfl, by decide, by decide, by decide +kernel⟩, ⟨by decide, by decide⟩⟩
theorem cw_G_mergesList_G_mergesEntry_45 : sd_cwV Y_G_mergesList Y_G_mergesEntry y_G_mergesEntry 45 2 "SettingsDesk$Merge" := ⟨sd_goodV q137 q139 q140 q128 q138, ⟨_, rfl⟩, ⟨rfl, rfl, rfl, rfl⟩, ⟨rfl, by decide, by decide, by decide +kernel⟩, ⟨by decide, by decide⟩⟩
section
variable {l : Launch} {D : va_G} {dA : Nat → ClassId} {b n : Nat} {ad : Nat → Nat} {L : Nat → sdL} {sc : Option (Nat × Nat × (Nat → Int32))}
def k_G_mergesList_59 (o : Nat) (ca : Nat) (ba : Nat) (ru : Nat) (ou : Nat) (tr : Nat) (Q : Int32 → sdM → Prop) (M : sdM) : Prop := sdB (1 : Int32) ∧ Q (1 : Int32) M
set_option maxHeartbeats 1000000 in
theorem t_G_mergesList_59 {o : Nat} {ca : Nat} {ba : Nat} {ru : Nat} {ou : Nat} {tr : Nat} (hA : sd_ad b n ad) (hT : l.stackTraces = false) (ho : isG n L dA o ca ba ru ou tr) {Q : Int32 → sdM → Prop} (M : sdM) (hw : k_G_mergesList_59 o ca ba ru ou tr Q M ) : sdW l (sdE0 sc) Y_G_mergesList D (sd_tys dA) b n ad L ad (sd_H D (sdE0 sc).1 n ad L) (sd_qi Q) sd_xf 59 [] [] M 0 0 := by
  unfold k_G_mergesList_59 at hw
  refine x_iconst (v := 1) d_G_mergesList_59 (by decide) ?_
  exact x_zret d_G_mergesList_60 rfl (sdB_n hw.1) (fun _ h => h) ⟨_, rfl, hw.2⟩
def h_G_mergesList_16 (o : Nat) (ca : Nat) (ba : Nat) (ru : Nat) (ou : Nat) (tr : Nat) (Q : Int32 → sdM → Prop) : Nat → sdM → Int32 → Int32 → Int32 → Prop
  | 0, _, _, _, _ => False
  | N + 1, M, x1, x2, x3 => ((12 : Int32) ≤ x3 → k_G_mergesList_59 o ca ba ru ou tr Q M) ∧ (¬ (12 : Int32) ≤ x3 → (x2 = (101 : Int32) → k_G_mergesList_59 o ca ba ru ou tr Q M) ∧ (¬ x2 = (101 : Int32) → w_G_mergesEntry o ca ba ru ou tr M x1 x2 (fun r8 M7 => (¬ r8 = 0 → w_S_keyAfterInEither ca M7 ru x1 x2 (fun r10 M9 => h_G_mergesList_16 o ca ba ru ou tr Q N M9 x1 r10 (x3 + 1))) ∧ (r8 = 0 → sdB (0 : Int32) ∧ Q (0 : Int32) M7))))
set_option maxHeartbeats 1000000 in
theorem t_G_mergesList_16 {o : Nat} {ca : Nat} {ba : Nat} {ru : Nat} {ou : Nat} {tr : Nat} (hA : sd_ad b n ad) (hT : l.stackTraces = false) (ho : isG n L dA o ca ba ru ou tr) {Q : Int32 → sdM → Prop} (N : Nat) : ∀ (M : sdM) (x1 : Int32) (x2 : Int32) (x3 : Int32), h_G_mergesList_16 o ca ba ru ou tr Q N M x1 x2 x3 → sdW l (sdE0 sc) Y_G_mergesList D (sd_tys dA) b n ad L ad (sd_H D (sdE0 sc).1 n ad L) (sd_qi Q) sd_xf 16 [(0, .ref o), (1, .int x1), (2, .int x2), (3, .int x3)] [] M 0 0 := by
  induction N with
  | zero => intro M x1 x2 x3 hw; exact hw.elim
  | succ N ih =>
    intro M x1 x2 x3 hw
    rw [h_G_mergesList_16] at hw
    refine x_iload_n 3 3 d_G_mergesList_16 rfl rfl ?_
    refine x_bipush (v := 12) d_G_mergesList_17 (by decide) ?_
    refine x_icmp_ge 59 d_G_mergesList_19 rfl (fun hc => ?_) (fun hc => ?_)
    · have hw := hw.1 hc
      refine x_sub [] [] rfl ?_
      exact t_G_mergesList_59 hA hT ho M hw
    · have hw := hw.2 hc
      refine x_iload_n 2 2 d_G_mergesList_22 rfl rfl ?_
      refine x_bipush (v := 101) d_G_mergesList_23 (by decide) ?_
      refine x_icmp_eq 59 d_G_mergesList_25 rfl (fun hc => ?_) (fun hc => ?_)
      · have hw := hw.1 hc
        refine x_sub [] [] rfl ?_
        exact t_G_mergesList_59 hA hT ho M hw
      · have hw := hw.2 hc
        refine x_aload_n 0 0 d_G_mergesList_28 rfl rfl ?_
        refine x_iload_n 1 1 d_G_mergesList_29 rfl rfl ?_
        refine x_iload_n 2 2 d_G_mergesList_30 rfl rfl ?_
        refine x_callVi (As := [.int x1, .int x2]) (t := o) (rest := []) (rc := 0) (rs := 0) (c_G_mergesEntry hA hT ho hw) cw_G_mergesList_G_mergesEntry_45 ho.1 ho.2.1 rfl d_G_mergesList_31 rfl rfl (Nat.le_of_ble_eq_true rfl) (fun _ _ h => h.elim) (fun _ _ h => h) (fun r8 M7 hw => ?_)
        refine x_if_ne 39 d_G_mergesList_34 rfl (fun hc => ?_) (fun hc => ?_)
        · have hw := hw.1 hc
          refine x_aload_n 0 0 d_G_mergesList_39 rfl rfl ?_
          refine x_getr 0 ca d_G_mergesList_40 ho.1 ho.2.1 rfl rfl (by decide) lay_G (List.mem_cons_of_mem _ q109) rfl ?_
          refine x_aload_n 0 0 d_G_mergesList_43 rfl rfl ?_
          refine x_getr 2 ru d_G_mergesList_44 ho.1 ho.2.1 rfl rfl (by decide) lay_G (List.mem_cons_of_mem _ q111) rfl ?_
          refine x_iload_n 1 1 d_G_mergesList_47 rfl rfl ?_
          refine x_iload_n 2 2 d_G_mergesList_48 rfl rfl ?_
          refine x_callVi (As := [.ref ru, .int x1, .int x2]) (t := ca) (rest := []) (rc := 0) (rs := 0) (c_S_keyAfterInEither hA hT ho.candidate ho.running hw) cw_G_mergesList_S_keyAfterInEither_41 ho.candidate.1 ho.candidate.2.1 rfl d_G_mergesList_49 rfl rfl (Nat.le_of_ble_eq_true rfl) (fun _ _ h => h.elim) (fun _ _ h => h) (fun r10 M9 hw => ?_)
          refine x_istore_n 2 [(2, .int r10), (0, .ref o), (1, .int x1), (3, .int x3)] d_G_mergesList_52 rfl (by decide) rfl ?_
          refine x_iinc 3 3 [(3, .int (x3 + 1)), (2, .int r10), (0, .ref o), (1, .int x1)] d_G_mergesList_53 rfl (congrArg (HAdd.hAdd x3) (show Int32.ofInt 1 = 1 by decide)) (by decide) rfl ?_
          refine x_goto 16 d_G_mergesList_56 rfl ?_
          refine x_sub [2, 3, 1, 0] [(0, .ref o), (1, .int x1), (2, .int r10), (3, .int (x3 + 1))] rfl ?_
          exact ih M9 x1 r10 (x3 + 1) hw
        · have hw := hw.2 hc
          refine x_iconst (v := 0) d_G_mergesList_37 (by decide) ?_
          exact x_zret d_G_mergesList_38 rfl (sdB_n hw.1) (fun _ h => h) ⟨_, rfl, hw.2⟩
def w_G_mergesList (o : Nat) (ca : Nat) (ba : Nat) (ru : Nat) (ou : Nat) (tr : Nat) (M : sdM) (a1 : Int32) (Q : Int32 → sdM → Prop) : Prop := w_S_keyAfterInEither ca M ru a1 (-1 : Int32) (fun r12 M11 => ∃ N9 : Nat, h_G_mergesList_16 o ca ba ru ou tr Q N9 M11 a1 r12 (0 : Int32))
set_option maxHeartbeats 1000000 in
theorem c_G_mergesList {a1 : Int32} {o : Nat} {ca : Nat} {ba : Nat} {ru : Nat} {ou : Nat} {tr : Nat} (hA : sd_ad b n ad) (hT : l.stackTraces = false) (ho : isG n L dA o ca ba ru ou tr) {Q : Int32 → sdM → Prop} {M : sdM} (hw : w_G_mergesList o ca ba ru ou tr M a1 Q) : sd_Cn l (sdE0 sc) y_G_mergesList Y_G_mergesList.2.2.2.2.1 Y_G_mergesList.2.2.2.2.2.1 0 0 D (sd_tys dA) b n ad L M [.ref o, .int a1] (sd_qi Q) sd_xf := by
  refine sd_enter (Y := Y_G_mergesList) rfl rfl rfl (Nat.le_of_ble_eq_true rfl) ?_
  show sdW l (sdE0 sc) Y_G_mergesList D (sd_tys dA) b n ad L ad (sd_H D (sdE0 sc).1 n ad L) (sd_qi Q) sd_xf 0 [(0, .ref o), (1, .int a1)] [] M 0 0
  unfold w_G_mergesList at hw
  refine x_aload_n 0 0 d_G_mergesList_0 rfl rfl ?_
  refine x_getr 0 ca d_G_mergesList_1 ho.1 ho.2.1 rfl rfl (by decide) lay_G (List.mem_cons_of_mem _ q109) rfl ?_
  refine x_aload_n 0 0 d_G_mergesList_4 rfl rfl ?_
  refine x_getr 2 ru d_G_mergesList_5 ho.1 ho.2.1 rfl rfl (by decide) lay_G (List.mem_cons_of_mem _ q111) rfl ?_
  refine x_iload_n 1 1 d_G_mergesList_8 rfl rfl ?_
  refine x_iconst (v := (-1)) d_G_mergesList_9 (by decide) ?_
  refine x_callVi (As := [.ref ru, .int a1, .int (-1 : Int32)]) (t := ca) (rest := []) (rc := 0) (rs := 0) (c_S_keyAfterInEither hA hT ho.candidate ho.running hw) cw_G_mergesList_S_keyAfterInEither_41 ho.candidate.1 ho.candidate.2.1 rfl d_G_mergesList_10 rfl rfl (Nat.le_of_ble_eq_true rfl) (fun _ _ h => h.elim) (fun _ _ h => h) (fun r12 M11 hw => ?_)
  refine x_istore_n 2 [(2, .int r12), (0, .ref o), (1, .int a1)] d_G_mergesList_13 rfl (by decide) rfl ?_
  refine x_iconst (v := 0) d_G_mergesList_14 (by decide) ?_
  refine x_istore_n 3 [(3, .int (0 : Int32)), (2, .int r12), (0, .ref o), (1, .int a1)] d_G_mergesList_15 rfl (by decide) rfl ?_
  refine x_sub [2, 3, 1, 0] [(0, .ref o), (1, .int a1), (2, .int r12), (3, .int (0 : Int32))] rfl ?_
  obtain ⟨N9, hw⟩ := hw
  exact t_G_mergesList_16 hA hT ho N9 M11 a1 r12 (0 : Int32) hw
end
theorem q141 : (.methodLink "SettingsDesk$Merge" 32 ⟨"SettingsDesk$Settings", "removeAll", "()V"⟩ : Cond) ∈ sdB0 := sd_tb3 236 rfl rfl
theorem q142 : (.code ⟨"SettingsDesk$Settings", "removeAll", "()V"⟩ prog_9_method_3_code 1 none : Cond) ∈ sdB0 := sd_tb3 239 rfl rfl
theorem q143 : (.instanceMethod ⟨"SettingsDesk$Settings", "removeAll", "()V"⟩ : Cond) ∈ sdB0 := sd_tb3 237 rfl rfl
theorem q144 : (.selects "SettingsDesk$Settings" ⟨"SettingsDesk$Settings", "removeAll", "()V"⟩ ⟨"SettingsDesk$Settings", "removeAll", "()V"⟩ : Cond) ∈ sdB0 := sd_tb3 238 rfl rfl
theorem q145 : (.methodLink "SettingsDesk$Merge" 37 ⟨"SettingsDesk$Merge", "mergesList", "(I)Z"⟩ : Cond) ∈ sdB0 := sd_tb4 3 rfl rfl
theorem q146 : (.code ⟨"SettingsDesk$Merge", "mergesList", "(I)Z"⟩ prog_5_method_3_code 4 (some .boolean) : Cond) ∈ sdB0 := sd_tb4 6 rfl rfl
theorem q147 : (.instanceMethod ⟨"SettingsDesk$Merge", "mergesList", "(I)Z"⟩ : Cond) ∈ sdB0 := sd_tb4 4 rfl rfl
theorem q148 : (.selects "SettingsDesk$Merge" ⟨"SettingsDesk$Merge", "mergesList", "(I)Z"⟩ ⟨"SettingsDesk$Merge", "mergesList", "(I)Z"⟩ : Cond) ∈ sdB0 := sd_tb4 5 rfl rfl
abbrev y_G_succeeds : MethodName := ⟨"SettingsDesk$Merge", "succeeds", "()Z"⟩
theorem d_G_succeeds_0 : decode prog_5_method_2_code 0 = .ok (.aload_n 0, 1) := by decide +kernel
theorem d_G_succeeds_1 : decode prog_5_method_2_code 1 = .ok (.getfield 25, 3) := by decide +kernel
theorem d_G_succeeds_4 : decode prog_5_method_2_code 4 = .ok (.invokevirtual 32, 3) := by decide +kernel
theorem d_G_succeeds_7 : decode prog_5_method_2_code 7 = .ok (.iconst 0, 1) := by decide +kernel
theorem d_G_succeeds_8 : decode prog_5_method_2_code 8 = .ok (.istore_n 1, 1) := by decide +kernel
theorem d_G_succeeds_9 : decode prog_5_method_2_code 9 = .ok (.iload_n 1, 1) := by decide +kernel
theorem d_G_succeeds_10 : decode prog_5_method_2_code 10 = .ok (.iconst 4, 1) := by decide +kernel
theorem d_G_succeeds_11 : decode prog_5_method_2_code 11 = .ok (.if_icmp .ge (19), 3) := by decide +kernel
theorem d_G_succeeds_14 : decode prog_5_method_2_code 14 = .ok (.aload_n 0, 1) := by decide +kernel
theorem d_G_succeeds_15 : decode prog_5_method_2_code 15 = .ok (.iload_n 1, 1) := by decide +kernel
theorem d_G_succeeds_16 : decode prog_5_method_2_code 16 = .ok (.invokevirtual 37, 3) := by decide +kernel
theorem d_G_succeeds_19 : decode prog_5_method_2_code 19 = .ok (.ifCond .ne (5), 3) := by decide +kernel
theorem d_G_succeeds_22 : decode prog_5_method_2_code 22 = .ok (.iconst 0, 1) := by decide +kernel
theorem d_G_succeeds_23 : decode prog_5_method_2_code 23 = .ok (.ireturn, 1) := by decide +kernel
theorem d_G_succeeds_24 : decode prog_5_method_2_code 24 = .ok (.iinc 1 (1), 3) := by decide +kernel
theorem d_G_succeeds_27 : decode prog_5_method_2_code 27 = .ok (.goto (-18), 3) := by decide +kernel
theorem d_G_succeeds_30 : decode prog_5_method_2_code 30 = .ok (.iconst 1, 1) := by decide +kernel
theorem d_G_succeeds_31 : decode prog_5_method_2_code 31 = .ok (.ireturn, 1) := by decide +kernel
def Y_G_succeeds : sdY := ("SettingsDesk$Merge", prog_5_method_2_code, 2, (some .boolean), .code y_G_succeeds prog_5_method_2_code 2 (some .boolean) :: sdB0, { frames := 6, cells := 0, slots := 0, locals := 139 }, 0, 0)
theorem cw_G_succeeds_S_removeAll_32 : sd_cwV Y_G_succeeds Y_S_removeAll y_S_removeAll 32 0 "SettingsDesk$Settings" := ⟨sd_goodV q141 q143 q144 q7 q142, ⟨_, rfl⟩, ⟨rfl, rfl, rfl, rfl⟩, ⟨rfl, by decide, by decide, by decide +kernel⟩, ⟨by decide, by decide⟩⟩
theorem cw_G_succeeds_G_mergesList_37 : sd_cwV Y_G_succeeds Y_G_mergesList y_G_mergesList 37 1 "SettingsDesk$Merge" := ⟨sd_goodV q145 q147 q148 q128 q146, ⟨_, rfl⟩, ⟨rfl, rfl, rfl, rfl⟩, ⟨rfl, by decide, by decide, by decide +kernel⟩, ⟨by decide, by decide⟩⟩
section
variable {l : Launch} {D : va_G} {dA : Nat → ClassId} {b n : Nat} {ad : Nat → Nat} {L : Nat → sdL} {sc : Option (Nat × Nat × (Nat → Int32))}
def h_G_succeeds_9 (o : Nat) (ca : Nat) (ba : Nat) (ru : Nat) (ou : Nat) (tr : Nat) (Q : Int32 → sdM → Prop) : Nat → sdM → Int32 → Prop
  | 0, _, _ => False
  | N + 1, M, x1 => ((4 : Int32) ≤ x1 → sdB (1 : Int32) ∧ Q (1 : Int32) M) ∧ (¬ (4 : Int32) ≤ x1 → w_G_mergesList o ca ba ru ou tr M x1 (fun r5 M4 => (¬ r5 = 0 → h_G_succeeds_9 o ca ba ru ou tr Q N M4 (x1 + 1)) ∧ (r5 = 0 → sdB (0 : Int32) ∧ Q (0 : Int32) M4)))
set_option maxHeartbeats 1000000 in
theorem t_G_succeeds_9 {o : Nat} {ca : Nat} {ba : Nat} {ru : Nat} {ou : Nat} {tr : Nat} (hA : sd_ad b n ad) (hT : l.stackTraces = false) (ho : isG n L dA o ca ba ru ou tr) {Q : Int32 → sdM → Prop} (N : Nat) : ∀ (M : sdM) (x1 : Int32), h_G_succeeds_9 o ca ba ru ou tr Q N M x1 → sdW l (sdE0 sc) Y_G_succeeds D (sd_tys dA) b n ad L ad (sd_H D (sdE0 sc).1 n ad L) (sd_qi Q) sd_xf 9 [(0, .ref o), (1, .int x1)] [] M 0 0 := by
  induction N with
  | zero => intro M x1 hw; exact hw.elim
  | succ N ih =>
    intro M x1 hw
    rw [h_G_succeeds_9] at hw
    refine x_iload_n 1 1 d_G_succeeds_9 rfl rfl ?_
    refine x_iconst (v := 4) d_G_succeeds_10 (by decide) ?_
    refine x_icmp_ge 30 d_G_succeeds_11 rfl (fun hc => ?_) (fun hc => ?_)
    · have hw := hw.1 hc
      refine x_iconst (v := 1) d_G_succeeds_30 (by decide) ?_
      exact x_zret d_G_succeeds_31 rfl (sdB_n hw.1) (fun _ h => h) ⟨_, rfl, hw.2⟩
    · have hw := hw.2 hc
      refine x_aload_n 0 0 d_G_succeeds_14 rfl rfl ?_
      refine x_iload_n 1 1 d_G_succeeds_15 rfl rfl ?_
      refine x_callVi (As := [.int x1]) (t := o) (rest := []) (rc := 0) (rs := 0) (c_G_mergesList hA hT ho hw) cw_G_succeeds_G_mergesList_37 ho.1 ho.2.1 rfl d_G_succeeds_16 rfl rfl (Nat.le_of_ble_eq_true rfl) (fun _ _ h => h.elim) (fun _ _ h => h) (fun r5 M4 hw => ?_)
      refine x_if_ne 24 d_G_succeeds_19 rfl (fun hc => ?_) (fun hc => ?_)
      · have hw := hw.1 hc
        refine x_iinc 1 1 [(1, .int (x1 + 1)), (0, .ref o)] d_G_succeeds_24 rfl (congrArg (HAdd.hAdd x1) (show Int32.ofInt 1 = 1 by decide)) (by decide) rfl ?_
        refine x_goto 9 d_G_succeeds_27 rfl ?_
        refine x_sub [1, 0] [(0, .ref o), (1, .int (x1 + 1))] rfl ?_
        exact ih M4 (x1 + 1) hw
      · have hw := hw.2 hc
        refine x_iconst (v := 0) d_G_succeeds_22 (by decide) ?_
        exact x_zret d_G_succeeds_23 rfl (sdB_n hw.1) (fun _ h => h) ⟨_, rfl, hw.2⟩
def w_G_succeeds (o : Nat) (ca : Nat) (ba : Nat) (ru : Nat) (ou : Nat) (tr : Nat) (M : sdM) (Q : Int32 → sdM → Prop) : Prop := w_S_removeAll ou M (fun M6 => ∃ N9 : Nat, h_G_succeeds_9 o ca ba ru ou tr Q N9 M6 (0 : Int32))
set_option maxHeartbeats 1000000 in
theorem c_G_succeeds {o : Nat} {ca : Nat} {ba : Nat} {ru : Nat} {ou : Nat} {tr : Nat} (hA : sd_ad b n ad) (hT : l.stackTraces = false) (ho : isG n L dA o ca ba ru ou tr) {Q : Int32 → sdM → Prop} {M : sdM} (hw : w_G_succeeds o ca ba ru ou tr M Q) : sd_Cn l (sdE0 sc) y_G_succeeds Y_G_succeeds.2.2.2.2.1 Y_G_succeeds.2.2.2.2.2.1 0 0 D (sd_tys dA) b n ad L M [.ref o] (sd_qi Q) sd_xf := by
  refine sd_enter (Y := Y_G_succeeds) rfl rfl rfl (Nat.le_of_ble_eq_true rfl) ?_
  show sdW l (sdE0 sc) Y_G_succeeds D (sd_tys dA) b n ad L ad (sd_H D (sdE0 sc).1 n ad L) (sd_qi Q) sd_xf 0 [(0, .ref o)] [] M 0 0
  unfold w_G_succeeds at hw
  refine x_aload_n 0 0 d_G_succeeds_0 rfl rfl ?_
  refine x_getr 3 ou d_G_succeeds_1 ho.1 ho.2.1 rfl rfl (by decide) lay_G (List.mem_cons_of_mem _ q100) rfl ?_
  refine x_callVv (As := []) (t := ou) (rest := []) (rc := 0) (rs := 0) (c_S_removeAll hA hT ho.outcome hw) cw_G_succeeds_S_removeAll_32 ho.outcome.1 ho.outcome.2.1 rfl d_G_succeeds_4 rfl rfl (Nat.le_of_ble_eq_true rfl) (fun _ _ h => h.elim) (fun _ _ h => h) (fun M6 hw => ?_)
  refine x_iconst (v := 0) d_G_succeeds_7 (by decide) ?_
  refine x_istore_n 1 [(1, .int (0 : Int32)), (0, .ref o)] d_G_succeeds_8 rfl (by decide) rfl ?_
  refine x_sub [1, 0] [(0, .ref o), (1, .int (0 : Int32))] rfl ?_
  obtain ⟨N9, hw⟩ := hw
  exact t_G_succeeds_9 hA hT ho N9 M6 (0 : Int32) hw
end
theorem q149 : (.fieldLink "SettingsDesk$Difference" 35 "SettingsDesk$Difference" "toPass" "I" : Cond) ∈ sdB0 := sd_tb4 79 rfl rfl
theorem q150 : (.fieldLink "SettingsDesk$Difference" 9 "SettingsDesk$Difference" "found" "Z" : Cond) ∈ sdB0 := sd_tb4 80 rfl rfl
theorem q151 : (.fieldLink "SettingsDesk$Difference" 15 "SettingsDesk$Difference" "atList" "I" : Cond) ∈ sdB0 := sd_tb4 81 rfl rfl
theorem q152 : (.fieldLink "SettingsDesk$Difference" 19 "SettingsDesk$Difference" "atKey" "I" : Cond) ∈ sdB0 := sd_tb4 83 rfl rfl
theorem q153 : (.fieldLink "SettingsDesk$Difference" 22 "SettingsDesk$Difference" "atLeaf" "I" : Cond) ∈ sdB0 := sd_tb4 85 rfl rfl
theorem q154 : (.fieldLink "SettingsDesk$Difference" 25 "SettingsDesk$Difference" "kind" "I" : Cond) ∈ sdB0 := sd_tb4 87 rfl rfl
abbrev y_E_pass : MethodName := ⟨"SettingsDesk$Difference", "pass", "(IIII)V"⟩
theorem d_E_pass_0 : decode prog_3_method_5_code 0 = .ok (.aload_n 0, 1) := by decide +kernel
theorem d_E_pass_1 : decode prog_3_method_5_code 1 = .ok (.getfield 35, 3) := by decide +kernel
theorem d_E_pass_4 : decode prog_3_method_5_code 4 = .ok (.ifCond .ne (29), 3) := by decide +kernel
theorem d_E_pass_7 : decode prog_3_method_5_code 7 = .ok (.aload_n 0, 1) := by decide +kernel
theorem d_E_pass_8 : decode prog_3_method_5_code 8 = .ok (.iconst 1, 1) := by decide +kernel
theorem d_E_pass_9 : decode prog_3_method_5_code 9 = .ok (.putfield 9, 3) := by decide +kernel
theorem d_E_pass_12 : decode prog_3_method_5_code 12 = .ok (.aload_n 0, 1) := by decide +kernel
theorem d_E_pass_13 : decode prog_3_method_5_code 13 = .ok (.iload_n 1, 1) := by decide +kernel
theorem d_E_pass_14 : decode prog_3_method_5_code 14 = .ok (.putfield 15, 3) := by decide +kernel
theorem d_E_pass_17 : decode prog_3_method_5_code 17 = .ok (.aload_n 0, 1) := by decide +kernel
theorem d_E_pass_18 : decode prog_3_method_5_code 18 = .ok (.iload_n 2, 1) := by decide +kernel
theorem d_E_pass_19 : decode prog_3_method_5_code 19 = .ok (.putfield 19, 3) := by decide +kernel
theorem d_E_pass_22 : decode prog_3_method_5_code 22 = .ok (.aload_n 0, 1) := by decide +kernel
theorem d_E_pass_23 : decode prog_3_method_5_code 23 = .ok (.iload_n 3, 1) := by decide +kernel
theorem d_E_pass_24 : decode prog_3_method_5_code 24 = .ok (.putfield 22, 3) := by decide +kernel
theorem d_E_pass_27 : decode prog_3_method_5_code 27 = .ok (.aload_n 0, 1) := by decide +kernel
theorem d_E_pass_28 : decode prog_3_method_5_code 28 = .ok (.iload 4, 2) := by decide +kernel
theorem d_E_pass_30 : decode prog_3_method_5_code 30 = .ok (.putfield 25, 3) := by decide +kernel
theorem d_E_pass_33 : decode prog_3_method_5_code 33 = .ok (.aload_n 0, 1) := by decide +kernel
theorem d_E_pass_34 : decode prog_3_method_5_code 34 = .ok (.dup, 1) := by decide +kernel
theorem d_E_pass_35 : decode prog_3_method_5_code 35 = .ok (.getfield 35, 3) := by decide +kernel
theorem d_E_pass_38 : decode prog_3_method_5_code 38 = .ok (.iconst 1, 1) := by decide +kernel
theorem d_E_pass_39 : decode prog_3_method_5_code 39 = .ok (.isub, 1) := by decide +kernel
theorem d_E_pass_40 : decode prog_3_method_5_code 40 = .ok (.putfield 35, 3) := by decide +kernel
theorem d_E_pass_43 : decode prog_3_method_5_code 43 = .ok (.return_, 1) := by decide +kernel
def Y_E_pass : sdY := ("SettingsDesk$Difference", prog_3_method_5_code, 5, none, .code y_E_pass prog_3_method_5_code 5 none :: sdB0, { frames := 0, cells := 0, slots := 0, locals := 0 }, 0, 0)
section
variable {l : Launch} {D : va_G} {dA : Nat → ClassId} {b n : Nat} {ad : Nat → Nat} {L : Nat → sdL} {sc : Option (Nat × Nat × (Nat → Int32))}
def k_E_pass_33 (o : Nat) (ca : Nat) (ru : Nat) (Q : sdM → Prop) (M : sdM) : Prop := ∀ M14 : sdM, M14 = sd_s M o 2 ((M o 2) - (1 : Int32)) → Q M14
set_option maxHeartbeats 1000000 in
theorem t_E_pass_33 {o : Nat} {ca : Nat} {ru : Nat} (hA : sd_ad b n ad) (hT : l.stackTraces = false) (ho : isE n L dA o ca ru) {Q : sdM → Prop} (M : sdM) (hw : k_E_pass_33 o ca ru Q M ) : sdW l (sdE0 sc) Y_E_pass D (sd_tys dA) b n ad L ad (sd_H D (sdE0 sc).1 n ad L) (sd_qv Q) sd_xf 33 [(0, .ref o)] [] M 0 0 := by
  unfold k_E_pass_33 at hw
  refine x_aload_n 0 0 d_E_pass_33 rfl rfl ?_
  refine x_dup d_E_pass_34 rfl ?_
  refine x_geti 2 d_E_pass_35 ho.1 ho.2.1 rfl rfl (by decide) lay_E (List.mem_cons_of_mem _ q149) rfl ?_
  refine x_iconst (v := 1) d_E_pass_38 (by decide) ?_
  refine x_isub d_E_pass_39 ?_
  refine x_puti 2 (ty := .int) hA d_E_pass_40 ho.1 ho.2.1 rfl rfl (by decide) lay_E (List.mem_cons_of_mem _ q149) rfl ty_E ty_E_ok nm_E rfl (by decide +kernel) rfl rfl (fun M14 e15 => ?_)
  have hw := hw M14 e15
  clear e15
  exact x_vret d_E_pass_43 rfl (fun _ h => h) ⟨rfl, hw⟩
def w_E_pass (o : Nat) (ca : Nat) (ru : Nat) (M : sdM) (a1 : Int32) (a2 : Int32) (a3 : Int32) (a4 : Int32) (Q : sdM → Prop) : Prop := (¬ (M o 2) = 0 → k_E_pass_33 o ca ru Q M) ∧ ((M o 2) = 0 → sdB (1 : Int32) ∧ ∀ M16 : sdM, M16 = sd_s M o 3 (1 : Int32) → ∀ M19 : sdM, M19 = sd_s M16 o 4 a1 → ∀ M21 : sdM, M21 = sd_s M19 o 5 a2 → ∀ M23 : sdM, M23 = sd_s M21 o 6 a3 → ∀ M25 : sdM, M25 = sd_s M23 o 7 a4 → k_E_pass_33 o ca ru Q M25)
set_option maxHeartbeats 1000000 in
theorem c_E_pass {a1 : Int32} {a2 : Int32} {a3 : Int32} {a4 : Int32} {o : Nat} {ca : Nat} {ru : Nat} (hA : sd_ad b n ad) (hT : l.stackTraces = false) (ho : isE n L dA o ca ru) {Q : sdM → Prop} {M : sdM} (hw : w_E_pass o ca ru M a1 a2 a3 a4 Q) : sd_Cn l (sdE0 sc) y_E_pass Y_E_pass.2.2.2.2.1 Y_E_pass.2.2.2.2.2.1 0 0 D (sd_tys dA) b n ad L M [.ref o, .int a1, .int a2, .int a3, .int a4] (sd_qv Q) sd_xf := by
  refine sd_enter (Y := Y_E_pass) rfl rfl rfl (Nat.le_of_ble_eq_true rfl) ?_
  show sdW l (sdE0 sc) Y_E_pass D (sd_tys dA) b n ad L ad (sd_H D (sdE0 sc).1 n ad L) (sd_qv Q) sd_xf 0 [(0, .ref o), (1, .int a1), (2, .int a2), (3, .int a3), (4, .int a4)] [] M 0 0
  unfold w_E_pass at hw
  refine x_aload_n 0 0 d_E_pass_0 rfl rfl ?_
  refine x_geti 2 d_E_pass_1 ho.1 ho.2.1 rfl rfl (by decide) lay_E (List.mem_cons_of_mem _ q149) rfl ?_
  refine x_if_ne 33 d_E_pass_4 rfl (fun hc => ?_) (fun hc => ?_)
  · have hw := hw.1 hc
    refine x_sub [0] [(0, .ref o)] rfl ?_
    exact t_E_pass_33 hA hT ho M hw
  · have hw := hw.2 hc
    refine x_aload_n 0 0 d_E_pass_7 rfl rfl ?_
    refine x_iconst (v := 1) d_E_pass_8 (by decide) ?_
    obtain ⟨hb18, hw⟩ := hw
    refine x_puti 3 (ty := .boolean) hA d_E_pass_9 ho.1 ho.2.1 rfl rfl (by decide) lay_E (List.mem_cons_of_mem _ q150) rfl ty_E ty_E_ok nm_E rfl (by decide +kernel) (sdB_n hb18) (sdB_f hb18) (fun M16 e17 => ?_)
    have hw := hw M16 e17
    clear e17
    refine x_aload_n 0 0 d_E_pass_12 rfl rfl ?_
    refine x_iload_n 1 1 d_E_pass_13 rfl rfl ?_
    refine x_puti 4 (ty := .int) hA d_E_pass_14 ho.1 ho.2.1 rfl rfl (by decide) lay_E (List.mem_cons_of_mem _ q151) rfl ty_E ty_E_ok nm_E rfl (by decide +kernel) rfl rfl (fun M19 e20 => ?_)
    have hw := hw M19 e20
    clear e20
    refine x_aload_n 0 0 d_E_pass_17 rfl rfl ?_
    refine x_iload_n 2 2 d_E_pass_18 rfl rfl ?_
    refine x_puti 5 (ty := .int) hA d_E_pass_19 ho.1 ho.2.1 rfl rfl (by decide) lay_E (List.mem_cons_of_mem _ q152) rfl ty_E ty_E_ok nm_E rfl (by decide +kernel) rfl rfl (fun M21 e22 => ?_)
    have hw := hw M21 e22
    clear e22
    refine x_aload_n 0 0 d_E_pass_22 rfl rfl ?_
    refine x_iload_n 3 3 d_E_pass_23 rfl rfl ?_
    refine x_puti 6 (ty := .int) hA d_E_pass_24 ho.1 ho.2.1 rfl rfl (by decide) lay_E (List.mem_cons_of_mem _ q153) rfl ty_E ty_E_ok nm_E rfl (by decide +kernel) rfl rfl (fun M23 e24 => ?_)
    have hw := hw M23 e24
    clear e24
    refine x_aload_n 0 0 d_E_pass_27 rfl rfl ?_
    refine x_iload 4 4 d_E_pass_28 rfl ?_
    refine x_puti 7 (ty := .int) hA d_E_pass_30 ho.1 ho.2.1 rfl rfl (by decide) lay_E (List.mem_cons_of_mem _ q154) rfl ty_E ty_E_ok nm_E rfl (by decide +kernel) rfl rfl (fun M25 e26 => ?_)
    have hw := hw M25 e26
    clear e26
    refine x_sub [0] [(0, .ref o)] rfl ?_
    exact t_E_pass_33 hA hT ho M25 hw
end
theorem q155 : (.fieldLink "SettingsDesk$Difference" 28 "SettingsDesk$Difference" "candidate" "LSettingsDesk$Settings;" : Cond) ∈ sdB0 := sd_tb4 77 rfl rfl
theorem q156 : (.fieldLink "SettingsDesk$Difference" 32 "SettingsDesk$Difference" "running" "LSettingsDesk$Settings;" : Cond) ∈ sdB0 := sd_tb4 78 rfl rfl
theorem q157 : (.methodLink "SettingsDesk$Difference" 52 ⟨"SettingsDesk$Settings", "rowOf", "(II)I"⟩ : Cond) ∈ sdB0 := sd_tb4 119 rfl rfl
theorem q158 : (.methodLink "SettingsDesk$Difference" 56 ⟨"SettingsDesk$Difference", "pass", "(IIII)V"⟩ : Cond) ∈ sdB0 := sd_tb4 120 rfl rfl
theorem q159 : (.code ⟨"SettingsDesk$Difference", "pass", "(IIII)V"⟩ prog_3_method_5_code 5 none : Cond) ∈ sdB0 := sd_tb4 123 rfl rfl
theorem q160 : (.instanceMethod ⟨"SettingsDesk$Difference", "pass", "(IIII)V"⟩ : Cond) ∈ sdB0 := sd_tb4 121 rfl rfl
theorem q161 : (.selects "SettingsDesk$Difference" ⟨"SettingsDesk$Difference", "pass", "(IIII)V"⟩ ⟨"SettingsDesk$Difference", "pass", "(IIII)V"⟩ : Cond) ∈ sdB0 := sd_tb4 122 rfl rfl
theorem q162 : (.initialized "SettingsDesk$Difference" : Cond) ∈ sdB0 := sd_tb1 21 rfl rfl
theorem q163 : (.methodLink "SettingsDesk$Difference" 60 ⟨"SettingsDesk$Settings", "sameLeaf", "(IILSettingsDesk$Settings;I)Z"⟩ : Cond) ∈ sdB0 := sd_tb4 124 rfl rfl
abbrev y_E_passEntry : MethodName := ⟨"SettingsDesk$Difference", "passEntry", "(II)V"⟩
theorem d_E_passEntry_0 : decode prog_3_method_4_code 0 = .ok (.aload_n 0, 1) := by decide +kernel
theorem d_E_passEntry_1 : decode prog_3_method_4_code 1 = .ok (.getfield 28, 3) := by decide +kernel
theorem d_E_passEntry_4 : decode prog_3_method_4_code 4 = .ok (.iload_n 1, 1) := by decide +kernel
theorem d_E_passEntry_5 : decode prog_3_method_4_code 5 = .ok (.iload_n 2, 1) := by decide +kernel
theorem d_E_passEntry_6 : decode prog_3_method_4_code 6 = .ok (.invokevirtual 52, 3) := by decide +kernel
theorem d_E_passEntry_9 : decode prog_3_method_4_code 9 = .ok (.istore_n 3, 1) := by decide +kernel
theorem d_E_passEntry_10 : decode prog_3_method_4_code 10 = .ok (.aload_n 0, 1) := by decide +kernel
theorem d_E_passEntry_11 : decode prog_3_method_4_code 11 = .ok (.getfield 32, 3) := by decide +kernel
theorem d_E_passEntry_14 : decode prog_3_method_4_code 14 = .ok (.iload_n 1, 1) := by decide +kernel
theorem d_E_passEntry_15 : decode prog_3_method_4_code 15 = .ok (.iload_n 2, 1) := by decide +kernel
theorem d_E_passEntry_16 : decode prog_3_method_4_code 16 = .ok (.invokevirtual 52, 3) := by decide +kernel
theorem d_E_passEntry_19 : decode prog_3_method_4_code 19 = .ok (.istore 4, 2) := by decide +kernel
theorem d_E_passEntry_21 : decode prog_3_method_4_code 21 = .ok (.iload_n 3, 1) := by decide +kernel
theorem d_E_passEntry_22 : decode prog_3_method_4_code 22 = .ok (.iconst (-1), 1) := by decide +kernel
theorem d_E_passEntry_23 : decode prog_3_method_4_code 23 = .ok (.if_icmp .ne (12), 3) := by decide +kernel
theorem d_E_passEntry_26 : decode prog_3_method_4_code 26 = .ok (.aload_n 0, 1) := by decide +kernel
theorem d_E_passEntry_27 : decode prog_3_method_4_code 27 = .ok (.iload_n 1, 1) := by decide +kernel
theorem d_E_passEntry_28 : decode prog_3_method_4_code 28 = .ok (.iload_n 2, 1) := by decide +kernel
theorem d_E_passEntry_29 : decode prog_3_method_4_code 29 = .ok (.iconst (-1), 1) := by decide +kernel
theorem d_E_passEntry_30 : decode prog_3_method_4_code 30 = .ok (.iconst 2, 1) := by decide +kernel
theorem d_E_passEntry_31 : decode prog_3_method_4_code 31 = .ok (.invokevirtual 56, 3) := by decide +kernel
theorem d_E_passEntry_34 : decode prog_3_method_4_code 34 = .ok (.return_, 1) := by decide +kernel
theorem d_E_passEntry_35 : decode prog_3_method_4_code 35 = .ok (.iload 4, 2) := by decide +kernel
theorem d_E_passEntry_37 : decode prog_3_method_4_code 37 = .ok (.iconst (-1), 1) := by decide +kernel
theorem d_E_passEntry_38 : decode prog_3_method_4_code 38 = .ok (.if_icmp .ne (11), 3) := by decide +kernel
theorem d_E_passEntry_41 : decode prog_3_method_4_code 41 = .ok (.aload_n 0, 1) := by decide +kernel
theorem d_E_passEntry_42 : decode prog_3_method_4_code 42 = .ok (.iload_n 1, 1) := by decide +kernel
theorem d_E_passEntry_43 : decode prog_3_method_4_code 43 = .ok (.iload_n 2, 1) := by decide +kernel
theorem d_E_passEntry_44 : decode prog_3_method_4_code 44 = .ok (.iconst (-1), 1) := by decide +kernel
theorem d_E_passEntry_45 : decode prog_3_method_4_code 45 = .ok (.iconst 1, 1) := by decide +kernel
theorem d_E_passEntry_46 : decode prog_3_method_4_code 46 = .ok (.invokevirtual 56, 3) := by decide +kernel
theorem d_E_passEntry_49 : decode prog_3_method_4_code 49 = .ok (.iconst 0, 1) := by decide +kernel
theorem d_E_passEntry_50 : decode prog_3_method_4_code 50 = .ok (.istore 5, 2) := by decide +kernel
theorem d_E_passEntry_52 : decode prog_3_method_4_code 52 = .ok (.iload 5, 2) := by decide +kernel
theorem d_E_passEntry_54 : decode prog_3_method_4_code 54 = .ok (.iconst 4, 1) := by decide +kernel
theorem d_E_passEntry_55 : decode prog_3_method_4_code 55 = .ok (.if_icmp .ge (37), 3) := by decide +kernel
theorem d_E_passEntry_58 : decode prog_3_method_4_code 58 = .ok (.aload_n 0, 1) := by decide +kernel
theorem d_E_passEntry_59 : decode prog_3_method_4_code 59 = .ok (.getfield 28, 3) := by decide +kernel
theorem d_E_passEntry_62 : decode prog_3_method_4_code 62 = .ok (.iload_n 3, 1) := by decide +kernel
theorem d_E_passEntry_63 : decode prog_3_method_4_code 63 = .ok (.iload 5, 2) := by decide +kernel
theorem d_E_passEntry_65 : decode prog_3_method_4_code 65 = .ok (.aload_n 0, 1) := by decide +kernel
theorem d_E_passEntry_66 : decode prog_3_method_4_code 66 = .ok (.getfield 32, 3) := by decide +kernel
theorem d_E_passEntry_69 : decode prog_3_method_4_code 69 = .ok (.iload 4, 2) := by decide +kernel
theorem d_E_passEntry_71 : decode prog_3_method_4_code 71 = .ok (.invokevirtual 60, 3) := by decide +kernel
theorem d_E_passEntry_74 : decode prog_3_method_4_code 74 = .ok (.ifCond .ne (12), 3) := by decide +kernel
theorem d_E_passEntry_77 : decode prog_3_method_4_code 77 = .ok (.aload_n 0, 1) := by decide +kernel
theorem d_E_passEntry_78 : decode prog_3_method_4_code 78 = .ok (.iload_n 1, 1) := by decide +kernel
theorem d_E_passEntry_79 : decode prog_3_method_4_code 79 = .ok (.iload_n 2, 1) := by decide +kernel
theorem d_E_passEntry_80 : decode prog_3_method_4_code 80 = .ok (.iload 5, 2) := by decide +kernel
theorem d_E_passEntry_82 : decode prog_3_method_4_code 82 = .ok (.iconst 3, 1) := by decide +kernel
theorem d_E_passEntry_83 : decode prog_3_method_4_code 83 = .ok (.invokevirtual 56, 3) := by decide +kernel
theorem d_E_passEntry_86 : decode prog_3_method_4_code 86 = .ok (.iinc 5 (1), 3) := by decide +kernel
theorem d_E_passEntry_89 : decode prog_3_method_4_code 89 = .ok (.goto (-37), 3) := by decide +kernel
theorem d_E_passEntry_92 : decode prog_3_method_4_code 92 = .ok (.return_, 1) := by decide +kernel
def Y_E_passEntry : sdY := ("SettingsDesk$Difference", prog_3_method_4_code, 6, none, .code y_E_passEntry prog_3_method_4_code 6 none :: sdB0, { frames := 2, cells := 0, slots := 0, locals := 46 }, 0, 0)
theorem cw_E_passEntry_S_rowOf_52 : sd_cwV Y_E_passEntry Y_S_rowOf y_S_rowOf 52 2 "SettingsDesk$Settings" := ⟨sd_goodV q157 q121 q122 q7 q120, ⟨_, rfl⟩, ⟨rfl, rfl, rfl, rfl⟩, ⟨rfl, by decide, by decide, by decide +kernel⟩, ⟨by decide, by decide⟩⟩
theorem cw_E_passEntry_E_pass_56 : sd_cwV Y_E_passEntry Y_E_pass y_E_pass 56 4 "SettingsDesk$Difference" := ⟨sd_goodV q158 q160 q161 q162 q159, ⟨_, rfl⟩, ⟨rfl, rfl, rfl, rfl⟩, ⟨rfl, by decide, by decide, by decide +kernel⟩, ⟨by decide, by decide⟩⟩
theorem cw_E_passEntry_S_sameLeaf_60 : sd_cwV Y_E_passEntry Y_S_sameLeaf y_S_sameLeaf 60 4 "SettingsDesk$Settings" := ⟨sd_goodV q163 q14 q15 q7 q13, ⟨_, rfl⟩, ⟨rfl, rfl, rfl, rfl⟩, ⟨rfl, by decide, by decide, by decide +kernel⟩, ⟨by decide, by decide⟩⟩
section
variable {l : Launch} {D : va_G} {dA : Nat → ClassId} {b n : Nat} {ad : Nat → Nat} {L : Nat → sdL} {sc : Option (Nat × Nat × (Nat → Int32))}
def k_E_passEntry_86 (o : Nat) (ca : Nat) (ru : Nat) (Q : sdM → Prop) (k52 : sdM → Int32 → Int32 → Int32 → Int32 → Int32 → Prop) (M : sdM) (x1 : Int32) (x2 : Int32) (x3 : Int32) (x4 : Int32) (x5 : Int32) : Prop := k52 M x1 x2 x3 x4 (x5 + 1)
set_option maxHeartbeats 1000000 in
theorem t_E_passEntry_86 {o : Nat} {ca : Nat} {ru : Nat} (hA : sd_ad b n ad) (hT : l.stackTraces = false) (ho : isE n L dA o ca ru) {Q : sdM → Prop} {k52 : sdM → Int32 → Int32 → Int32 → Int32 → Int32 → Prop} (hk52 : ∀ (M : sdM) (x1 : Int32) (x2 : Int32) (x3 : Int32) (x4 : Int32) (x5 : Int32), k52 M x1 x2 x3 x4 x5 → sdW l (sdE0 sc) Y_E_passEntry D (sd_tys dA) b n ad L ad (sd_H D (sdE0 sc).1 n ad L) (sd_qv Q) sd_xf 52 [(0, .ref o), (1, .int x1), (2, .int x2), (3, .int x3), (4, .int x4), (5, .int x5)] [] M 0 0) (M : sdM) (x1 : Int32) (x2 : Int32) (x3 : Int32) (x4 : Int32) (x5 : Int32) (hw : k_E_passEntry_86 o ca ru Q k52 M x1 x2 x3 x4 x5) : sdW l (sdE0 sc) Y_E_passEntry D (sd_tys dA) b n ad L ad (sd_H D (sdE0 sc).1 n ad L) (sd_qv Q) sd_xf 86 [(0, .ref o), (1, .int x1), (2, .int x2), (3, .int x3), (4, .int x4), (5, .int x5)] [] M 0 0 := by
  unfold k_E_passEntry_86 at hw
  refine x_iinc 5 5 [(5, .int (x5 + 1)), (0, .ref o), (1, .int x1), (2, .int x2), (3, .int x3), (4, .int x4)] d_E_passEntry_86 rfl (congrArg (HAdd.hAdd x5) (show Int32.ofInt 1 = 1 by decide)) (by decide) rfl ?_
  refine x_goto 52 d_E_passEntry_89 rfl ?_
  refine x_sub [1, 2, 3, 4, 5, 0] [(0, .ref o), (1, .int x1), (2, .int x2), (3, .int x3), (4, .int x4), (5, .int (x5 + 1))] rfl ?_
  exact hk52 M x1 x2 x3 x4 (x5 + 1) hw
def h_E_passEntry_52 (o : Nat) (ca : Nat) (ru : Nat) (Q : sdM → Prop) : Nat → sdM → Int32 → Int32 → Int32 → Int32 → Int32 → Prop
  | 0, _, _, _, _, _, _ => False
  | N + 1, M, x1, x2, x3, x4, x5 => ((4 : Int32) ≤ x5 → Q M) ∧ (¬ (4 : Int32) ≤ x5 → w_S_sameLeaf ca M x3 x5 ru x4 (fun r11 M10 => (¬ r11 = 0 → k_E_passEntry_86 o ca ru Q (fun M x1 x2 x3 x4 x5 => h_E_passEntry_52 o ca ru Q N M x1 x2 x3 x4 x5) M10 x1 x2 x3 x4 x5) ∧ (r11 = 0 → w_E_pass o ca ru M10 x1 x2 x5 (3 : Int32) (fun M12 => k_E_passEntry_86 o ca ru Q (fun M x1 x2 x3 x4 x5 => h_E_passEntry_52 o ca ru Q N M x1 x2 x3 x4 x5) M12 x1 x2 x3 x4 x5))))
set_option maxHeartbeats 1000000 in
theorem t_E_passEntry_52 {o : Nat} {ca : Nat} {ru : Nat} (hA : sd_ad b n ad) (hT : l.stackTraces = false) (ho : isE n L dA o ca ru) {Q : sdM → Prop} (N : Nat) : ∀ (M : sdM) (x1 : Int32) (x2 : Int32) (x3 : Int32) (x4 : Int32) (x5 : Int32), h_E_passEntry_52 o ca ru Q N M x1 x2 x3 x4 x5 → sdW l (sdE0 sc) Y_E_passEntry D (sd_tys dA) b n ad L ad (sd_H D (sdE0 sc).1 n ad L) (sd_qv Q) sd_xf 52 [(0, .ref o), (1, .int x1), (2, .int x2), (3, .int x3), (4, .int x4), (5, .int x5)] [] M 0 0 := by
  induction N with
  | zero => intro M x1 x2 x3 x4 x5 hw; exact hw.elim
  | succ N ih =>
    intro M x1 x2 x3 x4 x5 hw
    rw [h_E_passEntry_52] at hw
    refine x_iload 5 5 d_E_passEntry_52 rfl ?_
    refine x_iconst (v := 4) d_E_passEntry_54 (by decide) ?_
    refine x_icmp_ge 92 d_E_passEntry_55 rfl (fun hc => ?_) (fun hc => ?_)
    · have hw := hw.1 hc
      exact x_vret d_E_passEntry_92 rfl (fun _ h => h) ⟨rfl, hw⟩
    · have hw := hw.2 hc
      refine x_aload_n 0 0 d_E_passEntry_58 rfl rfl ?_
      refine x_getr 0 ca d_E_passEntry_59 ho.1 ho.2.1 rfl rfl (by decide) lay_E (List.mem_cons_of_mem _ q155) rfl ?_
      refine x_iload_n 3 3 d_E_passEntry_62 rfl rfl ?_
      refine x_iload 5 5 d_E_passEntry_63 rfl ?_
      refine x_aload_n 0 0 d_E_passEntry_65 rfl rfl ?_
      refine x_getr 1 ru d_E_passEntry_66 ho.1 ho.2.1 rfl rfl (by decide) lay_E (List.mem_cons_of_mem _ q156) rfl ?_
      refine x_iload 4 4 d_E_passEntry_69 rfl ?_
      refine x_callVi (As := [.int x3, .int x5, .ref ru, .int x4]) (t := ca) (rest := []) (rc := 0) (rs := 0) (c_S_sameLeaf hA hT ho.candidate ho.running hw) cw_E_passEntry_S_sameLeaf_60 ho.candidate.1 ho.candidate.2.1 rfl d_E_passEntry_71 rfl rfl (Nat.le_of_ble_eq_true rfl) (fun _ _ h => h.elim) (fun _ _ h => h) (fun r11 M10 hw => ?_)
      refine x_if_ne 86 d_E_passEntry_74 rfl (fun hc => ?_) (fun hc => ?_)
      · have hw := hw.1 hc
        exact t_E_passEntry_86 hA hT ho (fun M x1 x2 x3 x4 x5  hw => ih M x1 x2 x3 x4 x5 hw) M10 x1 x2 x3 x4 x5 hw
      · have hw := hw.2 hc
        refine x_aload_n 0 0 d_E_passEntry_77 rfl rfl ?_
        refine x_iload_n 1 1 d_E_passEntry_78 rfl rfl ?_
        refine x_iload_n 2 2 d_E_passEntry_79 rfl rfl ?_
        refine x_iload 5 5 d_E_passEntry_80 rfl ?_
        refine x_iconst (v := 3) d_E_passEntry_82 (by decide) ?_
        refine x_callVv (As := [.int x1, .int x2, .int x5, .int (3 : Int32)]) (t := o) (rest := []) (rc := 0) (rs := 0) (c_E_pass hA hT ho hw) cw_E_passEntry_E_pass_56 ho.1 ho.2.1 rfl d_E_passEntry_83 rfl rfl (Nat.le_of_ble_eq_true rfl) (fun _ _ h => h.elim) (fun _ _ h => h) (fun M12 hw => ?_)
        exact t_E_passEntry_86 hA hT ho (fun M x1 x2 x3 x4 x5  hw => ih M x1 x2 x3 x4 x5 hw) M12 x1 x2 x3 x4 x5 hw
def k_E_passEntry_49 (o : Nat) (ca : Nat) (ru : Nat) (Q : sdM → Prop) (M : sdM) (x1 : Int32) (x2 : Int32) (x3 : Int32) (x4 : Int32) : Prop := ∃ N9 : Nat, h_E_passEntry_52 o ca ru Q N9 M x1 x2 x3 x4 (0 : Int32)
set_option maxHeartbeats 1000000 in
theorem t_E_passEntry_49 {o : Nat} {ca : Nat} {ru : Nat} (hA : sd_ad b n ad) (hT : l.stackTraces = false) (ho : isE n L dA o ca ru) {Q : sdM → Prop} (M : sdM) (x1 : Int32) (x2 : Int32) (x3 : Int32) (x4 : Int32) (hw : k_E_passEntry_49 o ca ru Q M x1 x2 x3 x4) : sdW l (sdE0 sc) Y_E_passEntry D (sd_tys dA) b n ad L ad (sd_H D (sdE0 sc).1 n ad L) (sd_qv Q) sd_xf 49 [(0, .ref o), (1, .int x1), (2, .int x2), (3, .int x3), (4, .int x4)] [] M 0 0 := by
  unfold k_E_passEntry_49 at hw
  refine x_iconst (v := 0) d_E_passEntry_49 (by decide) ?_
  refine x_istore 5 [(5, .int (0 : Int32)), (0, .ref o), (1, .int x1), (2, .int x2), (3, .int x3), (4, .int x4)] d_E_passEntry_50 (by decide) rfl ?_
  refine x_sub [1, 2, 3, 4, 5, 0] [(0, .ref o), (1, .int x1), (2, .int x2), (3, .int x3), (4, .int x4), (5, .int (0 : Int32))] rfl ?_
  obtain ⟨N9, hw⟩ := hw
  exact t_E_passEntry_52 hA hT ho N9 M x1 x2 x3 x4 (0 : Int32) hw
def w_E_passEntry (o : Nat) (ca : Nat) (ru : Nat) (M : sdM) (a1 : Int32) (a2 : Int32) (Q : sdM → Prop) : Prop := w_S_rowOf ca M a1 a2 (fun r14 M13 => w_S_rowOf ru M13 a1 a2 (fun r16 M15 => (¬ r14 = (-1 : Int32) → (¬ r16 = (-1 : Int32) → k_E_passEntry_49 o ca ru Q M15 a1 a2 r14 r16) ∧ (r16 = (-1 : Int32) → w_E_pass o ca ru M15 a1 a2 (-1 : Int32) (1 : Int32) (fun M17 => k_E_passEntry_49 o ca ru Q M17 a1 a2 r14 r16))) ∧ (r14 = (-1 : Int32) → w_E_pass o ca ru M15 a1 a2 (-1 : Int32) (2 : Int32) (fun M18 => Q M18))))
set_option maxHeartbeats 1000000 in
theorem c_E_passEntry {a1 : Int32} {a2 : Int32} {o : Nat} {ca : Nat} {ru : Nat} (hA : sd_ad b n ad) (hT : l.stackTraces = false) (ho : isE n L dA o ca ru) {Q : sdM → Prop} {M : sdM} (hw : w_E_passEntry o ca ru M a1 a2 Q) : sd_Cn l (sdE0 sc) y_E_passEntry Y_E_passEntry.2.2.2.2.1 Y_E_passEntry.2.2.2.2.2.1 0 0 D (sd_tys dA) b n ad L M [.ref o, .int a1, .int a2] (sd_qv Q) sd_xf := by
  refine sd_enter (Y := Y_E_passEntry) rfl rfl rfl (Nat.le_of_ble_eq_true rfl) ?_
  show sdW l (sdE0 sc) Y_E_passEntry D (sd_tys dA) b n ad L ad (sd_H D (sdE0 sc).1 n ad L) (sd_qv Q) sd_xf 0 [(0, .ref o), (1, .int a1), (2, .int a2)] [] M 0 0
  unfold w_E_passEntry at hw
  refine x_aload_n 0 0 d_E_passEntry_0 rfl rfl ?_
  refine x_getr 0 ca d_E_passEntry_1 ho.1 ho.2.1 rfl rfl (by decide) lay_E (List.mem_cons_of_mem _ q155) rfl ?_
  refine x_iload_n 1 1 d_E_passEntry_4 rfl rfl ?_
  refine x_iload_n 2 2 d_E_passEntry_5 rfl rfl ?_
  refine x_callVi (As := [.int a1, .int a2]) (t := ca) (rest := []) (rc := 0) (rs := 0) (c_S_rowOf hA hT ho.candidate hw) cw_E_passEntry_S_rowOf_52 ho.candidate.1 ho.candidate.2.1 rfl d_E_passEntry_6 rfl rfl (Nat.le_of_ble_eq_true rfl) (fun _ _ h => h.elim) (fun _ _ h => h) (fun r14 M13 hw => ?_)
  refine x_istore_n 3 [(3, .int r14), (0, .ref o), (1, .int a1), (2, .int a2)] d_E_passEntry_9 rfl (by decide) rfl ?_
  refine x_aload_n 0 1 d_E_passEntry_10 rfl rfl ?_
  refine x_getr 1 ru d_E_passEntry_11 ho.1 ho.2.1 rfl rfl (by decide) lay_E (List.mem_cons_of_mem _ q156) rfl ?_
  refine x_iload_n 1 2 d_E_passEntry_14 rfl rfl ?_
  refine x_iload_n 2 3 d_E_passEntry_15 rfl rfl ?_
  refine x_callVi (As := [.int a1, .int a2]) (t := ru) (rest := []) (rc := 0) (rs := 0) (c_S_rowOf hA hT ho.running hw) cw_E_passEntry_S_rowOf_52 ho.running.1 ho.running.2.1 rfl d_E_passEntry_16 rfl rfl (Nat.le_of_ble_eq_true rfl) (fun _ _ h => h.elim) (fun _ _ h => h) (fun r16 M15 hw => ?_)
  refine x_istore 4 [(4, .int r16), (3, .int r14), (0, .ref o), (1, .int a1), (2, .int a2)] d_E_passEntry_19 (by decide) rfl ?_
  refine x_iload_n 3 1 d_E_passEntry_21 rfl rfl ?_
  refine x_iconst (v := (-1)) d_E_passEntry_22 (by decide) ?_
  refine x_icmp_ne 35 d_E_passEntry_23 rfl (fun hc => ?_) (fun hc => ?_)
  · have hw := hw.1 hc
    refine x_iload 4 0 d_E_passEntry_35 rfl ?_
    refine x_iconst (v := (-1)) d_E_passEntry_37 (by decide) ?_
    refine x_icmp_ne 49 d_E_passEntry_38 rfl (fun hc => ?_) (fun hc => ?_)
    · have hw := hw.1 hc
      refine x_sub [2, 3, 4, 1, 0] [(0, .ref o), (1, .int a1), (2, .int a2), (3, .int r14), (4, .int r16)] rfl ?_
      exact t_E_passEntry_49 hA hT ho M15 a1 a2 r14 r16 hw
    · have hw := hw.2 hc
      refine x_aload_n 0 2 d_E_passEntry_41 rfl rfl ?_
      refine x_iload_n 1 3 d_E_passEntry_42 rfl rfl ?_
      refine x_iload_n 2 4 d_E_passEntry_43 rfl rfl ?_
      refine x_iconst (v := (-1)) d_E_passEntry_44 (by decide) ?_
      refine x_iconst (v := 1) d_E_passEntry_45 (by decide) ?_
      refine x_callVv (As := [.int a1, .int a2, .int (-1 : Int32), .int (1 : Int32)]) (t := o) (rest := []) (rc := 0) (rs := 0) (c_E_pass hA hT ho hw) cw_E_passEntry_E_pass_56 ho.1 ho.2.1 rfl d_E_passEntry_46 rfl rfl (Nat.le_of_ble_eq_true rfl) (fun _ _ h => h.elim) (fun _ _ h => h) (fun M17 hw => ?_)
      refine x_sub [2, 3, 4, 1, 0] [(0, .ref o), (1, .int a1), (2, .int a2), (3, .int r14), (4, .int r16)] rfl ?_
      exact t_E_passEntry_49 hA hT ho M17 a1 a2 r14 r16 hw
  · have hw := hw.2 hc
    refine x_aload_n 0 2 d_E_passEntry_26 rfl rfl ?_
    refine x_iload_n 1 3 d_E_passEntry_27 rfl rfl ?_
    refine x_iload_n 2 4 d_E_passEntry_28 rfl rfl ?_
    refine x_iconst (v := (-1)) d_E_passEntry_29 (by decide) ?_
    refine x_iconst (v := 2) d_E_passEntry_30 (by decide) ?_
    refine x_callVv (As := [.int a1, .int a2, .int (-1 : Int32), .int (2 : Int32)]) (t := o) (rest := []) (rc := 0) (rs := 0) (c_E_pass hA hT ho hw) cw_E_passEntry_E_pass_56 ho.1 ho.2.1 rfl d_E_passEntry_31 rfl rfl (Nat.le_of_ble_eq_true rfl) (fun _ _ h => h.elim) (fun _ _ h => h) (fun M18 hw => ?_)
    exact x_vret d_E_passEntry_34 rfl (fun _ h => h) ⟨rfl, hw⟩
end
theorem q164 : (.methodLink "SettingsDesk$Difference" 42 ⟨"SettingsDesk$Settings", "keyAfterInEither", "(LSettingsDesk$Settings;II)I"⟩ : Cond) ∈ sdB0 := sd_tb4 114 rfl rfl
theorem q165 : (.methodLink "SettingsDesk$Difference" 48 ⟨"SettingsDesk$Difference", "passEntry", "(II)V"⟩ : Cond) ∈ sdB0 := sd_tb4 115 rfl rfl
theorem q166 : (.code ⟨"SettingsDesk$Difference", "passEntry", "(II)V"⟩ prog_3_method_4_code 6 none : Cond) ∈ sdB0 := sd_tb4 118 rfl rfl
theorem q167 : (.instanceMethod ⟨"SettingsDesk$Difference", "passEntry", "(II)V"⟩ : Cond) ∈ sdB0 := sd_tb4 116 rfl rfl
theorem q168 : (.selects "SettingsDesk$Difference" ⟨"SettingsDesk$Difference", "passEntry", "(II)V"⟩ ⟨"SettingsDesk$Difference", "passEntry", "(II)V"⟩ : Cond) ∈ sdB0 := sd_tb4 117 rfl rfl
abbrev y_E_passList : MethodName := ⟨"SettingsDesk$Difference", "passList", "(I)V"⟩
theorem d_E_passList_0 : decode prog_3_method_3_code 0 = .ok (.aload_n 0, 1) := by decide +kernel
theorem d_E_passList_1 : decode prog_3_method_3_code 1 = .ok (.getfield 28, 3) := by decide +kernel
theorem d_E_passList_4 : decode prog_3_method_3_code 4 = .ok (.aload_n 0, 1) := by decide +kernel
theorem d_E_passList_5 : decode prog_3_method_3_code 5 = .ok (.getfield 32, 3) := by decide +kernel
theorem d_E_passList_8 : decode prog_3_method_3_code 8 = .ok (.iload_n 1, 1) := by decide +kernel
theorem d_E_passList_9 : decode prog_3_method_3_code 9 = .ok (.iconst (-1), 1) := by decide +kernel
theorem d_E_passList_10 : decode prog_3_method_3_code 10 = .ok (.invokevirtual 42, 3) := by decide +kernel
theorem d_E_passList_13 : decode prog_3_method_3_code 13 = .ok (.istore_n 2, 1) := by decide +kernel
theorem d_E_passList_14 : decode prog_3_method_3_code 14 = .ok (.iconst 0, 1) := by decide +kernel
theorem d_E_passList_15 : decode prog_3_method_3_code 15 = .ok (.istore_n 3, 1) := by decide +kernel
theorem d_E_passList_16 : decode prog_3_method_3_code 16 = .ok (.iload_n 3, 1) := by decide +kernel
theorem d_E_passList_17 : decode prog_3_method_3_code 17 = .ok (.bipush (12), 2) := by decide +kernel
theorem d_E_passList_19 : decode prog_3_method_3_code 19 = .ok (.if_icmp .ge (42), 3) := by decide +kernel
theorem d_E_passList_22 : decode prog_3_method_3_code 22 = .ok (.iload_n 2, 1) := by decide +kernel
theorem d_E_passList_23 : decode prog_3_method_3_code 23 = .ok (.bipush (101), 2) := by decide +kernel
theorem d_E_passList_25 : decode prog_3_method_3_code 25 = .ok (.if_icmp .eq (36), 3) := by decide +kernel
theorem d_E_passList_28 : decode prog_3_method_3_code 28 = .ok (.aload_n 0, 1) := by decide +kernel
theorem d_E_passList_29 : decode prog_3_method_3_code 29 = .ok (.getfield 9, 3) := by decide +kernel
theorem d_E_passList_32 : decode prog_3_method_3_code 32 = .ok (.ifCond .ne (29), 3) := by decide +kernel
theorem d_E_passList_35 : decode prog_3_method_3_code 35 = .ok (.aload_n 0, 1) := by decide +kernel
theorem d_E_passList_36 : decode prog_3_method_3_code 36 = .ok (.iload_n 1, 1) := by decide +kernel
theorem d_E_passList_37 : decode prog_3_method_3_code 37 = .ok (.iload_n 2, 1) := by decide +kernel
theorem d_E_passList_38 : decode prog_3_method_3_code 38 = .ok (.invokevirtual 48, 3) := by decide +kernel
theorem d_E_passList_41 : decode prog_3_method_3_code 41 = .ok (.aload_n 0, 1) := by decide +kernel
theorem d_E_passList_42 : decode prog_3_method_3_code 42 = .ok (.getfield 28, 3) := by decide +kernel
theorem d_E_passList_45 : decode prog_3_method_3_code 45 = .ok (.aload_n 0, 1) := by decide +kernel
theorem d_E_passList_46 : decode prog_3_method_3_code 46 = .ok (.getfield 32, 3) := by decide +kernel
theorem d_E_passList_49 : decode prog_3_method_3_code 49 = .ok (.iload_n 1, 1) := by decide +kernel
theorem d_E_passList_50 : decode prog_3_method_3_code 50 = .ok (.iload_n 2, 1) := by decide +kernel
theorem d_E_passList_51 : decode prog_3_method_3_code 51 = .ok (.invokevirtual 42, 3) := by decide +kernel
theorem d_E_passList_54 : decode prog_3_method_3_code 54 = .ok (.istore_n 2, 1) := by decide +kernel
theorem d_E_passList_55 : decode prog_3_method_3_code 55 = .ok (.iinc 3 (1), 3) := by decide +kernel
theorem d_E_passList_58 : decode prog_3_method_3_code 58 = .ok (.goto (-42), 3) := by decide +kernel
theorem d_E_passList_61 : decode prog_3_method_3_code 61 = .ok (.return_, 1) := by decide +kernel
def Y_E_passList : sdY := ("SettingsDesk$Difference", prog_3_method_3_code, 4, none, .code y_E_passList prog_3_method_3_code 4 none :: sdB0, { frames := 3, cells := 0, slots := 0, locals := 71 }, 0, 0)
theorem cw_E_passList_S_keyAfterInEither_42 : sd_cwV Y_E_passList Y_S_keyAfterInEither y_S_keyAfterInEither 42 3 "SettingsDesk$Settings" := ⟨sd_goodV q164 q135 q136 q7 q134, ⟨_, rfl⟩, ⟨rfl, rfl, rfl, rfl⟩, ⟨rfl, by decide, by decide, by decide +kernel⟩, ⟨by decide, by decide⟩⟩
theorem cw_E_passList_E_passEntry_48 : sd_cwV Y_E_passList Y_E_passEntry y_E_passEntry 48 2 "SettingsDesk$Difference" := ⟨sd_goodV q165 q167 q168 q162 q166, ⟨_, rfl⟩, ⟨rfl, rfl, rfl, rfl⟩, ⟨rfl, by decide, by decide, by decide +kernel⟩, ⟨by decide, by decide⟩⟩
section
variable {l : Launch} {D : va_G} {dA : Nat → ClassId} {b n : Nat} {ad : Nat → Nat} {L : Nat → sdL} {sc : Option (Nat × Nat × (Nat → Int32))}
def k_E_passList_61 (o : Nat) (ca : Nat) (ru : Nat) (Q : sdM → Prop) (M : sdM) : Prop := Q M
set_option maxHeartbeats 1000000 in
theorem t_E_passList_61 {o : Nat} {ca : Nat} {ru : Nat} (hA : sd_ad b n ad) (hT : l.stackTraces = false) (ho : isE n L dA o ca ru) {Q : sdM → Prop} (M : sdM) (hw : k_E_passList_61 o ca ru Q M ) : sdW l (sdE0 sc) Y_E_passList D (sd_tys dA) b n ad L ad (sd_H D (sdE0 sc).1 n ad L) (sd_qv Q) sd_xf 61 [] [] M 0 0 := by
  unfold k_E_passList_61 at hw
  exact x_vret d_E_passList_61 rfl (fun _ h => h) ⟨rfl, hw⟩
def h_E_passList_16 (o : Nat) (ca : Nat) (ru : Nat) (Q : sdM → Prop) : Nat → sdM → Int32 → Int32 → Int32 → Prop
  | 0, _, _, _, _ => False
  | N + 1, M, x1, x2, x3 => ((12 : Int32) ≤ x3 → k_E_passList_61 o ca ru Q M) ∧ (¬ (12 : Int32) ≤ x3 → (x2 = (101 : Int32) → k_E_passList_61 o ca ru Q M) ∧ (¬ x2 = (101 : Int32) → (¬ (M o 3) = 0 → k_E_passList_61 o ca ru Q M) ∧ ((M o 3) = 0 → w_E_passEntry o ca ru M x1 x2 (fun M6 => w_S_keyAfterInEither ca M6 ru x1 x2 (fun r8 M7 => h_E_passList_16 o ca ru Q N M7 x1 r8 (x3 + 1))))))
set_option maxHeartbeats 1000000 in
theorem t_E_passList_16 {o : Nat} {ca : Nat} {ru : Nat} (hA : sd_ad b n ad) (hT : l.stackTraces = false) (ho : isE n L dA o ca ru) {Q : sdM → Prop} (N : Nat) : ∀ (M : sdM) (x1 : Int32) (x2 : Int32) (x3 : Int32), h_E_passList_16 o ca ru Q N M x1 x2 x3 → sdW l (sdE0 sc) Y_E_passList D (sd_tys dA) b n ad L ad (sd_H D (sdE0 sc).1 n ad L) (sd_qv Q) sd_xf 16 [(0, .ref o), (1, .int x1), (2, .int x2), (3, .int x3)] [] M 0 0 := by
  induction N with
  | zero => intro M x1 x2 x3 hw; exact hw.elim
  | succ N ih =>
    intro M x1 x2 x3 hw
    rw [h_E_passList_16] at hw
    refine x_iload_n 3 3 d_E_passList_16 rfl rfl ?_
    refine x_bipush (v := 12) d_E_passList_17 (by decide) ?_
    refine x_icmp_ge 61 d_E_passList_19 rfl (fun hc => ?_) (fun hc => ?_)
    · have hw := hw.1 hc
      refine x_sub [] [] rfl ?_
      exact t_E_passList_61 hA hT ho M hw
    · have hw := hw.2 hc
      refine x_iload_n 2 2 d_E_passList_22 rfl rfl ?_
      refine x_bipush (v := 101) d_E_passList_23 (by decide) ?_
      refine x_icmp_eq 61 d_E_passList_25 rfl (fun hc => ?_) (fun hc => ?_)
      · have hw := hw.1 hc
        refine x_sub [] [] rfl ?_
        exact t_E_passList_61 hA hT ho M hw
      · have hw := hw.2 hc
        refine x_aload_n 0 0 d_E_passList_28 rfl rfl ?_
        refine x_geti 3 d_E_passList_29 ho.1 ho.2.1 rfl rfl (by decide) lay_E (List.mem_cons_of_mem _ q150) rfl ?_
        refine x_if_ne 61 d_E_passList_32 rfl (fun hc => ?_) (fun hc => ?_)
        · have hw := hw.1 hc
          refine x_sub [] [] rfl ?_
          exact t_E_passList_61 hA hT ho M hw
        · have hw := hw.2 hc
          refine x_aload_n 0 0 d_E_passList_35 rfl rfl ?_
          refine x_iload_n 1 1 d_E_passList_36 rfl rfl ?_
          refine x_iload_n 2 2 d_E_passList_37 rfl rfl ?_
          refine x_callVv (As := [.int x1, .int x2]) (t := o) (rest := []) (rc := 0) (rs := 0) (c_E_passEntry hA hT ho hw) cw_E_passList_E_passEntry_48 ho.1 ho.2.1 rfl d_E_passList_38 rfl rfl (Nat.le_of_ble_eq_true rfl) (fun _ _ h => h.elim) (fun _ _ h => h) (fun M6 hw => ?_)
          refine x_aload_n 0 0 d_E_passList_41 rfl rfl ?_
          refine x_getr 0 ca d_E_passList_42 ho.1 ho.2.1 rfl rfl (by decide) lay_E (List.mem_cons_of_mem _ q155) rfl ?_
          refine x_aload_n 0 0 d_E_passList_45 rfl rfl ?_
          refine x_getr 1 ru d_E_passList_46 ho.1 ho.2.1 rfl rfl (by decide) lay_E (List.mem_cons_of_mem _ q156) rfl ?_
          refine x_iload_n 1 1 d_E_passList_49 rfl rfl ?_
          refine x_iload_n 2 2 d_E_passList_50 rfl rfl ?_
          refine x_callVi (As := [.ref ru, .int x1, .int x2]) (t := ca) (rest := []) (rc := 0) (rs := 0) (c_S_keyAfterInEither hA hT ho.candidate ho.running hw) cw_E_passList_S_keyAfterInEither_42 ho.candidate.1 ho.candidate.2.1 rfl d_E_passList_51 rfl rfl (Nat.le_of_ble_eq_true rfl) (fun _ _ h => h.elim) (fun _ _ h => h) (fun r8 M7 hw => ?_)
          refine x_istore_n 2 [(2, .int r8), (0, .ref o), (1, .int x1), (3, .int x3)] d_E_passList_54 rfl (by decide) rfl ?_
          refine x_iinc 3 3 [(3, .int (x3 + 1)), (2, .int r8), (0, .ref o), (1, .int x1)] d_E_passList_55 rfl (congrArg (HAdd.hAdd x3) (show Int32.ofInt 1 = 1 by decide)) (by decide) rfl ?_
          refine x_goto 16 d_E_passList_58 rfl ?_
          refine x_sub [2, 3, 1, 0] [(0, .ref o), (1, .int x1), (2, .int r8), (3, .int (x3 + 1))] rfl ?_
          exact ih M7 x1 r8 (x3 + 1) hw
def w_E_passList (o : Nat) (ca : Nat) (ru : Nat) (M : sdM) (a1 : Int32) (Q : sdM → Prop) : Prop := w_S_keyAfterInEither ca M ru a1 (-1 : Int32) (fun r10 M9 => ∃ N9 : Nat, h_E_passList_16 o ca ru Q N9 M9 a1 r10 (0 : Int32))
set_option maxHeartbeats 1000000 in
theorem c_E_passList {a1 : Int32} {o : Nat} {ca : Nat} {ru : Nat} (hA : sd_ad b n ad) (hT : l.stackTraces = false) (ho : isE n L dA o ca ru) {Q : sdM → Prop} {M : sdM} (hw : w_E_passList o ca ru M a1 Q) : sd_Cn l (sdE0 sc) y_E_passList Y_E_passList.2.2.2.2.1 Y_E_passList.2.2.2.2.2.1 0 0 D (sd_tys dA) b n ad L M [.ref o, .int a1] (sd_qv Q) sd_xf := by
  refine sd_enter (Y := Y_E_passList) rfl rfl rfl (Nat.le_of_ble_eq_true rfl) ?_
  show sdW l (sdE0 sc) Y_E_passList D (sd_tys dA) b n ad L ad (sd_H D (sdE0 sc).1 n ad L) (sd_qv Q) sd_xf 0 [(0, .ref o), (1, .int a1)] [] M 0 0
  unfold w_E_passList at hw
  refine x_aload_n 0 0 d_E_passList_0 rfl rfl ?_
  refine x_getr 0 ca d_E_passList_1 ho.1 ho.2.1 rfl rfl (by decide) lay_E (List.mem_cons_of_mem _ q155) rfl ?_
  refine x_aload_n 0 0 d_E_passList_4 rfl rfl ?_
  refine x_getr 1 ru d_E_passList_5 ho.1 ho.2.1 rfl rfl (by decide) lay_E (List.mem_cons_of_mem _ q156) rfl ?_
  refine x_iload_n 1 1 d_E_passList_8 rfl rfl ?_
  refine x_iconst (v := (-1)) d_E_passList_9 (by decide) ?_
  refine x_callVi (As := [.ref ru, .int a1, .int (-1 : Int32)]) (t := ca) (rest := []) (rc := 0) (rs := 0) (c_S_keyAfterInEither hA hT ho.candidate ho.running hw) cw_E_passList_S_keyAfterInEither_42 ho.candidate.1 ho.candidate.2.1 rfl d_E_passList_10 rfl rfl (Nat.le_of_ble_eq_true rfl) (fun _ _ h => h.elim) (fun _ _ h => h) (fun r10 M9 hw => ?_)
  refine x_istore_n 2 [(2, .int r10), (0, .ref o), (1, .int a1)] d_E_passList_13 rfl (by decide) rfl ?_
  refine x_iconst (v := 0) d_E_passList_14 (by decide) ?_
  refine x_istore_n 3 [(3, .int (0 : Int32)), (2, .int r10), (0, .ref o), (1, .int a1)] d_E_passList_15 rfl (by decide) rfl ?_
  refine x_sub [2, 3, 1, 0] [(0, .ref o), (1, .int a1), (2, .int r10), (3, .int (0 : Int32))] rfl ?_
  obtain ⟨N9, hw⟩ := hw
  exact t_E_passList_16 hA hT ho N9 M9 a1 r10 (0 : Int32) hw
end
theorem q169 : (.methodLink "SettingsDesk$Difference" 38 ⟨"SettingsDesk$Difference", "passList", "(I)V"⟩ : Cond) ∈ sdB0 := sd_tb4 110 rfl rfl
theorem q170 : (.code ⟨"SettingsDesk$Difference", "passList", "(I)V"⟩ prog_3_method_3_code 4 none : Cond) ∈ sdB0 := sd_tb4 113 rfl rfl
theorem q171 : (.instanceMethod ⟨"SettingsDesk$Difference", "passList", "(I)V"⟩ : Cond) ∈ sdB0 := sd_tb4 111 rfl rfl
theorem q172 : (.selects "SettingsDesk$Difference" ⟨"SettingsDesk$Difference", "passList", "(I)V"⟩ ⟨"SettingsDesk$Difference", "passList", "(I)V"⟩ : Cond) ∈ sdB0 := sd_tb4 112 rfl rfl
abbrev y_E_isThere : MethodName := ⟨"SettingsDesk$Difference", "isThere", "()Z"⟩
theorem d_E_isThere_0 : decode prog_3_method_2_code 0 = .ok (.iconst 0, 1) := by decide +kernel
theorem d_E_isThere_1 : decode prog_3_method_2_code 1 = .ok (.istore_n 1, 1) := by decide +kernel
theorem d_E_isThere_2 : decode prog_3_method_2_code 2 = .ok (.iload_n 1, 1) := by decide +kernel
theorem d_E_isThere_3 : decode prog_3_method_2_code 3 = .ok (.iconst 4, 1) := by decide +kernel
theorem d_E_isThere_4 : decode prog_3_method_2_code 4 = .ok (.if_icmp .ge (21), 3) := by decide +kernel
theorem d_E_isThere_7 : decode prog_3_method_2_code 7 = .ok (.aload_n 0, 1) := by decide +kernel
theorem d_E_isThere_8 : decode prog_3_method_2_code 8 = .ok (.getfield 9, 3) := by decide +kernel
theorem d_E_isThere_11 : decode prog_3_method_2_code 11 = .ok (.ifCond .ne (14), 3) := by decide +kernel
theorem d_E_isThere_14 : decode prog_3_method_2_code 14 = .ok (.aload_n 0, 1) := by decide +kernel
theorem d_E_isThere_15 : decode prog_3_method_2_code 15 = .ok (.iload_n 1, 1) := by decide +kernel
theorem d_E_isThere_16 : decode prog_3_method_2_code 16 = .ok (.invokevirtual 38, 3) := by decide +kernel
theorem d_E_isThere_19 : decode prog_3_method_2_code 19 = .ok (.iinc 1 (1), 3) := by decide +kernel
theorem d_E_isThere_22 : decode prog_3_method_2_code 22 = .ok (.goto (-20), 3) := by decide +kernel
theorem d_E_isThere_25 : decode prog_3_method_2_code 25 = .ok (.aload_n 0, 1) := by decide +kernel
theorem d_E_isThere_26 : decode prog_3_method_2_code 26 = .ok (.getfield 9, 3) := by decide +kernel
theorem d_E_isThere_29 : decode prog_3_method_2_code 29 = .ok (.ireturn, 1) := by decide +kernel
def Y_E_isThere : sdY := ("SettingsDesk$Difference", prog_3_method_2_code, 2, (some .boolean), .code y_E_isThere prog_3_method_2_code 2 (some .boolean) :: sdB0, { frames := 4, cells := 0, slots := 0, locals := 94 }, 0, 0)
theorem cw_E_isThere_E_passList_38 : sd_cwV Y_E_isThere Y_E_passList y_E_passList 38 1 "SettingsDesk$Difference" := ⟨sd_goodV q169 q171 q172 q162 q170, ⟨_, rfl⟩, ⟨rfl, rfl, rfl, rfl⟩, ⟨rfl, by decide, by decide, by decide +kernel⟩, ⟨by decide, by decide⟩⟩
section
variable {l : Launch} {D : va_G} {dA : Nat → ClassId} {b n : Nat} {ad : Nat → Nat} {L : Nat → sdL} {sc : Option (Nat × Nat × (Nat → Int32))}
def k_E_isThere_25 (o : Nat) (ca : Nat) (ru : Nat) (Q : Int32 → sdM → Prop) (M : sdM) : Prop := sdB (M o 3) ∧ Q (M o 3) M
set_option maxHeartbeats 1000000 in
theorem t_E_isThere_25 {o : Nat} {ca : Nat} {ru : Nat} (hA : sd_ad b n ad) (hT : l.stackTraces = false) (ho : isE n L dA o ca ru) {Q : Int32 → sdM → Prop} (M : sdM) (hw : k_E_isThere_25 o ca ru Q M ) : sdW l (sdE0 sc) Y_E_isThere D (sd_tys dA) b n ad L ad (sd_H D (sdE0 sc).1 n ad L) (sd_qi Q) sd_xf 25 [(0, .ref o)] [] M 0 0 := by
  unfold k_E_isThere_25 at hw
  refine x_aload_n 0 0 d_E_isThere_25 rfl rfl ?_
  refine x_geti 3 d_E_isThere_26 ho.1 ho.2.1 rfl rfl (by decide) lay_E (List.mem_cons_of_mem _ q150) rfl ?_
  exact x_zret d_E_isThere_29 rfl (sdB_n hw.1) (fun _ h => h) ⟨_, rfl, hw.2⟩
def h_E_isThere_2 (o : Nat) (ca : Nat) (ru : Nat) (Q : Int32 → sdM → Prop) : Nat → sdM → Int32 → Prop
  | 0, _, _ => False
  | N + 1, M, x1 => ((4 : Int32) ≤ x1 → k_E_isThere_25 o ca ru Q M) ∧ (¬ (4 : Int32) ≤ x1 → (¬ (M o 3) = 0 → k_E_isThere_25 o ca ru Q M) ∧ ((M o 3) = 0 → w_E_passList o ca ru M x1 (fun M2 => h_E_isThere_2 o ca ru Q N M2 (x1 + 1))))
set_option maxHeartbeats 1000000 in
theorem t_E_isThere_2 {o : Nat} {ca : Nat} {ru : Nat} (hA : sd_ad b n ad) (hT : l.stackTraces = false) (ho : isE n L dA o ca ru) {Q : Int32 → sdM → Prop} (N : Nat) : ∀ (M : sdM) (x1 : Int32), h_E_isThere_2 o ca ru Q N M x1 → sdW l (sdE0 sc) Y_E_isThere D (sd_tys dA) b n ad L ad (sd_H D (sdE0 sc).1 n ad L) (sd_qi Q) sd_xf 2 [(0, .ref o), (1, .int x1)] [] M 0 0 := by
  induction N with
  | zero => intro M x1 hw; exact hw.elim
  | succ N ih =>
    intro M x1 hw
    rw [h_E_isThere_2] at hw
    refine x_iload_n 1 1 d_E_isThere_2 rfl rfl ?_
    refine x_iconst (v := 4) d_E_isThere_3 (by decide) ?_
    refine x_icmp_ge 25 d_E_isThere_4 rfl (fun hc => ?_) (fun hc => ?_)
    · have hw := hw.1 hc
      refine x_sub [0] [(0, .ref o)] rfl ?_
      exact t_E_isThere_25 hA hT ho M hw
    · have hw := hw.2 hc
      refine x_aload_n 0 0 d_E_isThere_7 rfl rfl ?_
      refine x_geti 3 d_E_isThere_8 ho.1 ho.2.1 rfl rfl (by decide) lay_E (List.mem_cons_of_mem _ q150) rfl ?_
      refine x_if_ne 25 d_E_isThere_11 rfl (fun hc => ?_) (fun hc => ?_)
      · have hw := hw.1 hc
        refine x_sub [0] [(0, .ref o)] rfl ?_
        exact t_E_isThere_25 hA hT ho M hw
      · have hw := hw.2 hc
        refine x_aload_n 0 0 d_E_isThere_14 rfl rfl ?_
        refine x_iload_n 1 1 d_E_isThere_15 rfl rfl ?_
        refine x_callVv (As := [.int x1]) (t := o) (rest := []) (rc := 0) (rs := 0) (c_E_passList hA hT ho hw) cw_E_isThere_E_passList_38 ho.1 ho.2.1 rfl d_E_isThere_16 rfl rfl (Nat.le_of_ble_eq_true rfl) (fun _ _ h => h.elim) (fun _ _ h => h) (fun M2 hw => ?_)
        refine x_iinc 1 1 [(1, .int (x1 + 1)), (0, .ref o)] d_E_isThere_19 rfl (congrArg (HAdd.hAdd x1) (show Int32.ofInt 1 = 1 by decide)) (by decide) rfl ?_
        refine x_goto 2 d_E_isThere_22 rfl ?_
        refine x_sub [1, 0] [(0, .ref o), (1, .int (x1 + 1))] rfl ?_
        exact ih M2 (x1 + 1) hw
def w_E_isThere (o : Nat) (ca : Nat) (ru : Nat) (M : sdM) (Q : Int32 → sdM → Prop) : Prop := ∃ N9 : Nat, h_E_isThere_2 o ca ru Q N9 M (0 : Int32)
set_option maxHeartbeats 1000000 in
theorem c_E_isThere {o : Nat} {ca : Nat} {ru : Nat} (hA : sd_ad b n ad) (hT : l.stackTraces = false) (ho : isE n L dA o ca ru) {Q : Int32 → sdM → Prop} {M : sdM} (hw : w_E_isThere o ca ru M Q) : sd_Cn l (sdE0 sc) y_E_isThere Y_E_isThere.2.2.2.2.1 Y_E_isThere.2.2.2.2.2.1 0 0 D (sd_tys dA) b n ad L M [.ref o] (sd_qi Q) sd_xf := by
  refine sd_enter (Y := Y_E_isThere) rfl rfl rfl (Nat.le_of_ble_eq_true rfl) ?_
  show sdW l (sdE0 sc) Y_E_isThere D (sd_tys dA) b n ad L ad (sd_H D (sdE0 sc).1 n ad L) (sd_qi Q) sd_xf 0 [(0, .ref o)] [] M 0 0
  unfold w_E_isThere at hw
  refine x_iconst (v := 0) d_E_isThere_0 (by decide) ?_
  refine x_istore_n 1 [(1, .int (0 : Int32)), (0, .ref o)] d_E_isThere_1 rfl (by decide) rfl ?_
  refine x_sub [1, 0] [(0, .ref o), (1, .int (0 : Int32))] rfl ?_
  obtain ⟨N9, hw⟩ := hw
  exact t_E_isThere_2 hA hT ho N9 M (0 : Int32) hw
end
end
section
theorem q173 : (.fieldLink "SettingsDesk$Check" 9 "SettingsDesk$Check" "schema" "LSettingsDesk$Schema;" : Cond) ∈ sdB0 := sd_tb3 10 rfl rfl
theorem q174 : (.fieldLink "SettingsDesk$Check" 27 "SettingsDesk$Schema" "lists" "I" : Cond) ∈ sdB0 := sd_tb1 108 rfl rfl
theorem q175 : (.fieldLink "SettingsDesk$Check" 15 "SettingsDesk$Check" "settings" "LSettingsDesk$Settings;" : Cond) ∈ sdB0 := sd_tb3 11 rfl rfl
theorem q176 : (.fieldLink "SettingsDesk$Check" 55 "SettingsDesk$Settings" "counts" "[I" : Cond) ∈ sdB0 := sd_tb1 138 rfl rfl
theorem q177 : (.fieldLink "SettingsDesk$Check" 19 "SettingsDesk$Check" "trouble" "LSettingsDesk$Trouble;" : Cond) ∈ sdB0 := sd_tb3 12 rfl rfl
theorem q178 : (.methodLink "SettingsDesk$Check" 59 ⟨"SettingsDesk$Trouble", "note", "(IIII)V"⟩ : Cond) ∈ sdB0 := sd_tb3 28 rfl rfl
abbrev y_K_isCrowded : MethodName := ⟨"SettingsDesk$Check", "isCrowded", "()Z"⟩
theorem d_K_isCrowded_0 : decode prog_2_method_3_code 0 = .ok (.iconst 0, 1) := by decide +kernel
theorem d_K_isCrowded_1 : decode prog_2_method_3_code 1 = .ok (.istore_n 1, 1) := by decide +kernel
theorem d_K_isCrowded_2 : decode prog_2_method_3_code 2 = .ok (.iload_n 1, 1) := by decide +kernel
theorem d_K_isCrowded_3 : decode prog_2_method_3_code 3 = .ok (.aload_n 0, 1) := by decide +kernel
theorem d_K_isCrowded_4 : decode prog_2_method_3_code 4 = .ok (.getfield 9, 3) := by decide +kernel
theorem d_K_isCrowded_7 : decode prog_2_method_3_code 7 = .ok (.getfield 27, 3) := by decide +kernel
theorem d_K_isCrowded_10 : decode prog_2_method_3_code 10 = .ok (.if_icmp .ge (36), 3) := by decide +kernel
theorem d_K_isCrowded_13 : decode prog_2_method_3_code 13 = .ok (.aload_n 0, 1) := by decide +kernel
theorem d_K_isCrowded_14 : decode prog_2_method_3_code 14 = .ok (.getfield 15, 3) := by decide +kernel
theorem d_K_isCrowded_17 : decode prog_2_method_3_code 17 = .ok (.getfield 55, 3) := by decide +kernel
theorem d_K_isCrowded_20 : decode prog_2_method_3_code 20 = .ok (.iload_n 1, 1) := by decide +kernel
theorem d_K_isCrowded_21 : decode prog_2_method_3_code 21 = .ok (.iaload, 1) := by decide +kernel
theorem d_K_isCrowded_22 : decode prog_2_method_3_code 22 = .ok (.bipush (6), 2) := by decide +kernel
theorem d_K_isCrowded_24 : decode prog_2_method_3_code 24 = .ok (.if_icmp .le (16), 3) := by decide +kernel
theorem d_K_isCrowded_27 : decode prog_2_method_3_code 27 = .ok (.aload_n 0, 1) := by decide +kernel
theorem d_K_isCrowded_28 : decode prog_2_method_3_code 28 = .ok (.getfield 19, 3) := by decide +kernel
theorem d_K_isCrowded_31 : decode prog_2_method_3_code 31 = .ok (.iconst 5, 1) := by decide +kernel
theorem d_K_isCrowded_32 : decode prog_2_method_3_code 32 = .ok (.iload_n 1, 1) := by decide +kernel
theorem d_K_isCrowded_33 : decode prog_2_method_3_code 33 = .ok (.iconst (-1), 1) := by decide +kernel
theorem d_K_isCrowded_34 : decode prog_2_method_3_code 34 = .ok (.iconst (-1), 1) := by decide +kernel
theorem d_K_isCrowded_35 : decode prog_2_method_3_code 35 = .ok (.invokevirtual 59, 3) := by decide +kernel
theorem d_K_isCrowded_38 : decode prog_2_method_3_code 38 = .ok (.iconst 1, 1) := by decide +kernel
theorem d_K_isCrowded_39 : decode prog_2_method_3_code 39 = .ok (.ireturn, 1) := by decide +kernel
theorem d_K_isCrowded_40 : decode prog_2_method_3_code 40 = .ok (.iinc 1 (1), 3) := by decide +kernel
theorem d_K_isCrowded_43 : decode prog_2_method_3_code 43 = .ok (.goto (-41), 3) := by decide +kernel
theorem d_K_isCrowded_46 : decode prog_2_method_3_code 46 = .ok (.iconst 0, 1) := by decide +kernel
theorem d_K_isCrowded_47 : decode prog_2_method_3_code 47 = .ok (.ireturn, 1) := by decide +kernel
def Y_K_isCrowded : sdY := ("SettingsDesk$Check", prog_2_method_3_code, 2, (some .boolean), .code y_K_isCrowded prog_2_method_3_code 2 (some .boolean) :: sdB0, { frames := 1, cells := 0, slots := 0, locals := 24 }, 0, 0)
theorem cw_K_isCrowded_T_note_59 : sd_cwV Y_K_isCrowded Y_T_note y_T_note 59 4 "SettingsDesk$Trouble" := ⟨sd_goodV q178 q116 q117 q118 q115, ⟨_, rfl⟩, ⟨rfl, rfl, rfl, rfl⟩, ⟨rfl, by decide, by decide, by decide +kernel⟩, ⟨by decide, by decide⟩⟩
section
variable {l : Launch} {D : va_G} {dA : Nat → ClassId} {b n : Nat} {ad : Nat → Nat} {L : Nat → sdL} {sc : Option (Nat × Nat × (Nat → Int32))}
def h_K_isCrowded_2 (o : Nat) (se : Nat) (tr : Nat) (Q : Int32 → sdM → Prop) : Nat → sdM → Int32 → Prop
  | 0, _, _ => False
  | N + 1, M, x1 => ((M 1 1) ≤ x1 → sdB (0 : Int32) ∧ Q (0 : Int32) M) ∧ (¬ (M 1 1) ≤ x1 → vp_in x1 4 ∧ ((M (se + 1) x1.toNatClampNeg) ≤ (6 : Int32) → h_K_isCrowded_2 o se tr Q N M (x1 + 1)) ∧ (¬ (M (se + 1) x1.toNatClampNeg) ≤ (6 : Int32) → w_T_note tr M (5 : Int32) x1 (-1 : Int32) (-1 : Int32) (fun M4 => sdB (1 : Int32) ∧ Q (1 : Int32) M4)))
set_option maxHeartbeats 1000000 in
theorem t_K_isCrowded_2 {o : Nat} {se : Nat} {tr : Nat} (hA : sd_ad b n ad) (hT : l.stackTraces = false) (ho : isK n L dA o se tr) {Q : Int32 → sdM → Prop} (N : Nat) : ∀ (M : sdM) (x1 : Int32), h_K_isCrowded_2 o se tr Q N M x1 → sdW l (sdE0 sc) Y_K_isCrowded D (sd_tys dA) b n ad L ad (sd_H D (sdE0 sc).1 n ad L) (sd_qi Q) sd_xf 2 [(0, .ref o), (1, .int x1)] [] M 0 0 := by
  induction N with
  | zero => intro M x1 hw; exact hw.elim
  | succ N ih =>
    intro M x1 hw
    rw [h_K_isCrowded_2] at hw
    refine x_iload_n 1 1 d_K_isCrowded_2 rfl rfl ?_
    refine x_aload_n 0 0 d_K_isCrowded_3 rfl rfl ?_
    refine x_getr 0 1 d_K_isCrowded_4 ho.1 ho.2.1 rfl rfl (by decide) lay_K (List.mem_cons_of_mem _ q173) rfl ?_
    refine x_geti 1 d_K_isCrowded_7 ho.schema.1 ho.schema.2.1 rfl rfl (by decide) lay_C (List.mem_cons_of_mem _ q174) rfl ?_
    refine x_icmp_ge 46 d_K_isCrowded_10 rfl (fun hc => ?_) (fun hc => ?_)
    · have hw := hw.1 hc
      refine x_iconst (v := 0) d_K_isCrowded_46 (by decide) ?_
      exact x_zret d_K_isCrowded_47 rfl (sdB_n hw.1) (fun _ h => h) ⟨_, rfl, hw.2⟩
    · have hw := hw.2 hc
      refine x_aload_n 0 0 d_K_isCrowded_13 rfl rfl ?_
      refine x_getr 1 se d_K_isCrowded_14 ho.1 ho.2.1 rfl rfl (by decide) lay_K (List.mem_cons_of_mem _ q175) rfl ?_
      refine x_getr 0 (se + 1) d_K_isCrowded_17 ho.settings.1 ho.settings.2.1 rfl rfl (by decide) lay_S (List.mem_cons_of_mem _ q176) rfl ?_
      refine x_iload_n 1 1 d_K_isCrowded_20 rfl rfl ?_
      obtain ⟨hi3, hw⟩ := hw
      refine x_iald d_K_isCrowded_21 ho.settings.counts.1 ho.settings.counts.2 rfl hi3 ?_
      refine x_bipush (v := 6) d_K_isCrowded_22 (by decide) ?_
      refine x_icmp_le 40 d_K_isCrowded_24 rfl (fun hc => ?_) (fun hc => ?_)
      · have hw := hw.1 hc
        refine x_iinc 1 1 [(1, .int (x1 + 1)), (0, .ref o)] d_K_isCrowded_40 rfl (congrArg (HAdd.hAdd x1) (show Int32.ofInt 1 = 1 by decide)) (by decide) rfl ?_
        refine x_goto 2 d_K_isCrowded_43 rfl ?_
        refine x_sub [1, 0] [(0, .ref o), (1, .int (x1 + 1))] rfl ?_
        exact ih M (x1 + 1) hw
      · have hw := hw.2 hc
        refine x_aload_n 0 0 d_K_isCrowded_27 rfl rfl ?_
        refine x_getr 2 tr d_K_isCrowded_28 ho.1 ho.2.1 rfl rfl (by decide) lay_K (List.mem_cons_of_mem _ q177) rfl ?_
        refine x_iconst (v := 5) d_K_isCrowded_31 (by decide) ?_
        refine x_iload_n 1 1 d_K_isCrowded_32 rfl rfl ?_
        refine x_iconst (v := (-1)) d_K_isCrowded_33 (by decide) ?_
        refine x_iconst (v := (-1)) d_K_isCrowded_34 (by decide) ?_
        refine x_callVv (As := [.int (5 : Int32), .int x1, .int (-1 : Int32), .int (-1 : Int32)]) (t := tr) (rest := []) (rc := 0) (rs := 0) (c_T_note hA hT ho.trouble hw) cw_K_isCrowded_T_note_59 ho.trouble.1 ho.trouble.2 rfl d_K_isCrowded_35 rfl rfl (Nat.le_of_ble_eq_true rfl) (fun _ _ h => h.elim) (fun _ _ h => h) (fun M4 hw => ?_)
        refine x_iconst (v := 1) d_K_isCrowded_38 (by decide) ?_
        exact x_zret d_K_isCrowded_39 rfl (sdB_n hw.1) (fun _ h => h) ⟨_, rfl, hw.2⟩
def w_K_isCrowded (o : Nat) (se : Nat) (tr : Nat) (M : sdM) (Q : Int32 → sdM → Prop) : Prop := ∃ N9 : Nat, h_K_isCrowded_2 o se tr Q N9 M (0 : Int32)
set_option maxHeartbeats 1000000 in
theorem c_K_isCrowded {o : Nat} {se : Nat} {tr : Nat} (hA : sd_ad b n ad) (hT : l.stackTraces = false) (ho : isK n L dA o se tr) {Q : Int32 → sdM → Prop} {M : sdM} (hw : w_K_isCrowded o se tr M Q) : sd_Cn l (sdE0 sc) y_K_isCrowded Y_K_isCrowded.2.2.2.2.1 Y_K_isCrowded.2.2.2.2.2.1 0 0 D (sd_tys dA) b n ad L M [.ref o] (sd_qi Q) sd_xf := by
  refine sd_enter (Y := Y_K_isCrowded) rfl rfl rfl (Nat.le_of_ble_eq_true rfl) ?_
  show sdW l (sdE0 sc) Y_K_isCrowded D (sd_tys dA) b n ad L ad (sd_H D (sdE0 sc).1 n ad L) (sd_qi Q) sd_xf 0 [(0, .ref o)] [] M 0 0
  unfold w_K_isCrowded at hw
  refine x_iconst (v := 0) d_K_isCrowded_0 (by decide) ?_
  refine x_istore_n 1 [(1, .int (0 : Int32)), (0, .ref o)] d_K_isCrowded_1 rfl (by decide) rfl ?_
  refine x_sub [1, 0] [(0, .ref o), (1, .int (0 : Int32))] rfl ?_
  obtain ⟨N9, hw⟩ := hw
  exact t_K_isCrowded_2 hA hT ho N9 M (0 : Int32) hw
end
theorem q179 : (.methodLink "SettingsDesk$Check" 65 ⟨"SettingsDesk$Schema", "leafAt", "(II)LSettingsDesk$Leaf;"⟩ : Cond) ∈ sdB0 := sd_tb3 38 rfl rfl
theorem q180 : (.methodLink "SettingsDesk$Check" 69 ⟨"SettingsDesk$Settings", "isNothing", "(IILSettingsDesk$Leaf;)Z"⟩ : Cond) ∈ sdB0 := sd_tb3 43 rfl rfl
theorem q181 : (.code ⟨"SettingsDesk$Settings", "isNothing", "(IILSettingsDesk$Leaf;)Z"⟩ prog_9_method_18_code 4 (some .boolean) : Cond) ∈ sdB0 := sd_tb3 46 rfl rfl
theorem q182 : (.instanceMethod ⟨"SettingsDesk$Settings", "isNothing", "(IILSettingsDesk$Leaf;)Z"⟩ : Cond) ∈ sdB0 := sd_tb3 44 rfl rfl
theorem q183 : (.selects "SettingsDesk$Settings" ⟨"SettingsDesk$Settings", "isNothing", "(IILSettingsDesk$Leaf;)Z"⟩ ⟨"SettingsDesk$Settings", "isNothing", "(IILSettingsDesk$Leaf;)Z"⟩ : Cond) ∈ sdB0 := sd_tb3 45 rfl rfl
abbrev y_K_isNothing : MethodName := ⟨"SettingsDesk$Check", "isNothing", "(III)Z"⟩
theorem d_K_isNothing_0 : decode prog_2_method_4_code 0 = .ok (.aload_n 0, 1) := by decide +kernel
theorem d_K_isNothing_1 : decode prog_2_method_4_code 1 = .ok (.getfield 15, 3) := by decide +kernel
theorem d_K_isNothing_4 : decode prog_2_method_4_code 4 = .ok (.iload_n 2, 1) := by decide +kernel
theorem d_K_isNothing_5 : decode prog_2_method_4_code 5 = .ok (.iload_n 3, 1) := by decide +kernel
theorem d_K_isNothing_6 : decode prog_2_method_4_code 6 = .ok (.aload_n 0, 1) := by decide +kernel
theorem d_K_isNothing_7 : decode prog_2_method_4_code 7 = .ok (.getfield 9, 3) := by decide +kernel
theorem d_K_isNothing_10 : decode prog_2_method_4_code 10 = .ok (.iload_n 1, 1) := by decide +kernel
theorem d_K_isNothing_11 : decode prog_2_method_4_code 11 = .ok (.iload_n 3, 1) := by decide +kernel
theorem d_K_isNothing_12 : decode prog_2_method_4_code 12 = .ok (.invokevirtual 65, 3) := by decide +kernel
theorem d_K_isNothing_15 : decode prog_2_method_4_code 15 = .ok (.invokevirtual 69, 3) := by decide +kernel
theorem d_K_isNothing_18 : decode prog_2_method_4_code 18 = .ok (.ireturn, 1) := by decide +kernel
def Y_K_isNothing : sdY := ("SettingsDesk$Check", prog_2_method_4_code, 4, (some .boolean), .code y_K_isNothing prog_2_method_4_code 4 (some .boolean) :: sdB0, { frames := 2, cells := 0, slots := 0, locals := 45 }, 0, 0)
theorem cw_K_isNothing_C_leafAt_65 : sd_cwV Y_K_isNothing Y_C_leafAt y_C_leafAt 65 2 "SettingsDesk$Schema" := ⟨sd_goodV q179 q78 q79 q68 q77, ⟨_, rfl⟩, ⟨rfl, rfl, rfl, rfl⟩, ⟨rfl, by decide, by decide, by decide +kernel⟩, ⟨by decide, by decide⟩⟩
theorem cw_K_isNothing_S_isNothing_69 : sd_cwV Y_K_isNothing Y_S_isNothing y_S_isNothing 69 3 "SettingsDesk$Settings" := ⟨sd_goodV q180 q182 q183 q7 q181, ⟨_, rfl⟩, ⟨rfl, rfl, rfl, rfl⟩, ⟨rfl, by decide, by decide, by decide +kernel⟩, ⟨by decide, by decide⟩⟩
section
variable {l : Launch} {D : va_G} {dA : Nat → ClassId} {b n : Nat} {ad : Nat → Nat} {L : Nat → sdL} {sc : Option (Nat × Nat × (Nat → Int32))}
def w_K_isNothing (o : Nat) (se : Nat) (tr : Nat) (M : sdM) (a1 : Int32) (a2 : Int32) (a3 : Int32) (Q : Int32 → sdM → Prop) : Prop := w_C_leafAt M a1 a3 (fun t7 M6 => w_S_isNothing se M6 a2 a3 t7 (fun r10 M9 => sdB r10 ∧ Q r10 M9))
set_option maxHeartbeats 1000000 in
theorem c_K_isNothing {a1 : Int32} {a2 : Int32} {a3 : Int32} {o : Nat} {se : Nat} {tr : Nat} (hA : sd_ad b n ad) (hT : l.stackTraces = false) (ho : isK n L dA o se tr) {Q : Int32 → sdM → Prop} {M : sdM} (hw : w_K_isNothing o se tr M a1 a2 a3 Q) : sd_Cn l (sdE0 sc) y_K_isNothing Y_K_isNothing.2.2.2.2.1 Y_K_isNothing.2.2.2.2.2.1 0 0 D (sd_tys dA) b n ad L M [.ref o, .int a1, .int a2, .int a3] (sd_qi Q) sd_xf := by
  refine sd_enter (Y := Y_K_isNothing) rfl rfl rfl (Nat.le_of_ble_eq_true rfl) ?_
  show sdW l (sdE0 sc) Y_K_isNothing D (sd_tys dA) b n ad L ad (sd_H D (sdE0 sc).1 n ad L) (sd_qi Q) sd_xf 0 [(0, .ref o), (1, .int a1), (2, .int a2), (3, .int a3)] [] M 0 0
  unfold w_K_isNothing at hw
  refine x_aload_n 0 0 d_K_isNothing_0 rfl rfl ?_
  refine x_getr 1 se d_K_isNothing_1 ho.1 ho.2.1 rfl rfl (by decide) lay_K (List.mem_cons_of_mem _ q175) rfl ?_
  refine x_iload_n 2 2 d_K_isNothing_4 rfl rfl ?_
  refine x_iload_n 3 3 d_K_isNothing_5 rfl rfl ?_
  refine x_aload_n 0 0 d_K_isNothing_6 rfl rfl ?_
  refine x_getr 0 1 d_K_isNothing_7 ho.1 ho.2.1 rfl rfl (by decide) lay_K (List.mem_cons_of_mem _ q173) rfl ?_
  refine x_iload_n 1 1 d_K_isNothing_10 rfl rfl ?_
  refine x_iload_n 3 3 d_K_isNothing_11 rfl rfl ?_
  refine x_callVr (As := [.int a1, .int a3]) (t := 1) (rest := [.int a3, .int a2, .ref se]) (rc := 0) (rs := 0) (c_C_leafAt hA hT ho.schema hw) cw_K_isNothing_C_leafAt_65 ho.schema.1 ho.schema.2.1 rfl d_K_isNothing_12 rfl rfl (Nat.le_of_ble_eq_true rfl) (fun _ _ h => h.elim) (fun _ _ h => h) (fun t7 M6 ht8 hw => ?_)
  refine x_callVi (As := [.int a2, .int a3, .ref t7]) (t := se) (rest := []) (rc := 0) (rs := 0) (c_S_isNothing hA hT ho.settings ht8 hw) cw_K_isNothing_S_isNothing_69 ho.settings.1 ho.settings.2.1 rfl d_K_isNothing_15 rfl rfl (Nat.le_of_ble_eq_true rfl) (fun _ _ h => h.elim) (fun _ _ h => h) (fun r10 M9 hw => ?_)
  exact x_zret d_K_isNothing_18 rfl (sdB_n hw.1) (fun _ h => h) ⟨_, rfl, hw.2⟩
end
theorem q184 : (.fieldLink "SettingsDesk$Check" 77 "SettingsDesk$Schema" "leaves" "[I" : Cond) ∈ sdB0 := sd_tb1 111 rfl rfl
theorem q185 : (.fieldLink "SettingsDesk$Check" 80 "SettingsDesk$Leaf" "required" "Z" : Cond) ∈ sdB0 := sd_tb1 54 rfl rfl
theorem q186 : (.fieldLink "SettingsDesk$Check" 89 "SettingsDesk$Settings" "keys" "[I" : Cond) ∈ sdB0 := sd_tb1 141 rfl rfl
theorem q187 : (.methodLink "SettingsDesk$Check" 86 ⟨"SettingsDesk$Check", "isNothing", "(III)Z"⟩ : Cond) ∈ sdB0 := sd_tb3 39 rfl rfl
theorem q188 : (.code ⟨"SettingsDesk$Check", "isNothing", "(III)Z"⟩ prog_2_method_4_code 4 (some .boolean) : Cond) ∈ sdB0 := sd_tb3 42 rfl rfl
theorem q189 : (.instanceMethod ⟨"SettingsDesk$Check", "isNothing", "(III)Z"⟩ : Cond) ∈ sdB0 := sd_tb3 40 rfl rfl
theorem q190 : (.selects "SettingsDesk$Check" ⟨"SettingsDesk$Check", "isNothing", "(III)Z"⟩ ⟨"SettingsDesk$Check", "isNothing", "(III)Z"⟩ : Cond) ∈ sdB0 := sd_tb3 41 rfl rfl
theorem q191 : (.initialized "SettingsDesk$Check" : Cond) ∈ sdB0 := sd_tb1 15 rfl rfl
abbrev y_K_lacksLeaf : MethodName := ⟨"SettingsDesk$Check", "lacksLeaf", "(II)Z"⟩
theorem d_K_lacksLeaf_0 : decode prog_2_method_6_code 0 = .ok (.iconst 0, 1) := by decide +kernel
theorem d_K_lacksLeaf_1 : decode prog_2_method_6_code 1 = .ok (.istore_n 3, 1) := by decide +kernel
theorem d_K_lacksLeaf_2 : decode prog_2_method_6_code 2 = .ok (.iload_n 3, 1) := by decide +kernel
theorem d_K_lacksLeaf_3 : decode prog_2_method_6_code 3 = .ok (.aload_n 0, 1) := by decide +kernel
theorem d_K_lacksLeaf_4 : decode prog_2_method_6_code 4 = .ok (.getfield 9, 3) := by decide +kernel
theorem d_K_lacksLeaf_7 : decode prog_2_method_6_code 7 = .ok (.getfield 77, 3) := by decide +kernel
theorem d_K_lacksLeaf_10 : decode prog_2_method_6_code 10 = .ok (.iload_n 1, 1) := by decide +kernel
theorem d_K_lacksLeaf_11 : decode prog_2_method_6_code 11 = .ok (.iaload, 1) := by decide +kernel
theorem d_K_lacksLeaf_12 : decode prog_2_method_6_code 12 = .ok (.if_icmp .ge (55), 3) := by decide +kernel
theorem d_K_lacksLeaf_15 : decode prog_2_method_6_code 15 = .ok (.aload_n 0, 1) := by decide +kernel
theorem d_K_lacksLeaf_16 : decode prog_2_method_6_code 16 = .ok (.getfield 9, 3) := by decide +kernel
theorem d_K_lacksLeaf_19 : decode prog_2_method_6_code 19 = .ok (.iload_n 1, 1) := by decide +kernel
theorem d_K_lacksLeaf_20 : decode prog_2_method_6_code 20 = .ok (.iload_n 3, 1) := by decide +kernel
theorem d_K_lacksLeaf_21 : decode prog_2_method_6_code 21 = .ok (.invokevirtual 65, 3) := by decide +kernel
theorem d_K_lacksLeaf_24 : decode prog_2_method_6_code 24 = .ok (.getfield 80, 3) := by decide +kernel
theorem d_K_lacksLeaf_27 : decode prog_2_method_6_code 27 = .ok (.ifCond .eq (34), 3) := by decide +kernel
theorem d_K_lacksLeaf_30 : decode prog_2_method_6_code 30 = .ok (.aload_n 0, 1) := by decide +kernel
theorem d_K_lacksLeaf_31 : decode prog_2_method_6_code 31 = .ok (.iload_n 1, 1) := by decide +kernel
theorem d_K_lacksLeaf_32 : decode prog_2_method_6_code 32 = .ok (.iload_n 2, 1) := by decide +kernel
theorem d_K_lacksLeaf_33 : decode prog_2_method_6_code 33 = .ok (.iload_n 3, 1) := by decide +kernel
theorem d_K_lacksLeaf_34 : decode prog_2_method_6_code 34 = .ok (.invokevirtual 86, 3) := by decide +kernel
theorem d_K_lacksLeaf_37 : decode prog_2_method_6_code 37 = .ok (.ifCond .eq (24), 3) := by decide +kernel
theorem d_K_lacksLeaf_40 : decode prog_2_method_6_code 40 = .ok (.aload_n 0, 1) := by decide +kernel
theorem d_K_lacksLeaf_41 : decode prog_2_method_6_code 41 = .ok (.getfield 19, 3) := by decide +kernel
theorem d_K_lacksLeaf_44 : decode prog_2_method_6_code 44 = .ok (.iconst 1, 1) := by decide +kernel
theorem d_K_lacksLeaf_45 : decode prog_2_method_6_code 45 = .ok (.iload_n 1, 1) := by decide +kernel
theorem d_K_lacksLeaf_46 : decode prog_2_method_6_code 46 = .ok (.aload_n 0, 1) := by decide +kernel
theorem d_K_lacksLeaf_47 : decode prog_2_method_6_code 47 = .ok (.getfield 15, 3) := by decide +kernel
theorem d_K_lacksLeaf_50 : decode prog_2_method_6_code 50 = .ok (.getfield 89, 3) := by decide +kernel
theorem d_K_lacksLeaf_53 : decode prog_2_method_6_code 53 = .ok (.iload_n 2, 1) := by decide +kernel
theorem d_K_lacksLeaf_54 : decode prog_2_method_6_code 54 = .ok (.iaload, 1) := by decide +kernel
theorem d_K_lacksLeaf_55 : decode prog_2_method_6_code 55 = .ok (.iload_n 3, 1) := by decide +kernel
theorem d_K_lacksLeaf_56 : decode prog_2_method_6_code 56 = .ok (.invokevirtual 59, 3) := by decide +kernel
theorem d_K_lacksLeaf_59 : decode prog_2_method_6_code 59 = .ok (.iconst 1, 1) := by decide +kernel
theorem d_K_lacksLeaf_60 : decode prog_2_method_6_code 60 = .ok (.ireturn, 1) := by decide +kernel
theorem d_K_lacksLeaf_61 : decode prog_2_method_6_code 61 = .ok (.iinc 3 (1), 3) := by decide +kernel
theorem d_K_lacksLeaf_64 : decode prog_2_method_6_code 64 = .ok (.goto (-62), 3) := by decide +kernel
theorem d_K_lacksLeaf_67 : decode prog_2_method_6_code 67 = .ok (.iconst 0, 1) := by decide +kernel
theorem d_K_lacksLeaf_68 : decode prog_2_method_6_code 68 = .ok (.ireturn, 1) := by decide +kernel
def Y_K_lacksLeaf : sdY := ("SettingsDesk$Check", prog_2_method_6_code, 4, (some .boolean), .code y_K_lacksLeaf prog_2_method_6_code 4 (some .boolean) :: sdB0, { frames := 3, cells := 0, slots := 0, locals := 68 }, 0, 0)
theorem cw_K_lacksLeaf_C_leafAt_65 : sd_cwV Y_K_lacksLeaf Y_C_leafAt y_C_leafAt 65 2 "SettingsDesk$Schema" := ⟨sd_goodV q179 q78 q79 q68 q77, ⟨_, rfl⟩, ⟨rfl, rfl, rfl, rfl⟩, ⟨rfl, by decide, by decide, by decide +kernel⟩, ⟨by decide, by decide⟩⟩
theorem cw_K_lacksLeaf_K_isNothing_86 : sd_cwV Y_K_lacksLeaf Y_K_isNothing y_K_isNothing 86 3 "SettingsDesk$Check" := ⟨sd_goodV q187 q189 q190 q191 q188, ⟨_, rfl⟩, ⟨rfl, rfl, rfl, rfl⟩, ⟨rfl, by decide, by decide, by decide +kernel⟩, ⟨by decide, by decide⟩⟩
theorem cw_K_lacksLeaf_T_note_59 : sd_cwV Y_K_lacksLeaf Y_T_note y_T_note 59 4 "SettingsDesk$Trouble" := ⟨sd_goodV q178 q116 q117 q118 q115, ⟨_, rfl⟩, ⟨rfl, rfl, rfl, rfl⟩, ⟨rfl, by decide, by decide, by decide +kernel⟩, ⟨by decide, by decide⟩⟩
section
variable {l : Launch} {D : va_G} {dA : Nat → ClassId} {b n : Nat} {ad : Nat → Nat} {L : Nat → sdL} {sc : Option (Nat × Nat × (Nat → Int32))}
def k_K_lacksLeaf_61 (o : Nat) (se : Nat) (tr : Nat) (Q : Int32 → sdM → Prop) (k2 : sdM → Int32 → Int32 → Int32 → Prop) (M : sdM) (x1 : Int32) (x2 : Int32) (x3 : Int32) : Prop := k2 M x1 x2 (x3 + 1)
set_option maxHeartbeats 1000000 in
theorem t_K_lacksLeaf_61 {o : Nat} {se : Nat} {tr : Nat} (hA : sd_ad b n ad) (hT : l.stackTraces = false) (ho : isK n L dA o se tr) {Q : Int32 → sdM → Prop} {k2 : sdM → Int32 → Int32 → Int32 → Prop} (hk2 : ∀ (M : sdM) (x1 : Int32) (x2 : Int32) (x3 : Int32), k2 M x1 x2 x3 → sdW l (sdE0 sc) Y_K_lacksLeaf D (sd_tys dA) b n ad L ad (sd_H D (sdE0 sc).1 n ad L) (sd_qi Q) sd_xf 2 [(0, .ref o), (1, .int x1), (2, .int x2), (3, .int x3)] [] M 0 0) (M : sdM) (x1 : Int32) (x2 : Int32) (x3 : Int32) (hw : k_K_lacksLeaf_61 o se tr Q k2 M x1 x2 x3) : sdW l (sdE0 sc) Y_K_lacksLeaf D (sd_tys dA) b n ad L ad (sd_H D (sdE0 sc).1 n ad L) (sd_qi Q) sd_xf 61 [(0, .ref o), (1, .int x1), (2, .int x2), (3, .int x3)] [] M 0 0 := by
  unfold k_K_lacksLeaf_61 at hw
  refine x_iinc 3 3 [(3, .int (x3 + 1)), (0, .ref o), (1, .int x1), (2, .int x2)] d_K_lacksLeaf_61 rfl (congrArg (HAdd.hAdd x3) (show Int32.ofInt 1 = 1 by decide)) (by decide) rfl ?_
  refine x_goto 2 d_K_lacksLeaf_64 rfl ?_
  refine x_sub [1, 2, 3, 0] [(0, .ref o), (1, .int x1), (2, .int x2), (3, .int (x3 + 1))] rfl ?_
  exact hk2 M x1 x2 (x3 + 1) hw
def h_K_lacksLeaf_2 (o : Nat) (se : Nat) (tr : Nat) (Q : Int32 → sdM → Prop) : Nat → sdM → Int32 → Int32 → Int32 → Prop
  | 0, _, _, _, _ => False
  | N + 1, M, x1, x2, x3 => vp_in x1 4 ∧ ((M 2 x1.toNatClampNeg) ≤ x3 → sdB (0 : Int32) ∧ Q (0 : Int32) M) ∧ (¬ (M 2 x1.toNatClampNeg) ≤ x3 → w_C_leafAt M x1 x3 (fun t11 M10 => ((M10 t11 3) = 0 → k_K_lacksLeaf_61 o se tr Q (fun M x1 x2 x3 => h_K_lacksLeaf_2 o se tr Q N M x1 x2 x3) M10 x1 x2 x3) ∧ (¬ (M10 t11 3) = 0 → w_K_isNothing o se tr M10 x1 x2 x3 (fun r14 M13 => (r14 = 0 → k_K_lacksLeaf_61 o se tr Q (fun M x1 x2 x3 => h_K_lacksLeaf_2 o se tr Q N M x1 x2 x3) M13 x1 x2 x3) ∧ (¬ r14 = 0 → vp_in x2 48 ∧ w_T_note tr M13 (1 : Int32) x1 (M13 (se + 2) x2.toNatClampNeg) x3 (fun M16 => sdB (1 : Int32) ∧ Q (1 : Int32) M16))))))
set_option maxHeartbeats 1000000 in
theorem t_K_lacksLeaf_2 {o : Nat} {se : Nat} {tr : Nat} (hA : sd_ad b n ad) (hT : l.stackTraces = false) (ho : isK n L dA o se tr) {Q : Int32 → sdM → Prop} (N : Nat) : ∀ (M : sdM) (x1 : Int32) (x2 : Int32) (x3 : Int32), h_K_lacksLeaf_2 o se tr Q N M x1 x2 x3 → sdW l (sdE0 sc) Y_K_lacksLeaf D (sd_tys dA) b n ad L ad (sd_H D (sdE0 sc).1 n ad L) (sd_qi Q) sd_xf 2 [(0, .ref o), (1, .int x1), (2, .int x2), (3, .int x3)] [] M 0 0 := by
  induction N with
  | zero => intro M x1 x2 x3 hw; exact hw.elim
  | succ N ih =>
    intro M x1 x2 x3 hw
    rw [h_K_lacksLeaf_2] at hw
    refine x_iload_n 3 3 d_K_lacksLeaf_2 rfl rfl ?_
    refine x_aload_n 0 0 d_K_lacksLeaf_3 rfl rfl ?_
    refine x_getr 0 1 d_K_lacksLeaf_4 ho.1 ho.2.1 rfl rfl (by decide) lay_K (List.mem_cons_of_mem _ q173) rfl ?_
    refine x_getr 2 2 d_K_lacksLeaf_7 ho.schema.1 ho.schema.2.1 rfl rfl (by decide) lay_C (List.mem_cons_of_mem _ q184) rfl ?_
    refine x_iload_n 1 1 d_K_lacksLeaf_10 rfl rfl ?_
    obtain ⟨hi9, hw⟩ := hw
    refine x_iald d_K_lacksLeaf_11 ho.schema.leaves.1 ho.schema.leaves.2 rfl hi9 ?_
    refine x_icmp_ge 67 d_K_lacksLeaf_12 rfl (fun hc => ?_) (fun hc => ?_)
    · have hw := hw.1 hc
      refine x_iconst (v := 0) d_K_lacksLeaf_67 (by decide) ?_
      exact x_zret d_K_lacksLeaf_68 rfl (sdB_n hw.1) (fun _ h => h) ⟨_, rfl, hw.2⟩
    · have hw := hw.2 hc
      refine x_aload_n 0 0 d_K_lacksLeaf_15 rfl rfl ?_
      refine x_getr 0 1 d_K_lacksLeaf_16 ho.1 ho.2.1 rfl rfl (by decide) lay_K (List.mem_cons_of_mem _ q173) rfl ?_
      refine x_iload_n 1 1 d_K_lacksLeaf_19 rfl rfl ?_
      refine x_iload_n 3 3 d_K_lacksLeaf_20 rfl rfl ?_
      refine x_callVr (As := [.int x1, .int x3]) (t := 1) (rest := []) (rc := 0) (rs := 0) (c_C_leafAt hA hT ho.schema hw) cw_K_lacksLeaf_C_leafAt_65 ho.schema.1 ho.schema.2.1 rfl d_K_lacksLeaf_21 rfl rfl (Nat.le_of_ble_eq_true rfl) (fun _ _ h => h.elim) (fun _ _ h => h) (fun t11 M10 ht12 hw => ?_)
      refine x_geti 3 d_K_lacksLeaf_24 ht12.1 ht12.2 rfl rfl (by decide) lay_F (List.mem_cons_of_mem _ q185) rfl ?_
      refine x_if_eq 61 d_K_lacksLeaf_27 rfl (fun hc => ?_) (fun hc => ?_)
      · have hw := hw.1 hc
        exact t_K_lacksLeaf_61 hA hT ho (fun M x1 x2 x3  hw => ih M x1 x2 x3 hw) M10 x1 x2 x3 hw
      · have hw := hw.2 hc
        refine x_aload_n 0 0 d_K_lacksLeaf_30 rfl rfl ?_
        refine x_iload_n 1 1 d_K_lacksLeaf_31 rfl rfl ?_
        refine x_iload_n 2 2 d_K_lacksLeaf_32 rfl rfl ?_
        refine x_iload_n 3 3 d_K_lacksLeaf_33 rfl rfl ?_
        refine x_callVi (As := [.int x1, .int x2, .int x3]) (t := o) (rest := []) (rc := 0) (rs := 0) (c_K_isNothing hA hT ho hw) cw_K_lacksLeaf_K_isNothing_86 ho.1 ho.2.1 rfl d_K_lacksLeaf_34 rfl rfl (Nat.le_of_ble_eq_true rfl) (fun _ _ h => h.elim) (fun _ _ h => h) (fun r14 M13 hw => ?_)
        refine x_if_eq 61 d_K_lacksLeaf_37 rfl (fun hc => ?_) (fun hc => ?_)
        · have hw := hw.1 hc
          exact t_K_lacksLeaf_61 hA hT ho (fun M x1 x2 x3  hw => ih M x1 x2 x3 hw) M13 x1 x2 x3 hw
        · have hw := hw.2 hc
          refine x_aload_n 0 0 d_K_lacksLeaf_40 rfl rfl ?_
          refine x_getr 2 tr d_K_lacksLeaf_41 ho.1 ho.2.1 rfl rfl (by decide) lay_K (List.mem_cons_of_mem _ q177) rfl ?_
          refine x_iconst (v := 1) d_K_lacksLeaf_44 (by decide) ?_
          refine x_iload_n 1 1 d_K_lacksLeaf_45 rfl rfl ?_
          refine x_aload_n 0 0 d_K_lacksLeaf_46 rfl rfl ?_
          refine x_getr 1 se d_K_lacksLeaf_47 ho.1 ho.2.1 rfl rfl (by decide) lay_K (List.mem_cons_of_mem _ q175) rfl ?_
          refine x_getr 1 (se + 2) d_K_lacksLeaf_50 ho.settings.1 ho.settings.2.1 rfl rfl (by decide) lay_S (List.mem_cons_of_mem _ q186) rfl ?_
          refine x_iload_n 2 2 d_K_lacksLeaf_53 rfl rfl ?_
          obtain ⟨hi15, hw⟩ := hw
          refine x_iald d_K_lacksLeaf_54 ho.settings.keys.1 ho.settings.keys.2 rfl hi15 ?_
          refine x_iload_n 3 3 d_K_lacksLeaf_55 rfl rfl ?_
          refine x_callVv (As := [.int (1 : Int32), .int x1, .int (M13 (se + 2) x2.toNatClampNeg), .int x3]) (t := tr) (rest := []) (rc := 0) (rs := 0) (c_T_note hA hT ho.trouble hw) cw_K_lacksLeaf_T_note_59 ho.trouble.1 ho.trouble.2 rfl d_K_lacksLeaf_56 rfl rfl (Nat.le_of_ble_eq_true rfl) (fun _ _ h => h.elim) (fun _ _ h => h) (fun M16 hw => ?_)
          refine x_iconst (v := 1) d_K_lacksLeaf_59 (by decide) ?_
          exact x_zret d_K_lacksLeaf_60 rfl (sdB_n hw.1) (fun _ h => h) ⟨_, rfl, hw.2⟩
def w_K_lacksLeaf (o : Nat) (se : Nat) (tr : Nat) (M : sdM) (a1 : Int32) (a2 : Int32) (Q : Int32 → sdM → Prop) : Prop := ∃ N9 : Nat, h_K_lacksLeaf_2 o se tr Q N9 M a1 a2 (0 : Int32)
set_option maxHeartbeats 1000000 in
theorem c_K_lacksLeaf {a1 : Int32} {a2 : Int32} {o : Nat} {se : Nat} {tr : Nat} (hA : sd_ad b n ad) (hT : l.stackTraces = false) (ho : isK n L dA o se tr) {Q : Int32 → sdM → Prop} {M : sdM} (hw : w_K_lacksLeaf o se tr M a1 a2 Q) : sd_Cn l (sdE0 sc) y_K_lacksLeaf Y_K_lacksLeaf.2.2.2.2.1 Y_K_lacksLeaf.2.2.2.2.2.1 0 0 D (sd_tys dA) b n ad L M [.ref o, .int a1, .int a2] (sd_qi Q) sd_xf := by
  refine sd_enter (Y := Y_K_lacksLeaf) rfl rfl rfl (Nat.le_of_ble_eq_true rfl) ?_
  show sdW l (sdE0 sc) Y_K_lacksLeaf D (sd_tys dA) b n ad L ad (sd_H D (sdE0 sc).1 n ad L) (sd_qi Q) sd_xf 0 [(0, .ref o), (1, .int a1), (2, .int a2)] [] M 0 0
  unfold w_K_lacksLeaf at hw
  refine x_iconst (v := 0) d_K_lacksLeaf_0 (by decide) ?_
  refine x_istore_n 3 [(3, .int (0 : Int32)), (0, .ref o), (1, .int a1), (2, .int a2)] d_K_lacksLeaf_1 rfl (by decide) rfl ?_
  refine x_sub [1, 2, 3, 0] [(0, .ref o), (1, .int a1), (2, .int a2), (3, .int (0 : Int32))] rfl ?_
  obtain ⟨N9, hw⟩ := hw
  exact t_K_lacksLeaf_2 hA hT ho N9 M a1 a2 (0 : Int32) hw
end
theorem q192 : (.fieldLink "SettingsDesk$Check" 92 "SettingsDesk$Leaf" "isReference" "Z" : Cond) ∈ sdB0 := sd_tb1 48 rfl rfl
theorem q193 : (.fieldLink "SettingsDesk$Check" 98 "SettingsDesk$Leaf" "low" "I" : Cond) ∈ sdB0 := sd_tb1 51 rfl rfl
theorem q194 : (.methodLink "SettingsDesk$Check" 95 ⟨"SettingsDesk$Settings", "isGiven", "(II)Z"⟩ : Cond) ∈ sdB0 := sd_tb3 51 rfl rfl
theorem q195 : (.methodLink "SettingsDesk$Check" 101 ⟨"SettingsDesk$Settings", "valueAt", "(II)I"⟩ : Cond) ∈ sdB0 := sd_tb3 52 rfl rfl
theorem q196 : (.methodLink "SettingsDesk$Check" 105 ⟨"SettingsDesk$Settings", "rowOf", "(II)I"⟩ : Cond) ∈ sdB0 := sd_tb3 53 rfl rfl
abbrev y_K_pointsNowhere : MethodName := ⟨"SettingsDesk$Check", "pointsNowhere", "(II)Z"⟩
theorem d_K_pointsNowhere_0 : decode prog_2_method_7_code 0 = .ok (.iconst 0, 1) := by decide +kernel
theorem d_K_pointsNowhere_1 : decode prog_2_method_7_code 1 = .ok (.istore_n 3, 1) := by decide +kernel
theorem d_K_pointsNowhere_2 : decode prog_2_method_7_code 2 = .ok (.iload_n 3, 1) := by decide +kernel
theorem d_K_pointsNowhere_3 : decode prog_2_method_7_code 3 = .ok (.aload_n 0, 1) := by decide +kernel
theorem d_K_pointsNowhere_4 : decode prog_2_method_7_code 4 = .ok (.getfield 9, 3) := by decide +kernel
theorem d_K_pointsNowhere_7 : decode prog_2_method_7_code 7 = .ok (.getfield 77, 3) := by decide +kernel
theorem d_K_pointsNowhere_10 : decode prog_2_method_7_code 10 = .ok (.iload_n 1, 1) := by decide +kernel
theorem d_K_pointsNowhere_11 : decode prog_2_method_7_code 11 = .ok (.iaload, 1) := by decide +kernel
theorem d_K_pointsNowhere_12 : decode prog_2_method_7_code 12 = .ok (.if_icmp .ge (86), 3) := by decide +kernel
theorem d_K_pointsNowhere_15 : decode prog_2_method_7_code 15 = .ok (.aload_n 0, 1) := by decide +kernel
theorem d_K_pointsNowhere_16 : decode prog_2_method_7_code 16 = .ok (.getfield 9, 3) := by decide +kernel
theorem d_K_pointsNowhere_19 : decode prog_2_method_7_code 19 = .ok (.iload_n 1, 1) := by decide +kernel
theorem d_K_pointsNowhere_20 : decode prog_2_method_7_code 20 = .ok (.iload_n 3, 1) := by decide +kernel
theorem d_K_pointsNowhere_21 : decode prog_2_method_7_code 21 = .ok (.invokevirtual 65, 3) := by decide +kernel
theorem d_K_pointsNowhere_24 : decode prog_2_method_7_code 24 = .ok (.astore 4, 2) := by decide +kernel
theorem d_K_pointsNowhere_26 : decode prog_2_method_7_code 26 = .ok (.aload 4, 2) := by decide +kernel
theorem d_K_pointsNowhere_28 : decode prog_2_method_7_code 28 = .ok (.getfield 92, 3) := by decide +kernel
theorem d_K_pointsNowhere_31 : decode prog_2_method_7_code 31 = .ok (.ifCond .eq (61), 3) := by decide +kernel
theorem d_K_pointsNowhere_34 : decode prog_2_method_7_code 34 = .ok (.aload_n 0, 1) := by decide +kernel
theorem d_K_pointsNowhere_35 : decode prog_2_method_7_code 35 = .ok (.getfield 15, 3) := by decide +kernel
theorem d_K_pointsNowhere_38 : decode prog_2_method_7_code 38 = .ok (.iload_n 2, 1) := by decide +kernel
theorem d_K_pointsNowhere_39 : decode prog_2_method_7_code 39 = .ok (.iload_n 3, 1) := by decide +kernel
theorem d_K_pointsNowhere_40 : decode prog_2_method_7_code 40 = .ok (.invokevirtual 95, 3) := by decide +kernel
theorem d_K_pointsNowhere_43 : decode prog_2_method_7_code 43 = .ok (.ifCond .eq (49), 3) := by decide +kernel
theorem d_K_pointsNowhere_46 : decode prog_2_method_7_code 46 = .ok (.aload_n 0, 1) := by decide +kernel
theorem d_K_pointsNowhere_47 : decode prog_2_method_7_code 47 = .ok (.getfield 15, 3) := by decide +kernel
theorem d_K_pointsNowhere_50 : decode prog_2_method_7_code 50 = .ok (.aload 4, 2) := by decide +kernel
theorem d_K_pointsNowhere_52 : decode prog_2_method_7_code 52 = .ok (.getfield 98, 3) := by decide +kernel
theorem d_K_pointsNowhere_55 : decode prog_2_method_7_code 55 = .ok (.aload_n 0, 1) := by decide +kernel
theorem d_K_pointsNowhere_56 : decode prog_2_method_7_code 56 = .ok (.getfield 15, 3) := by decide +kernel
theorem d_K_pointsNowhere_59 : decode prog_2_method_7_code 59 = .ok (.iload_n 2, 1) := by decide +kernel
theorem d_K_pointsNowhere_60 : decode prog_2_method_7_code 60 = .ok (.iload_n 3, 1) := by decide +kernel
theorem d_K_pointsNowhere_61 : decode prog_2_method_7_code 61 = .ok (.invokevirtual 101, 3) := by decide +kernel
theorem d_K_pointsNowhere_64 : decode prog_2_method_7_code 64 = .ok (.invokevirtual 105, 3) := by decide +kernel
theorem d_K_pointsNowhere_67 : decode prog_2_method_7_code 67 = .ok (.iconst (-1), 1) := by decide +kernel
theorem d_K_pointsNowhere_68 : decode prog_2_method_7_code 68 = .ok (.if_icmp .ne (24), 3) := by decide +kernel
theorem d_K_pointsNowhere_71 : decode prog_2_method_7_code 71 = .ok (.aload_n 0, 1) := by decide +kernel
theorem d_K_pointsNowhere_72 : decode prog_2_method_7_code 72 = .ok (.getfield 19, 3) := by decide +kernel
theorem d_K_pointsNowhere_75 : decode prog_2_method_7_code 75 = .ok (.iconst 2, 1) := by decide +kernel
theorem d_K_pointsNowhere_76 : decode prog_2_method_7_code 76 = .ok (.iload_n 1, 1) := by decide +kernel
theorem d_K_pointsNowhere_77 : decode prog_2_method_7_code 77 = .ok (.aload_n 0, 1) := by decide +kernel
theorem d_K_pointsNowhere_78 : decode prog_2_method_7_code 78 = .ok (.getfield 15, 3) := by decide +kernel
theorem d_K_pointsNowhere_81 : decode prog_2_method_7_code 81 = .ok (.getfield 89, 3) := by decide +kernel
theorem d_K_pointsNowhere_84 : decode prog_2_method_7_code 84 = .ok (.iload_n 2, 1) := by decide +kernel
theorem d_K_pointsNowhere_85 : decode prog_2_method_7_code 85 = .ok (.iaload, 1) := by decide +kernel
theorem d_K_pointsNowhere_86 : decode prog_2_method_7_code 86 = .ok (.iload_n 3, 1) := by decide +kernel
theorem d_K_pointsNowhere_87 : decode prog_2_method_7_code 87 = .ok (.invokevirtual 59, 3) := by decide +kernel
theorem d_K_pointsNowhere_90 : decode prog_2_method_7_code 90 = .ok (.iconst 1, 1) := by decide +kernel
theorem d_K_pointsNowhere_91 : decode prog_2_method_7_code 91 = .ok (.ireturn, 1) := by decide +kernel
theorem d_K_pointsNowhere_92 : decode prog_2_method_7_code 92 = .ok (.iinc 3 (1), 3) := by decide +kernel
theorem d_K_pointsNowhere_95 : decode prog_2_method_7_code 95 = .ok (.goto (-93), 3) := by decide +kernel
theorem d_K_pointsNowhere_98 : decode prog_2_method_7_code 98 = .ok (.iconst 0, 1) := by decide +kernel
theorem d_K_pointsNowhere_99 : decode prog_2_method_7_code 99 = .ok (.ireturn, 1) := by decide +kernel
def Y_K_pointsNowhere : sdY := ("SettingsDesk$Check", prog_2_method_7_code, 5, (some .boolean), .code y_K_pointsNowhere prog_2_method_7_code 5 (some .boolean) :: sdB0, { frames := 2, cells := 0, slots := 0, locals := 44 }, 0, 0)
theorem cw_K_pointsNowhere_C_leafAt_65 : sd_cwV Y_K_pointsNowhere Y_C_leafAt y_C_leafAt 65 2 "SettingsDesk$Schema" := ⟨sd_goodV q179 q78 q79 q68 q77, ⟨_, rfl⟩, ⟨rfl, rfl, rfl, rfl⟩, ⟨rfl, by decide, by decide, by decide +kernel⟩, ⟨by decide, by decide⟩⟩
theorem cw_K_pointsNowhere_S_isGiven_95 : sd_cwV Y_K_pointsNowhere Y_S_isGiven y_S_isGiven 95 2 "SettingsDesk$Settings" := ⟨sd_goodV q194 q5 q6 q7 q4, ⟨_, rfl⟩, ⟨rfl, rfl, rfl, rfl⟩, ⟨rfl, by decide, by decide, by decide +kernel⟩, ⟨by decide, by decide⟩⟩
theorem cw_K_pointsNowhere_S_valueAt_101 : sd_cwV Y_K_pointsNowhere Y_S_valueAt y_S_valueAt 101 2 "SettingsDesk$Settings" := ⟨sd_goodV q195 q10 q11 q7 q9, ⟨_, rfl⟩, ⟨rfl, rfl, rfl, rfl⟩, ⟨rfl, by decide, by decide, by decide +kernel⟩, ⟨by decide, by decide⟩⟩
theorem cw_K_pointsNowhere_S_rowOf_105 : sd_cwV Y_K_pointsNowhere Y_S_rowOf y_S_rowOf 105 2 "SettingsDesk$Settings" := ⟨sd_goodV q196 q121 q122 q7 q120, ⟨_, rfl⟩, ⟨rfl, rfl, rfl, rfl⟩, ⟨rfl, by decide, by decide, by decide +kernel⟩, ⟨by decide, by decide⟩⟩
theorem cw_K_pointsNowhere_T_note_59 : sd_cwV Y_K_pointsNowhere Y_T_note y_T_note 59 4 "SettingsDesk$Trouble" := ⟨sd_goodV q178 q116 q117 q118 q115, ⟨_, rfl⟩, ⟨rfl, rfl, rfl, rfl⟩, ⟨rfl, by decide, by decide, by decide +kernel⟩, ⟨by decide, by decide⟩⟩
section
variable {l : Launch} {D : va_G} {dA : Nat → ClassId} {b n : Nat} {ad : Nat → Nat} {L : Nat → sdL} {sc : Option (Nat × Nat × (Nat → Int32))}
def k_K_pointsNowhere_92 (o : Nat) (se : Nat) (tr : Nat) (Q : Int32 → sdM → Prop) (k2 : sdM → Int32 → Int32 → Int32 → Prop) (M : sdM) (x1 : Int32) (x2 : Int32) (x3 : Int32) : Prop := k2 M x1 x2 (x3 + 1)
set_option maxHeartbeats 1000000 in
theorem t_K_pointsNowhere_92 {o : Nat} {se : Nat} {tr : Nat} (hA : sd_ad b n ad) (hT : l.stackTraces = false) (ho : isK n L dA o se tr) {Q : Int32 → sdM → Prop} {k2 : sdM → Int32 → Int32 → Int32 → Prop} (hk2 : ∀ (M : sdM) (x1 : Int32) (x2 : Int32) (x3 : Int32), k2 M x1 x2 x3 → sdW l (sdE0 sc) Y_K_pointsNowhere D (sd_tys dA) b n ad L ad (sd_H D (sdE0 sc).1 n ad L) (sd_qi Q) sd_xf 2 [(0, .ref o), (1, .int x1), (2, .int x2), (3, .int x3)] [] M 0 0) (M : sdM) (x1 : Int32) (x2 : Int32) (x3 : Int32) (hw : k_K_pointsNowhere_92 o se tr Q k2 M x1 x2 x3) : sdW l (sdE0 sc) Y_K_pointsNowhere D (sd_tys dA) b n ad L ad (sd_H D (sdE0 sc).1 n ad L) (sd_qi Q) sd_xf 92 [(0, .ref o), (1, .int x1), (2, .int x2), (3, .int x3)] [] M 0 0 := by
  unfold k_K_pointsNowhere_92 at hw
  refine x_iinc 3 3 [(3, .int (x3 + 1)), (0, .ref o), (1, .int x1), (2, .int x2)] d_K_pointsNowhere_92 rfl (congrArg (HAdd.hAdd x3) (show Int32.ofInt 1 = 1 by decide)) (by decide) rfl ?_
  refine x_goto 2 d_K_pointsNowhere_95 rfl ?_
  refine x_sub [1, 2, 3, 0] [(0, .ref o), (1, .int x1), (2, .int x2), (3, .int (x3 + 1))] rfl ?_
  exact hk2 M x1 x2 (x3 + 1) hw
def h_K_pointsNowhere_2 (o : Nat) (se : Nat) (tr : Nat) (Q : Int32 → sdM → Prop) : Nat → sdM → Int32 → Int32 → Int32 → Prop
  | 0, _, _, _, _ => False
  | N + 1, M, x1, x2, x3 => vp_in x1 4 ∧ ((M 2 x1.toNatClampNeg) ≤ x3 → sdB (0 : Int32) ∧ Q (0 : Int32) M) ∧ (¬ (M 2 x1.toNatClampNeg) ≤ x3 → w_C_leafAt M x1 x3 (fun t15 M14 => ((M14 t15 0) = 0 → k_K_pointsNowhere_92 o se tr Q (fun M x1 x2 x3 => h_K_pointsNowhere_2 o se tr Q N M x1 x2 x3) M14 x1 x2 x3) ∧ (¬ (M14 t15 0) = 0 → w_S_isGiven se M14 x2 x3 (fun r18 M17 => (r18 = 0 → k_K_pointsNowhere_92 o se tr Q (fun M x1 x2 x3 => h_K_pointsNowhere_2 o se tr Q N M x1 x2 x3) M17 x1 x2 x3) ∧ (¬ r18 = 0 → w_S_valueAt se M17 x2 x3 (fun r20 M19 => w_S_rowOf se M19 (M17 t15 1) r20 (fun r22 M21 => (¬ r22 = (-1 : Int32) → k_K_pointsNowhere_92 o se tr Q (fun M x1 x2 x3 => h_K_pointsNowhere_2 o se tr Q N M x1 x2 x3) M21 x1 x2 x3) ∧ (r22 = (-1 : Int32) → vp_in x2 48 ∧ w_T_note tr M21 (2 : Int32) x1 (M21 (se + 2) x2.toNatClampNeg) x3 (fun M24 => sdB (1 : Int32) ∧ Q (1 : Int32) M24)))))))))
set_option maxHeartbeats 1000000 in
theorem t_K_pointsNowhere_2 {o : Nat} {se : Nat} {tr : Nat} (hA : sd_ad b n ad) (hT : l.stackTraces = false) (ho : isK n L dA o se tr) {Q : Int32 → sdM → Prop} (N : Nat) : ∀ (M : sdM) (x1 : Int32) (x2 : Int32) (x3 : Int32), h_K_pointsNowhere_2 o se tr Q N M x1 x2 x3 → sdW l (sdE0 sc) Y_K_pointsNowhere D (sd_tys dA) b n ad L ad (sd_H D (sdE0 sc).1 n ad L) (sd_qi Q) sd_xf 2 [(0, .ref o), (1, .int x1), (2, .int x2), (3, .int x3)] [] M 0 0 := by
  induction N with
  | zero => intro M x1 x2 x3 hw; exact hw.elim
  | succ N ih =>
    intro M x1 x2 x3 hw
    rw [h_K_pointsNowhere_2] at hw
    refine x_iload_n 3 3 d_K_pointsNowhere_2 rfl rfl ?_
    refine x_aload_n 0 0 d_K_pointsNowhere_3 rfl rfl ?_
    refine x_getr 0 1 d_K_pointsNowhere_4 ho.1 ho.2.1 rfl rfl (by decide) lay_K (List.mem_cons_of_mem _ q173) rfl ?_
    refine x_getr 2 2 d_K_pointsNowhere_7 ho.schema.1 ho.schema.2.1 rfl rfl (by decide) lay_C (List.mem_cons_of_mem _ q184) rfl ?_
    refine x_iload_n 1 1 d_K_pointsNowhere_10 rfl rfl ?_
    obtain ⟨hi13, hw⟩ := hw
    refine x_iald d_K_pointsNowhere_11 ho.schema.leaves.1 ho.schema.leaves.2 rfl hi13 ?_
    refine x_icmp_ge 98 d_K_pointsNowhere_12 rfl (fun hc => ?_) (fun hc => ?_)
    · have hw := hw.1 hc
      refine x_iconst (v := 0) d_K_pointsNowhere_98 (by decide) ?_
      exact x_zret d_K_pointsNowhere_99 rfl (sdB_n hw.1) (fun _ h => h) ⟨_, rfl, hw.2⟩
    · have hw := hw.2 hc
      refine x_aload_n 0 0 d_K_pointsNowhere_15 rfl rfl ?_
      refine x_getr 0 1 d_K_pointsNowhere_16 ho.1 ho.2.1 rfl rfl (by decide) lay_K (List.mem_cons_of_mem _ q173) rfl ?_
      refine x_iload_n 1 1 d_K_pointsNowhere_19 rfl rfl ?_
      refine x_iload_n 3 3 d_K_pointsNowhere_20 rfl rfl ?_
      refine x_callVr (As := [.int x1, .int x3]) (t := 1) (rest := []) (rc := 0) (rs := 0) (c_C_leafAt hA hT ho.schema hw) cw_K_pointsNowhere_C_leafAt_65 ho.schema.1 ho.schema.2.1 rfl d_K_pointsNowhere_21 rfl rfl (Nat.le_of_ble_eq_true rfl) (fun _ _ h => h.elim) (fun _ _ h => h) (fun t15 M14 ht16 hw => ?_)
      refine x_astore 4 [(4, .ref t15), (0, .ref o), (1, .int x1), (2, .int x2), (3, .int x3)] d_K_pointsNowhere_24 (by decide) rfl ?_
      refine x_aload 4 0 d_K_pointsNowhere_26 rfl ?_
      refine x_geti 0 d_K_pointsNowhere_28 ht16.1 ht16.2 rfl rfl (by decide) lay_F (List.mem_cons_of_mem _ q192) rfl ?_
      refine x_if_eq 92 d_K_pointsNowhere_31 rfl (fun hc => ?_) (fun hc => ?_)
      · have hw := hw.1 hc
        refine x_sub [1, 2, 3, 4] [(0, .ref o), (1, .int x1), (2, .int x2), (3, .int x3)] rfl ?_
        exact t_K_pointsNowhere_92 hA hT ho (fun M x1 x2 x3  hw => ih M x1 x2 x3 hw) M14 x1 x2 x3 hw
      · have hw := hw.2 hc
        refine x_aload_n 0 1 d_K_pointsNowhere_34 rfl rfl ?_
        refine x_getr 1 se d_K_pointsNowhere_35 ho.1 ho.2.1 rfl rfl (by decide) lay_K (List.mem_cons_of_mem _ q175) rfl ?_
        refine x_iload_n 2 3 d_K_pointsNowhere_38 rfl rfl ?_
        refine x_iload_n 3 4 d_K_pointsNowhere_39 rfl rfl ?_
        refine x_callVi (As := [.int x2, .int x3]) (t := se) (rest := []) (rc := 0) (rs := 0) (c_S_isGiven hA hT ho.settings hw) cw_K_pointsNowhere_S_isGiven_95 ho.settings.1 ho.settings.2.1 rfl d_K_pointsNowhere_40 rfl rfl (Nat.le_of_ble_eq_true rfl) (fun _ _ h => h.elim) (fun _ _ h => h) (fun r18 M17 hw => ?_)
        refine x_if_eq 92 d_K_pointsNowhere_43 rfl (fun hc => ?_) (fun hc => ?_)
        · have hw := hw.1 hc
          refine x_sub [1, 2, 3, 4] [(0, .ref o), (1, .int x1), (2, .int x2), (3, .int x3)] rfl ?_
          exact t_K_pointsNowhere_92 hA hT ho (fun M x1 x2 x3  hw => ih M x1 x2 x3 hw) M17 x1 x2 x3 hw
        · have hw := hw.2 hc
          refine x_aload_n 0 1 d_K_pointsNowhere_46 rfl rfl ?_
          refine x_getr 1 se d_K_pointsNowhere_47 ho.1 ho.2.1 rfl rfl (by decide) lay_K (List.mem_cons_of_mem _ q175) rfl ?_
          refine x_aload 4 0 d_K_pointsNowhere_50 rfl ?_
          refine x_geti 1 d_K_pointsNowhere_52 ht16.1 ht16.2 rfl rfl (by decide) lay_F (List.mem_cons_of_mem _ q193) rfl ?_
          refine x_aload_n 0 1 d_K_pointsNowhere_55 rfl rfl ?_
          refine x_getr 1 se d_K_pointsNowhere_56 ho.1 ho.2.1 rfl rfl (by decide) lay_K (List.mem_cons_of_mem _ q175) rfl ?_
          refine x_iload_n 2 3 d_K_pointsNowhere_59 rfl rfl ?_
          refine x_iload_n 3 4 d_K_pointsNowhere_60 rfl rfl ?_
          refine x_callVi (As := [.int x2, .int x3]) (t := se) (rest := [.int (M17 t15 1), .ref se]) (rc := 0) (rs := 0) (c_S_valueAt hA hT ho.settings hw) cw_K_pointsNowhere_S_valueAt_101 ho.settings.1 ho.settings.2.1 rfl d_K_pointsNowhere_61 rfl rfl (Nat.le_of_ble_eq_true rfl) (fun _ _ h => h.elim) (fun _ _ h => h) (fun r20 M19 hw => ?_)
          refine x_callVi (As := [.int (M17 t15 1), .int r20]) (t := se) (rest := []) (rc := 0) (rs := 0) (c_S_rowOf hA hT ho.settings hw) cw_K_pointsNowhere_S_rowOf_105 ho.settings.1 ho.settings.2.1 rfl d_K_pointsNowhere_64 rfl rfl (Nat.le_of_ble_eq_true rfl) (fun _ _ h => h.elim) (fun _ _ h => h) (fun r22 M21 hw => ?_)
          refine x_iconst (v := (-1)) d_K_pointsNowhere_67 (by decide) ?_
          refine x_icmp_ne 92 d_K_pointsNowhere_68 rfl (fun hc => ?_) (fun hc => ?_)
          · have hw := hw.1 hc
            refine x_sub [1, 2, 3, 4] [(0, .ref o), (1, .int x1), (2, .int x2), (3, .int x3)] rfl ?_
            exact t_K_pointsNowhere_92 hA hT ho (fun M x1 x2 x3  hw => ih M x1 x2 x3 hw) M21 x1 x2 x3 hw
          · have hw := hw.2 hc
            refine x_aload_n 0 1 d_K_pointsNowhere_71 rfl rfl ?_
            refine x_getr 2 tr d_K_pointsNowhere_72 ho.1 ho.2.1 rfl rfl (by decide) lay_K (List.mem_cons_of_mem _ q177) rfl ?_
            refine x_iconst (v := 2) d_K_pointsNowhere_75 (by decide) ?_
            refine x_iload_n 1 2 d_K_pointsNowhere_76 rfl rfl ?_
            refine x_aload_n 0 1 d_K_pointsNowhere_77 rfl rfl ?_
            refine x_getr 1 se d_K_pointsNowhere_78 ho.1 ho.2.1 rfl rfl (by decide) lay_K (List.mem_cons_of_mem _ q175) rfl ?_
            refine x_getr 1 (se + 2) d_K_pointsNowhere_81 ho.settings.1 ho.settings.2.1 rfl rfl (by decide) lay_S (List.mem_cons_of_mem _ q186) rfl ?_
            refine x_iload_n 2 3 d_K_pointsNowhere_84 rfl rfl ?_
            obtain ⟨hi23, hw⟩ := hw
            refine x_iald d_K_pointsNowhere_85 ho.settings.keys.1 ho.settings.keys.2 rfl hi23 ?_
            refine x_iload_n 3 4 d_K_pointsNowhere_86 rfl rfl ?_
            refine x_callVv (As := [.int (2 : Int32), .int x1, .int (M21 (se + 2) x2.toNatClampNeg), .int x3]) (t := tr) (rest := []) (rc := 0) (rs := 0) (c_T_note hA hT ho.trouble hw) cw_K_pointsNowhere_T_note_59 ho.trouble.1 ho.trouble.2 rfl d_K_pointsNowhere_87 rfl rfl (Nat.le_of_ble_eq_true rfl) (fun _ _ h => h.elim) (fun _ _ h => h) (fun M24 hw => ?_)
            refine x_iconst (v := 1) d_K_pointsNowhere_90 (by decide) ?_
            exact x_zret d_K_pointsNowhere_91 rfl (sdB_n hw.1) (fun _ h => h) ⟨_, rfl, hw.2⟩
def w_K_pointsNowhere (o : Nat) (se : Nat) (tr : Nat) (M : sdM) (a1 : Int32) (a2 : Int32) (Q : Int32 → sdM → Prop) : Prop := ∃ N9 : Nat, h_K_pointsNowhere_2 o se tr Q N9 M a1 a2 (0 : Int32)
set_option maxHeartbeats 1000000 in
theorem c_K_pointsNowhere {a1 : Int32} {a2 : Int32} {o : Nat} {se : Nat} {tr : Nat} (hA : sd_ad b n ad) (hT : l.stackTraces = false) (ho : isK n L dA o se tr) {Q : Int32 → sdM → Prop} {M : sdM} (hw : w_K_pointsNowhere o se tr M a1 a2 Q) : sd_Cn l (sdE0 sc) y_K_pointsNowhere Y_K_pointsNowhere.2.2.2.2.1 Y_K_pointsNowhere.2.2.2.2.2.1 0 0 D (sd_tys dA) b n ad L M [.ref o, .int a1, .int a2] (sd_qi Q) sd_xf := by
  refine sd_enter (Y := Y_K_pointsNowhere) rfl rfl rfl (Nat.le_of_ble_eq_true rfl) ?_
  show sdW l (sdE0 sc) Y_K_pointsNowhere D (sd_tys dA) b n ad L ad (sd_H D (sdE0 sc).1 n ad L) (sd_qi Q) sd_xf 0 [(0, .ref o), (1, .int a1), (2, .int a2)] [] M 0 0
  unfold w_K_pointsNowhere at hw
  refine x_iconst (v := 0) d_K_pointsNowhere_0 (by decide) ?_
  refine x_istore_n 3 [(3, .int (0 : Int32)), (0, .ref o), (1, .int a1), (2, .int a2)] d_K_pointsNowhere_1 rfl (by decide) rfl ?_
  refine x_sub [1, 2, 3, 0] [(0, .ref o), (1, .int a1), (2, .int a2), (3, .int (0 : Int32))] rfl ?_
  obtain ⟨N9, hw⟩ := hw
  exact t_K_pointsNowhere_2 hA hT ho N9 M a1 a2 (0 : Int32) hw
end
theorem q197 : (.methodLink "SettingsDesk$Check" 73 ⟨"SettingsDesk$Settings", "whatIs", "(IILSettingsDesk$Leaf;)I"⟩ : Cond) ∈ sdB0 := sd_tb3 69 rfl rfl
theorem q198 : (.code ⟨"SettingsDesk$Settings", "whatIs", "(IILSettingsDesk$Leaf;)I"⟩ prog_9_method_19_code 4 (some .int) : Cond) ∈ sdB0 := sd_tb3 72 rfl rfl
theorem q199 : (.instanceMethod ⟨"SettingsDesk$Settings", "whatIs", "(IILSettingsDesk$Leaf;)I"⟩ : Cond) ∈ sdB0 := sd_tb3 70 rfl rfl
theorem q200 : (.selects "SettingsDesk$Settings" ⟨"SettingsDesk$Settings", "whatIs", "(IILSettingsDesk$Leaf;)I"⟩ ⟨"SettingsDesk$Settings", "whatIs", "(IILSettingsDesk$Leaf;)I"⟩ : Cond) ∈ sdB0 := sd_tb3 71 rfl rfl
abbrev y_K_whatIs : MethodName := ⟨"SettingsDesk$Check", "whatIs", "(III)I"⟩
theorem d_K_whatIs_0 : decode prog_2_method_5_code 0 = .ok (.aload_n 0, 1) := by decide +kernel
theorem d_K_whatIs_1 : decode prog_2_method_5_code 1 = .ok (.getfield 15, 3) := by decide +kernel
theorem d_K_whatIs_4 : decode prog_2_method_5_code 4 = .ok (.iload_n 2, 1) := by decide +kernel
theorem d_K_whatIs_5 : decode prog_2_method_5_code 5 = .ok (.iload_n 3, 1) := by decide +kernel
theorem d_K_whatIs_6 : decode prog_2_method_5_code 6 = .ok (.aload_n 0, 1) := by decide +kernel
theorem d_K_whatIs_7 : decode prog_2_method_5_code 7 = .ok (.getfield 9, 3) := by decide +kernel
theorem d_K_whatIs_10 : decode prog_2_method_5_code 10 = .ok (.iload_n 1, 1) := by decide +kernel
theorem d_K_whatIs_11 : decode prog_2_method_5_code 11 = .ok (.iload_n 3, 1) := by decide +kernel
theorem d_K_whatIs_12 : decode prog_2_method_5_code 12 = .ok (.invokevirtual 65, 3) := by decide +kernel
theorem d_K_whatIs_15 : decode prog_2_method_5_code 15 = .ok (.invokevirtual 73, 3) := by decide +kernel
theorem d_K_whatIs_18 : decode prog_2_method_5_code 18 = .ok (.ireturn, 1) := by decide +kernel
def Y_K_whatIs : sdY := ("SettingsDesk$Check", prog_2_method_5_code, 4, (some .int), .code y_K_whatIs prog_2_method_5_code 4 (some .int) :: sdB0, { frames := 2, cells := 0, slots := 0, locals := 45 }, 0, 0)
theorem cw_K_whatIs_C_leafAt_65 : sd_cwV Y_K_whatIs Y_C_leafAt y_C_leafAt 65 2 "SettingsDesk$Schema" := ⟨sd_goodV q179 q78 q79 q68 q77, ⟨_, rfl⟩, ⟨rfl, rfl, rfl, rfl⟩, ⟨rfl, by decide, by decide, by decide +kernel⟩, ⟨by decide, by decide⟩⟩
theorem cw_K_whatIs_S_whatIs_73 : sd_cwV Y_K_whatIs Y_S_whatIs y_S_whatIs 73 3 "SettingsDesk$Settings" := ⟨sd_goodV q197 q199 q200 q7 q198, ⟨_, rfl⟩, ⟨rfl, rfl, rfl, rfl⟩, ⟨rfl, by decide, by decide, by decide +kernel⟩, ⟨by decide, by decide⟩⟩
section
variable {l : Launch} {D : va_G} {dA : Nat → ClassId} {b n : Nat} {ad : Nat → Nat} {L : Nat → sdL} {sc : Option (Nat × Nat × (Nat → Int32))}
def w_K_whatIs (o : Nat) (se : Nat) (tr : Nat) (M : sdM) (a1 : Int32) (a2 : Int32) (a3 : Int32) (Q : Int32 → sdM → Prop) : Prop := w_C_leafAt M a1 a3 (fun t7 M6 => w_S_whatIs se M6 a2 a3 t7 (fun r10 M9 => Q r10 M9))
set_option maxHeartbeats 1000000 in
theorem c_K_whatIs {a1 : Int32} {a2 : Int32} {a3 : Int32} {o : Nat} {se : Nat} {tr : Nat} (hA : sd_ad b n ad) (hT : l.stackTraces = false) (ho : isK n L dA o se tr) {Q : Int32 → sdM → Prop} {M : sdM} (hw : w_K_whatIs o se tr M a1 a2 a3 Q) : sd_Cn l (sdE0 sc) y_K_whatIs Y_K_whatIs.2.2.2.2.1 Y_K_whatIs.2.2.2.2.2.1 0 0 D (sd_tys dA) b n ad L M [.ref o, .int a1, .int a2, .int a3] (sd_qi Q) sd_xf := by
  refine sd_enter (Y := Y_K_whatIs) rfl rfl rfl (Nat.le_of_ble_eq_true rfl) ?_
  show sdW l (sdE0 sc) Y_K_whatIs D (sd_tys dA) b n ad L ad (sd_H D (sdE0 sc).1 n ad L) (sd_qi Q) sd_xf 0 [(0, .ref o), (1, .int a1), (2, .int a2), (3, .int a3)] [] M 0 0
  unfold w_K_whatIs at hw
  refine x_aload_n 0 0 d_K_whatIs_0 rfl rfl ?_
  refine x_getr 1 se d_K_whatIs_1 ho.1 ho.2.1 rfl rfl (by decide) lay_K (List.mem_cons_of_mem _ q175) rfl ?_
  refine x_iload_n 2 2 d_K_whatIs_4 rfl rfl ?_
  refine x_iload_n 3 3 d_K_whatIs_5 rfl rfl ?_
  refine x_aload_n 0 0 d_K_whatIs_6 rfl rfl ?_
  refine x_getr 0 1 d_K_whatIs_7 ho.1 ho.2.1 rfl rfl (by decide) lay_K (List.mem_cons_of_mem _ q173) rfl ?_
  refine x_iload_n 1 1 d_K_whatIs_10 rfl rfl ?_
  refine x_iload_n 3 3 d_K_whatIs_11 rfl rfl ?_
  refine x_callVr (As := [.int a1, .int a3]) (t := 1) (rest := [.int a3, .int a2, .ref se]) (rc := 0) (rs := 0) (c_C_leafAt hA hT ho.schema hw) cw_K_whatIs_C_leafAt_65 ho.schema.1 ho.schema.2.1 rfl d_K_whatIs_12 rfl rfl (Nat.le_of_ble_eq_true rfl) (fun _ _ h => h.elim) (fun _ _ h => h) (fun t7 M6 ht8 hw => ?_)
  refine x_callVi (As := [.int a2, .int a3, .ref t7]) (t := se) (rest := []) (rc := 0) (rs := 0) (c_S_whatIs hA hT ho.settings ht8 hw) cw_K_whatIs_S_whatIs_73 ho.settings.1 ho.settings.2.1 rfl d_K_whatIs_15 rfl rfl (Nat.le_of_ble_eq_true rfl) (fun _ _ h => h.elim) (fun _ _ h => h) (fun r10 M9 hw => ?_)
  exact x_iret d_K_whatIs_18 rfl (fun _ h => h) ⟨_, rfl, hw⟩
end
theorem q201 : (.methodLink "SettingsDesk$Check" 114 ⟨"SettingsDesk$Check", "whatIs", "(III)I"⟩ : Cond) ∈ sdB0 := sd_tb3 65 rfl rfl
theorem q202 : (.code ⟨"SettingsDesk$Check", "whatIs", "(III)I"⟩ prog_2_method_5_code 4 (some .int) : Cond) ∈ sdB0 := sd_tb3 68 rfl rfl
theorem q203 : (.instanceMethod ⟨"SettingsDesk$Check", "whatIs", "(III)I"⟩ : Cond) ∈ sdB0 := sd_tb3 66 rfl rfl
theorem q204 : (.selects "SettingsDesk$Check" ⟨"SettingsDesk$Check", "whatIs", "(III)I"⟩ ⟨"SettingsDesk$Check", "whatIs", "(III)I"⟩ : Cond) ∈ sdB0 := sd_tb3 67 rfl rfl
theorem q205 : (.methodLink "SettingsDesk$Check" 33 ⟨"SettingsDesk$Settings", "firstRow", "(I)I"⟩ : Cond) ∈ sdB0 := sd_tb3 32 rfl rfl
abbrev y_K_isBefore : MethodName := ⟨"SettingsDesk$Check", "isBefore", "(III)Z"⟩
theorem d_K_isBefore_0 : decode prog_2_method_9_code 0 = .ok (.aload_n 0, 1) := by decide +kernel
theorem d_K_isBefore_1 : decode prog_2_method_9_code 1 = .ok (.iload_n 1, 1) := by decide +kernel
theorem d_K_isBefore_2 : decode prog_2_method_9_code 2 = .ok (.iload_n 2, 1) := by decide +kernel
theorem d_K_isBefore_3 : decode prog_2_method_9_code 3 = .ok (.iload_n 3, 1) := by decide +kernel
theorem d_K_isBefore_4 : decode prog_2_method_9_code 4 = .ok (.invokevirtual 86, 3) := by decide +kernel
theorem d_K_isBefore_7 : decode prog_2_method_9_code 7 = .ok (.ifCond .eq (5), 3) := by decide +kernel
theorem d_K_isBefore_10 : decode prog_2_method_9_code 10 = .ok (.iconst 0, 1) := by decide +kernel
theorem d_K_isBefore_11 : decode prog_2_method_9_code 11 = .ok (.ireturn, 1) := by decide +kernel
theorem d_K_isBefore_12 : decode prog_2_method_9_code 12 = .ok (.aload_n 0, 1) := by decide +kernel
theorem d_K_isBefore_13 : decode prog_2_method_9_code 13 = .ok (.iload_n 1, 1) := by decide +kernel
theorem d_K_isBefore_14 : decode prog_2_method_9_code 14 = .ok (.iload_n 2, 1) := by decide +kernel
theorem d_K_isBefore_15 : decode prog_2_method_9_code 15 = .ok (.iload_n 3, 1) := by decide +kernel
theorem d_K_isBefore_16 : decode prog_2_method_9_code 16 = .ok (.invokevirtual 114, 3) := by decide +kernel
theorem d_K_isBefore_19 : decode prog_2_method_9_code 19 = .ok (.istore 4, 2) := by decide +kernel
theorem d_K_isBefore_21 : decode prog_2_method_9_code 21 = .ok (.aload_n 0, 1) := by decide +kernel
theorem d_K_isBefore_22 : decode prog_2_method_9_code 22 = .ok (.getfield 15, 3) := by decide +kernel
theorem d_K_isBefore_25 : decode prog_2_method_9_code 25 = .ok (.iload_n 1, 1) := by decide +kernel
theorem d_K_isBefore_26 : decode prog_2_method_9_code 26 = .ok (.invokevirtual 33, 3) := by decide +kernel
theorem d_K_isBefore_29 : decode prog_2_method_9_code 29 = .ok (.istore 5, 2) := by decide +kernel
theorem d_K_isBefore_31 : decode prog_2_method_9_code 31 = .ok (.iload 5, 2) := by decide +kernel
theorem d_K_isBefore_33 : decode prog_2_method_9_code 33 = .ok (.iload_n 2, 1) := by decide +kernel
theorem d_K_isBefore_34 : decode prog_2_method_9_code 34 = .ok (.if_icmp .ge (35), 3) := by decide +kernel
theorem d_K_isBefore_37 : decode prog_2_method_9_code 37 = .ok (.aload_n 0, 1) := by decide +kernel
theorem d_K_isBefore_38 : decode prog_2_method_9_code 38 = .ok (.iload_n 1, 1) := by decide +kernel
theorem d_K_isBefore_39 : decode prog_2_method_9_code 39 = .ok (.iload 5, 2) := by decide +kernel
theorem d_K_isBefore_41 : decode prog_2_method_9_code 41 = .ok (.iload_n 3, 1) := by decide +kernel
theorem d_K_isBefore_42 : decode prog_2_method_9_code 42 = .ok (.invokevirtual 86, 3) := by decide +kernel
theorem d_K_isBefore_45 : decode prog_2_method_9_code 45 = .ok (.ifCond .ne (18), 3) := by decide +kernel
theorem d_K_isBefore_48 : decode prog_2_method_9_code 48 = .ok (.aload_n 0, 1) := by decide +kernel
theorem d_K_isBefore_49 : decode prog_2_method_9_code 49 = .ok (.iload_n 1, 1) := by decide +kernel
theorem d_K_isBefore_50 : decode prog_2_method_9_code 50 = .ok (.iload 5, 2) := by decide +kernel
theorem d_K_isBefore_52 : decode prog_2_method_9_code 52 = .ok (.iload_n 3, 1) := by decide +kernel
theorem d_K_isBefore_53 : decode prog_2_method_9_code 53 = .ok (.invokevirtual 114, 3) := by decide +kernel
theorem d_K_isBefore_56 : decode prog_2_method_9_code 56 = .ok (.iload 4, 2) := by decide +kernel
theorem d_K_isBefore_58 : decode prog_2_method_9_code 58 = .ok (.if_icmp .ne (5), 3) := by decide +kernel
theorem d_K_isBefore_61 : decode prog_2_method_9_code 61 = .ok (.iconst 1, 1) := by decide +kernel
theorem d_K_isBefore_62 : decode prog_2_method_9_code 62 = .ok (.ireturn, 1) := by decide +kernel
theorem d_K_isBefore_63 : decode prog_2_method_9_code 63 = .ok (.iinc 5 (1), 3) := by decide +kernel
theorem d_K_isBefore_66 : decode prog_2_method_9_code 66 = .ok (.goto (-35), 3) := by decide +kernel
theorem d_K_isBefore_69 : decode prog_2_method_9_code 69 = .ok (.iconst 0, 1) := by decide +kernel
theorem d_K_isBefore_70 : decode prog_2_method_9_code 70 = .ok (.ireturn, 1) := by decide +kernel
def Y_K_isBefore : sdY := ("SettingsDesk$Check", prog_2_method_9_code, 6, (some .boolean), .code y_K_isBefore prog_2_method_9_code 6 (some .boolean) :: sdB0, { frames := 3, cells := 0, slots := 0, locals := 68 }, 0, 0)
theorem cw_K_isBefore_K_isNothing_86 : sd_cwV Y_K_isBefore Y_K_isNothing y_K_isNothing 86 3 "SettingsDesk$Check" := ⟨sd_goodV q187 q189 q190 q191 q188, ⟨_, rfl⟩, ⟨rfl, rfl, rfl, rfl⟩, ⟨rfl, by decide, by decide, by decide +kernel⟩, ⟨by decide, by decide⟩⟩
theorem cw_K_isBefore_K_whatIs_114 : sd_cwV Y_K_isBefore Y_K_whatIs y_K_whatIs 114 3 "SettingsDesk$Check" := ⟨sd_goodV q201 q203 q204 q191 q202, ⟨_, rfl⟩, ⟨rfl, rfl, rfl, rfl⟩, ⟨rfl, by decide, by decide, by decide +kernel⟩, ⟨by decide, by decide⟩⟩
theorem cw_K_isBefore_S_firstRow_33 : sd_cwV Y_K_isBefore Y_S_firstRow y_S_firstRow 33 1 "SettingsDesk$Settings" := ⟨sd_goodV q205 q19 q20 q7 q18, ⟨_, rfl⟩, ⟨rfl, rfl, rfl, rfl⟩, ⟨rfl, by decide, by decide, by decide +kernel⟩, ⟨by decide, by decide⟩⟩
section
variable {l : Launch} {D : va_G} {dA : Nat → ClassId} {b n : Nat} {ad : Nat → Nat} {L : Nat → sdL} {sc : Option (Nat × Nat × (Nat → Int32))}
def k_K_isBefore_63 (o : Nat) (se : Nat) (tr : Nat) (Q : Int32 → sdM → Prop) (k31 : sdM → Int32 → Int32 → Int32 → Int32 → Int32 → Prop) (M : sdM) (x1 : Int32) (x2 : Int32) (x3 : Int32) (x4 : Int32) (x5 : Int32) : Prop := k31 M x1 x2 x3 x4 (x5 + 1)
set_option maxHeartbeats 1000000 in
theorem t_K_isBefore_63 {o : Nat} {se : Nat} {tr : Nat} (hA : sd_ad b n ad) (hT : l.stackTraces = false) (ho : isK n L dA o se tr) {Q : Int32 → sdM → Prop} {k31 : sdM → Int32 → Int32 → Int32 → Int32 → Int32 → Prop} (hk31 : ∀ (M : sdM) (x1 : Int32) (x2 : Int32) (x3 : Int32) (x4 : Int32) (x5 : Int32), k31 M x1 x2 x3 x4 x5 → sdW l (sdE0 sc) Y_K_isBefore D (sd_tys dA) b n ad L ad (sd_H D (sdE0 sc).1 n ad L) (sd_qi Q) sd_xf 31 [(0, .ref o), (1, .int x1), (2, .int x2), (3, .int x3), (4, .int x4), (5, .int x5)] [] M 0 0) (M : sdM) (x1 : Int32) (x2 : Int32) (x3 : Int32) (x4 : Int32) (x5 : Int32) (hw : k_K_isBefore_63 o se tr Q k31 M x1 x2 x3 x4 x5) : sdW l (sdE0 sc) Y_K_isBefore D (sd_tys dA) b n ad L ad (sd_H D (sdE0 sc).1 n ad L) (sd_qi Q) sd_xf 63 [(0, .ref o), (1, .int x1), (2, .int x2), (3, .int x3), (4, .int x4), (5, .int x5)] [] M 0 0 := by
  unfold k_K_isBefore_63 at hw
  refine x_iinc 5 5 [(5, .int (x5 + 1)), (0, .ref o), (1, .int x1), (2, .int x2), (3, .int x3), (4, .int x4)] d_K_isBefore_63 rfl (congrArg (HAdd.hAdd x5) (show Int32.ofInt 1 = 1 by decide)) (by decide) rfl ?_
  refine x_goto 31 d_K_isBefore_66 rfl ?_
  refine x_sub [1, 2, 3, 4, 5, 0] [(0, .ref o), (1, .int x1), (2, .int x2), (3, .int x3), (4, .int x4), (5, .int (x5 + 1))] rfl ?_
  exact hk31 M x1 x2 x3 x4 (x5 + 1) hw
def h_K_isBefore_31 (o : Nat) (se : Nat) (tr : Nat) (Q : Int32 → sdM → Prop) : Nat → sdM → Int32 → Int32 → Int32 → Int32 → Int32 → Prop
  | 0, _, _, _, _, _, _ => False
  | N + 1, M, x1, x2, x3, x4, x5 => (x2 ≤ x5 → sdB (0 : Int32) ∧ Q (0 : Int32) M) ∧ (¬ x2 ≤ x5 → w_K_isNothing o se tr M x1 x5 x3 (fun r12 M11 => (¬ r12 = 0 → k_K_isBefore_63 o se tr Q (fun M x1 x2 x3 x4 x5 => h_K_isBefore_31 o se tr Q N M x1 x2 x3 x4 x5) M11 x1 x2 x3 x4 x5) ∧ (r12 = 0 → w_K_whatIs o se tr M11 x1 x5 x3 (fun r14 M13 => (¬ r14 = x4 → k_K_isBefore_63 o se tr Q (fun M x1 x2 x3 x4 x5 => h_K_isBefore_31 o se tr Q N M x1 x2 x3 x4 x5) M13 x1 x2 x3 x4 x5) ∧ (r14 = x4 → sdB (1 : Int32) ∧ Q (1 : Int32) M13)))))
set_option maxHeartbeats 1000000 in
theorem t_K_isBefore_31 {o : Nat} {se : Nat} {tr : Nat} (hA : sd_ad b n ad) (hT : l.stackTraces = false) (ho : isK n L dA o se tr) {Q : Int32 → sdM → Prop} (N : Nat) : ∀ (M : sdM) (x1 : Int32) (x2 : Int32) (x3 : Int32) (x4 : Int32) (x5 : Int32), h_K_isBefore_31 o se tr Q N M x1 x2 x3 x4 x5 → sdW l (sdE0 sc) Y_K_isBefore D (sd_tys dA) b n ad L ad (sd_H D (sdE0 sc).1 n ad L) (sd_qi Q) sd_xf 31 [(0, .ref o), (1, .int x1), (2, .int x2), (3, .int x3), (4, .int x4), (5, .int x5)] [] M 0 0 := by
  induction N with
  | zero => intro M x1 x2 x3 x4 x5 hw; exact hw.elim
  | succ N ih =>
    intro M x1 x2 x3 x4 x5 hw
    rw [h_K_isBefore_31] at hw
    refine x_iload 5 5 d_K_isBefore_31 rfl ?_
    refine x_iload_n 2 2 d_K_isBefore_33 rfl rfl ?_
    refine x_icmp_ge 69 d_K_isBefore_34 rfl (fun hc => ?_) (fun hc => ?_)
    · have hw := hw.1 hc
      refine x_iconst (v := 0) d_K_isBefore_69 (by decide) ?_
      exact x_zret d_K_isBefore_70 rfl (sdB_n hw.1) (fun _ h => h) ⟨_, rfl, hw.2⟩
    · have hw := hw.2 hc
      refine x_aload_n 0 0 d_K_isBefore_37 rfl rfl ?_
      refine x_iload_n 1 1 d_K_isBefore_38 rfl rfl ?_
      refine x_iload 5 5 d_K_isBefore_39 rfl ?_
      refine x_iload_n 3 3 d_K_isBefore_41 rfl rfl ?_
      refine x_callVi (As := [.int x1, .int x5, .int x3]) (t := o) (rest := []) (rc := 0) (rs := 0) (c_K_isNothing hA hT ho hw) cw_K_isBefore_K_isNothing_86 ho.1 ho.2.1 rfl d_K_isBefore_42 rfl rfl (Nat.le_of_ble_eq_true rfl) (fun _ _ h => h.elim) (fun _ _ h => h) (fun r12 M11 hw => ?_)
      refine x_if_ne 63 d_K_isBefore_45 rfl (fun hc => ?_) (fun hc => ?_)
      · have hw := hw.1 hc
        exact t_K_isBefore_63 hA hT ho (fun M x1 x2 x3 x4 x5  hw => ih M x1 x2 x3 x4 x5 hw) M11 x1 x2 x3 x4 x5 hw
      · have hw := hw.2 hc
        refine x_aload_n 0 0 d_K_isBefore_48 rfl rfl ?_
        refine x_iload_n 1 1 d_K_isBefore_49 rfl rfl ?_
        refine x_iload 5 5 d_K_isBefore_50 rfl ?_
        refine x_iload_n 3 3 d_K_isBefore_52 rfl rfl ?_
        refine x_callVi (As := [.int x1, .int x5, .int x3]) (t := o) (rest := []) (rc := 0) (rs := 0) (c_K_whatIs hA hT ho hw) cw_K_isBefore_K_whatIs_114 ho.1 ho.2.1 rfl d_K_isBefore_53 rfl rfl (Nat.le_of_ble_eq_true rfl) (fun _ _ h => h.elim) (fun _ _ h => h) (fun r14 M13 hw => ?_)
        refine x_iload 4 4 d_K_isBefore_56 rfl ?_
        refine x_icmp_ne 63 d_K_isBefore_58 rfl (fun hc => ?_) (fun hc => ?_)
        · have hw := hw.1 hc
          exact t_K_isBefore_63 hA hT ho (fun M x1 x2 x3 x4 x5  hw => ih M x1 x2 x3 x4 x5 hw) M13 x1 x2 x3 x4 x5 hw
        · have hw := hw.2 hc
          refine x_iconst (v := 1) d_K_isBefore_61 (by decide) ?_
          exact x_zret d_K_isBefore_62 rfl (sdB_n hw.1) (fun _ h => h) ⟨_, rfl, hw.2⟩
def w_K_isBefore (o : Nat) (se : Nat) (tr : Nat) (M : sdM) (a1 : Int32) (a2 : Int32) (a3 : Int32) (Q : Int32 → sdM → Prop) : Prop := w_K_isNothing o se tr M a1 a2 a3 (fun r16 M15 => (r16 = 0 → w_K_whatIs o se tr M15 a1 a2 a3 (fun r18 M17 => w_S_firstRow se M17 a1 (fun r20 M19 => ∃ N9 : Nat, h_K_isBefore_31 o se tr Q N9 M19 a1 a2 a3 r18 r20))) ∧ (¬ r16 = 0 → sdB (0 : Int32) ∧ Q (0 : Int32) M15))
set_option maxHeartbeats 1000000 in
theorem c_K_isBefore {a1 : Int32} {a2 : Int32} {a3 : Int32} {o : Nat} {se : Nat} {tr : Nat} (hA : sd_ad b n ad) (hT : l.stackTraces = false) (ho : isK n L dA o se tr) {Q : Int32 → sdM → Prop} {M : sdM} (hw : w_K_isBefore o se tr M a1 a2 a3 Q) : sd_Cn l (sdE0 sc) y_K_isBefore Y_K_isBefore.2.2.2.2.1 Y_K_isBefore.2.2.2.2.2.1 0 0 D (sd_tys dA) b n ad L M [.ref o, .int a1, .int a2, .int a3] (sd_qi Q) sd_xf := by
  refine sd_enter (Y := Y_K_isBefore) rfl rfl rfl (Nat.le_of_ble_eq_true rfl) ?_
  show sdW l (sdE0 sc) Y_K_isBefore D (sd_tys dA) b n ad L ad (sd_H D (sdE0 sc).1 n ad L) (sd_qi Q) sd_xf 0 [(0, .ref o), (1, .int a1), (2, .int a2), (3, .int a3)] [] M 0 0
  unfold w_K_isBefore at hw
  refine x_aload_n 0 0 d_K_isBefore_0 rfl rfl ?_
  refine x_iload_n 1 1 d_K_isBefore_1 rfl rfl ?_
  refine x_iload_n 2 2 d_K_isBefore_2 rfl rfl ?_
  refine x_iload_n 3 3 d_K_isBefore_3 rfl rfl ?_
  refine x_callVi (As := [.int a1, .int a2, .int a3]) (t := o) (rest := []) (rc := 0) (rs := 0) (c_K_isNothing hA hT ho hw) cw_K_isBefore_K_isNothing_86 ho.1 ho.2.1 rfl d_K_isBefore_4 rfl rfl (Nat.le_of_ble_eq_true rfl) (fun _ _ h => h.elim) (fun _ _ h => h) (fun r16 M15 hw => ?_)
  refine x_if_eq 12 d_K_isBefore_7 rfl (fun hc => ?_) (fun hc => ?_)
  · have hw := hw.1 hc
    refine x_aload_n 0 0 d_K_isBefore_12 rfl rfl ?_
    refine x_iload_n 1 1 d_K_isBefore_13 rfl rfl ?_
    refine x_iload_n 2 2 d_K_isBefore_14 rfl rfl ?_
    refine x_iload_n 3 3 d_K_isBefore_15 rfl rfl ?_
    refine x_callVi (As := [.int a1, .int a2, .int a3]) (t := o) (rest := []) (rc := 0) (rs := 0) (c_K_whatIs hA hT ho hw) cw_K_isBefore_K_whatIs_114 ho.1 ho.2.1 rfl d_K_isBefore_16 rfl rfl (Nat.le_of_ble_eq_true rfl) (fun _ _ h => h.elim) (fun _ _ h => h) (fun r18 M17 hw => ?_)
    refine x_istore 4 [(4, .int r18), (0, .ref o), (1, .int a1), (2, .int a2), (3, .int a3)] d_K_isBefore_19 (by decide) rfl ?_
    refine x_aload_n 0 1 d_K_isBefore_21 rfl rfl ?_
    refine x_getr 1 se d_K_isBefore_22 ho.1 ho.2.1 rfl rfl (by decide) lay_K (List.mem_cons_of_mem _ q175) rfl ?_
    refine x_iload_n 1 2 d_K_isBefore_25 rfl rfl ?_
    refine x_callVi (As := [.int a1]) (t := se) (rest := []) (rc := 0) (rs := 0) (c_S_firstRow hA hT ho.settings hw) cw_K_isBefore_S_firstRow_33 ho.settings.1 ho.settings.2.1 rfl d_K_isBefore_26 rfl rfl (Nat.le_of_ble_eq_true rfl) (fun _ _ h => h.elim) (fun _ _ h => h) (fun r20 M19 hw => ?_)
    refine x_istore 5 [(5, .int r20), (4, .int r18), (0, .ref o), (1, .int a1), (2, .int a2), (3, .int a3)] d_K_isBefore_29 (by decide) rfl ?_
    refine x_sub [2, 3, 4, 5, 1, 0] [(0, .ref o), (1, .int a1), (2, .int a2), (3, .int a3), (4, .int r18), (5, .int r20)] rfl ?_
    obtain ⟨N9, hw⟩ := hw
    exact t_K_isBefore_31 hA hT ho N9 M19 a1 a2 a3 r18 r20 hw
  · have hw := hw.2 hc
    refine x_iconst (v := 0) d_K_isBefore_10 (by decide) ?_
    exact x_zret d_K_isBefore_11 rfl (sdB_n hw.1) (fun _ h => h) ⟨_, rfl, hw.2⟩
end
theorem q206 : (.fieldLink "SettingsDesk$Check" 108 "SettingsDesk$Leaf" "unique" "Z" : Cond) ∈ sdB0 := sd_tb1 57 rfl rfl
theorem q207 : (.methodLink "SettingsDesk$Check" 111 ⟨"SettingsDesk$Check", "isBefore", "(III)Z"⟩ : Cond) ∈ sdB0 := sd_tb3 61 rfl rfl
theorem q208 : (.code ⟨"SettingsDesk$Check", "isBefore", "(III)Z"⟩ prog_2_method_9_code 6 (some .boolean) : Cond) ∈ sdB0 := sd_tb3 64 rfl rfl
theorem q209 : (.instanceMethod ⟨"SettingsDesk$Check", "isBefore", "(III)Z"⟩ : Cond) ∈ sdB0 := sd_tb3 62 rfl rfl
theorem q210 : (.selects "SettingsDesk$Check" ⟨"SettingsDesk$Check", "isBefore", "(III)Z"⟩ ⟨"SettingsDesk$Check", "isBefore", "(III)Z"⟩ : Cond) ∈ sdB0 := sd_tb3 63 rfl rfl
abbrev y_K_repeatsLeaf : MethodName := ⟨"SettingsDesk$Check", "repeatsLeaf", "(II)Z"⟩
theorem d_K_repeatsLeaf_0 : decode prog_2_method_8_code 0 = .ok (.iconst 0, 1) := by decide +kernel
theorem d_K_repeatsLeaf_1 : decode prog_2_method_8_code 1 = .ok (.istore_n 3, 1) := by decide +kernel
theorem d_K_repeatsLeaf_2 : decode prog_2_method_8_code 2 = .ok (.iload_n 3, 1) := by decide +kernel
theorem d_K_repeatsLeaf_3 : decode prog_2_method_8_code 3 = .ok (.aload_n 0, 1) := by decide +kernel
theorem d_K_repeatsLeaf_4 : decode prog_2_method_8_code 4 = .ok (.getfield 9, 3) := by decide +kernel
theorem d_K_repeatsLeaf_7 : decode prog_2_method_8_code 7 = .ok (.getfield 77, 3) := by decide +kernel
theorem d_K_repeatsLeaf_10 : decode prog_2_method_8_code 10 = .ok (.iload_n 1, 1) := by decide +kernel
theorem d_K_repeatsLeaf_11 : decode prog_2_method_8_code 11 = .ok (.iaload, 1) := by decide +kernel
theorem d_K_repeatsLeaf_12 : decode prog_2_method_8_code 12 = .ok (.if_icmp .ge (55), 3) := by decide +kernel
theorem d_K_repeatsLeaf_15 : decode prog_2_method_8_code 15 = .ok (.aload_n 0, 1) := by decide +kernel
theorem d_K_repeatsLeaf_16 : decode prog_2_method_8_code 16 = .ok (.getfield 9, 3) := by decide +kernel
theorem d_K_repeatsLeaf_19 : decode prog_2_method_8_code 19 = .ok (.iload_n 1, 1) := by decide +kernel
theorem d_K_repeatsLeaf_20 : decode prog_2_method_8_code 20 = .ok (.iload_n 3, 1) := by decide +kernel
theorem d_K_repeatsLeaf_21 : decode prog_2_method_8_code 21 = .ok (.invokevirtual 65, 3) := by decide +kernel
theorem d_K_repeatsLeaf_24 : decode prog_2_method_8_code 24 = .ok (.getfield 108, 3) := by decide +kernel
theorem d_K_repeatsLeaf_27 : decode prog_2_method_8_code 27 = .ok (.ifCond .eq (34), 3) := by decide +kernel
theorem d_K_repeatsLeaf_30 : decode prog_2_method_8_code 30 = .ok (.aload_n 0, 1) := by decide +kernel
theorem d_K_repeatsLeaf_31 : decode prog_2_method_8_code 31 = .ok (.iload_n 1, 1) := by decide +kernel
theorem d_K_repeatsLeaf_32 : decode prog_2_method_8_code 32 = .ok (.iload_n 2, 1) := by decide +kernel
theorem d_K_repeatsLeaf_33 : decode prog_2_method_8_code 33 = .ok (.iload_n 3, 1) := by decide +kernel
theorem d_K_repeatsLeaf_34 : decode prog_2_method_8_code 34 = .ok (.invokevirtual 111, 3) := by decide +kernel
theorem d_K_repeatsLeaf_37 : decode prog_2_method_8_code 37 = .ok (.ifCond .eq (24), 3) := by decide +kernel
theorem d_K_repeatsLeaf_40 : decode prog_2_method_8_code 40 = .ok (.aload_n 0, 1) := by decide +kernel
theorem d_K_repeatsLeaf_41 : decode prog_2_method_8_code 41 = .ok (.getfield 19, 3) := by decide +kernel
theorem d_K_repeatsLeaf_44 : decode prog_2_method_8_code 44 = .ok (.iconst 3, 1) := by decide +kernel
theorem d_K_repeatsLeaf_45 : decode prog_2_method_8_code 45 = .ok (.iload_n 1, 1) := by decide +kernel
theorem d_K_repeatsLeaf_46 : decode prog_2_method_8_code 46 = .ok (.aload_n 0, 1) := by decide +kernel
theorem d_K_repeatsLeaf_47 : decode prog_2_method_8_code 47 = .ok (.getfield 15, 3) := by decide +kernel
theorem d_K_repeatsLeaf_50 : decode prog_2_method_8_code 50 = .ok (.getfield 89, 3) := by decide +kernel
theorem d_K_repeatsLeaf_53 : decode prog_2_method_8_code 53 = .ok (.iload_n 2, 1) := by decide +kernel
theorem d_K_repeatsLeaf_54 : decode prog_2_method_8_code 54 = .ok (.iaload, 1) := by decide +kernel
theorem d_K_repeatsLeaf_55 : decode prog_2_method_8_code 55 = .ok (.iload_n 3, 1) := by decide +kernel
theorem d_K_repeatsLeaf_56 : decode prog_2_method_8_code 56 = .ok (.invokevirtual 59, 3) := by decide +kernel
theorem d_K_repeatsLeaf_59 : decode prog_2_method_8_code 59 = .ok (.iconst 1, 1) := by decide +kernel
theorem d_K_repeatsLeaf_60 : decode prog_2_method_8_code 60 = .ok (.ireturn, 1) := by decide +kernel
theorem d_K_repeatsLeaf_61 : decode prog_2_method_8_code 61 = .ok (.iinc 3 (1), 3) := by decide +kernel
theorem d_K_repeatsLeaf_64 : decode prog_2_method_8_code 64 = .ok (.goto (-62), 3) := by decide +kernel
theorem d_K_repeatsLeaf_67 : decode prog_2_method_8_code 67 = .ok (.iconst 0, 1) := by decide +kernel
theorem d_K_repeatsLeaf_68 : decode prog_2_method_8_code 68 = .ok (.ireturn, 1) := by decide +kernel
def Y_K_repeatsLeaf : sdY := ("SettingsDesk$Check", prog_2_method_8_code, 4, (some .boolean), .code y_K_repeatsLeaf prog_2_method_8_code 4 (some .boolean) :: sdB0, { frames := 4, cells := 0, slots := 0, locals := 93 }, 0, 0)
theorem cw_K_repeatsLeaf_C_leafAt_65 : sd_cwV Y_K_repeatsLeaf Y_C_leafAt y_C_leafAt 65 2 "SettingsDesk$Schema" := ⟨sd_goodV q179 q78 q79 q68 q77, ⟨_, rfl⟩, ⟨rfl, rfl, rfl, rfl⟩, ⟨rfl, by decide, by decide, by decide +kernel⟩, ⟨by decide, by decide⟩⟩
theorem cw_K_repeatsLeaf_K_isBefore_111 : sd_cwV Y_K_repeatsLeaf Y_K_isBefore y_K_isBefore 111 3 "SettingsDesk$Check" := ⟨sd_goodV q207 q209 q210 q191 q208, ⟨_, rfl⟩, ⟨rfl, rfl, rfl, rfl⟩, ⟨rfl, by decide, by decide, by decide +kernel⟩, ⟨by decide, by decide⟩⟩
theorem cw_K_repeatsLeaf_T_note_59 : sd_cwV Y_K_repeatsLeaf Y_T_note y_T_note 59 4 "SettingsDesk$Trouble" := ⟨sd_goodV q178 q116 q117 q118 q115, ⟨_, rfl⟩, ⟨rfl, rfl, rfl, rfl⟩, ⟨rfl, by decide, by decide, by decide +kernel⟩, ⟨by decide, by decide⟩⟩
section
variable {l : Launch} {D : va_G} {dA : Nat → ClassId} {b n : Nat} {ad : Nat → Nat} {L : Nat → sdL} {sc : Option (Nat × Nat × (Nat → Int32))}
def k_K_repeatsLeaf_61 (o : Nat) (se : Nat) (tr : Nat) (Q : Int32 → sdM → Prop) (k2 : sdM → Int32 → Int32 → Int32 → Prop) (M : sdM) (x1 : Int32) (x2 : Int32) (x3 : Int32) : Prop := k2 M x1 x2 (x3 + 1)
set_option maxHeartbeats 1000000 in
theorem t_K_repeatsLeaf_61 {o : Nat} {se : Nat} {tr : Nat} (hA : sd_ad b n ad) (hT : l.stackTraces = false) (ho : isK n L dA o se tr) {Q : Int32 → sdM → Prop} {k2 : sdM → Int32 → Int32 → Int32 → Prop} (hk2 : ∀ (M : sdM) (x1 : Int32) (x2 : Int32) (x3 : Int32), k2 M x1 x2 x3 → sdW l (sdE0 sc) Y_K_repeatsLeaf D (sd_tys dA) b n ad L ad (sd_H D (sdE0 sc).1 n ad L) (sd_qi Q) sd_xf 2 [(0, .ref o), (1, .int x1), (2, .int x2), (3, .int x3)] [] M 0 0) (M : sdM) (x1 : Int32) (x2 : Int32) (x3 : Int32) (hw : k_K_repeatsLeaf_61 o se tr Q k2 M x1 x2 x3) : sdW l (sdE0 sc) Y_K_repeatsLeaf D (sd_tys dA) b n ad L ad (sd_H D (sdE0 sc).1 n ad L) (sd_qi Q) sd_xf 61 [(0, .ref o), (1, .int x1), (2, .int x2), (3, .int x3)] [] M 0 0 := by
  unfold k_K_repeatsLeaf_61 at hw
  refine x_iinc 3 3 [(3, .int (x3 + 1)), (0, .ref o), (1, .int x1), (2, .int x2)] d_K_repeatsLeaf_61 rfl (congrArg (HAdd.hAdd x3) (show Int32.ofInt 1 = 1 by decide)) (by decide) rfl ?_
  refine x_goto 2 d_K_repeatsLeaf_64 rfl ?_
  refine x_sub [1, 2, 3, 0] [(0, .ref o), (1, .int x1), (2, .int x2), (3, .int (x3 + 1))] rfl ?_
  exact hk2 M x1 x2 (x3 + 1) hw
def h_K_repeatsLeaf_2 (o : Nat) (se : Nat) (tr : Nat) (Q : Int32 → sdM → Prop) : Nat → sdM → Int32 → Int32 → Int32 → Prop
  | 0, _, _, _, _ => False
  | N + 1, M, x1, x2, x3 => vp_in x1 4 ∧ ((M 2 x1.toNatClampNeg) ≤ x3 → sdB (0 : Int32) ∧ Q (0 : Int32) M) ∧ (¬ (M 2 x1.toNatClampNeg) ≤ x3 → w_C_leafAt M x1 x3 (fun t11 M10 => ((M10 t11 4) = 0 → k_K_repeatsLeaf_61 o se tr Q (fun M x1 x2 x3 => h_K_repeatsLeaf_2 o se tr Q N M x1 x2 x3) M10 x1 x2 x3) ∧ (¬ (M10 t11 4) = 0 → w_K_isBefore o se tr M10 x1 x2 x3 (fun r14 M13 => (r14 = 0 → k_K_repeatsLeaf_61 o se tr Q (fun M x1 x2 x3 => h_K_repeatsLeaf_2 o se tr Q N M x1 x2 x3) M13 x1 x2 x3) ∧ (¬ r14 = 0 → vp_in x2 48 ∧ w_T_note tr M13 (3 : Int32) x1 (M13 (se + 2) x2.toNatClampNeg) x3 (fun M16 => sdB (1 : Int32) ∧ Q (1 : Int32) M16))))))
set_option maxHeartbeats 1000000 in
theorem t_K_repeatsLeaf_2 {o : Nat} {se : Nat} {tr : Nat} (hA : sd_ad b n ad) (hT : l.stackTraces = false) (ho : isK n L dA o se tr) {Q : Int32 → sdM → Prop} (N : Nat) : ∀ (M : sdM) (x1 : Int32) (x2 : Int32) (x3 : Int32), h_K_repeatsLeaf_2 o se tr Q N M x1 x2 x3 → sdW l (sdE0 sc) Y_K_repeatsLeaf D (sd_tys dA) b n ad L ad (sd_H D (sdE0 sc).1 n ad L) (sd_qi Q) sd_xf 2 [(0, .ref o), (1, .int x1), (2, .int x2), (3, .int x3)] [] M 0 0 := by
  induction N with
  | zero => intro M x1 x2 x3 hw; exact hw.elim
  | succ N ih =>
    intro M x1 x2 x3 hw
    rw [h_K_repeatsLeaf_2] at hw
    refine x_iload_n 3 3 d_K_repeatsLeaf_2 rfl rfl ?_
    refine x_aload_n 0 0 d_K_repeatsLeaf_3 rfl rfl ?_
    refine x_getr 0 1 d_K_repeatsLeaf_4 ho.1 ho.2.1 rfl rfl (by decide) lay_K (List.mem_cons_of_mem _ q173) rfl ?_
    refine x_getr 2 2 d_K_repeatsLeaf_7 ho.schema.1 ho.schema.2.1 rfl rfl (by decide) lay_C (List.mem_cons_of_mem _ q184) rfl ?_
    refine x_iload_n 1 1 d_K_repeatsLeaf_10 rfl rfl ?_
    obtain ⟨hi9, hw⟩ := hw
    refine x_iald d_K_repeatsLeaf_11 ho.schema.leaves.1 ho.schema.leaves.2 rfl hi9 ?_
    refine x_icmp_ge 67 d_K_repeatsLeaf_12 rfl (fun hc => ?_) (fun hc => ?_)
    · have hw := hw.1 hc
      refine x_iconst (v := 0) d_K_repeatsLeaf_67 (by decide) ?_
      exact x_zret d_K_repeatsLeaf_68 rfl (sdB_n hw.1) (fun _ h => h) ⟨_, rfl, hw.2⟩
    · have hw := hw.2 hc
      refine x_aload_n 0 0 d_K_repeatsLeaf_15 rfl rfl ?_
      refine x_getr 0 1 d_K_repeatsLeaf_16 ho.1 ho.2.1 rfl rfl (by decide) lay_K (List.mem_cons_of_mem _ q173) rfl ?_
      refine x_iload_n 1 1 d_K_repeatsLeaf_19 rfl rfl ?_
      refine x_iload_n 3 3 d_K_repeatsLeaf_20 rfl rfl ?_
      refine x_callVr (As := [.int x1, .int x3]) (t := 1) (rest := []) (rc := 0) (rs := 0) (c_C_leafAt hA hT ho.schema hw) cw_K_repeatsLeaf_C_leafAt_65 ho.schema.1 ho.schema.2.1 rfl d_K_repeatsLeaf_21 rfl rfl (Nat.le_of_ble_eq_true rfl) (fun _ _ h => h.elim) (fun _ _ h => h) (fun t11 M10 ht12 hw => ?_)
      refine x_geti 4 d_K_repeatsLeaf_24 ht12.1 ht12.2 rfl rfl (by decide) lay_F (List.mem_cons_of_mem _ q206) rfl ?_
      refine x_if_eq 61 d_K_repeatsLeaf_27 rfl (fun hc => ?_) (fun hc => ?_)
      · have hw := hw.1 hc
        exact t_K_repeatsLeaf_61 hA hT ho (fun M x1 x2 x3  hw => ih M x1 x2 x3 hw) M10 x1 x2 x3 hw
      · have hw := hw.2 hc
        refine x_aload_n 0 0 d_K_repeatsLeaf_30 rfl rfl ?_
        refine x_iload_n 1 1 d_K_repeatsLeaf_31 rfl rfl ?_
        refine x_iload_n 2 2 d_K_repeatsLeaf_32 rfl rfl ?_
        refine x_iload_n 3 3 d_K_repeatsLeaf_33 rfl rfl ?_
        refine x_callVi (As := [.int x1, .int x2, .int x3]) (t := o) (rest := []) (rc := 0) (rs := 0) (c_K_isBefore hA hT ho hw) cw_K_repeatsLeaf_K_isBefore_111 ho.1 ho.2.1 rfl d_K_repeatsLeaf_34 rfl rfl (Nat.le_of_ble_eq_true rfl) (fun _ _ h => h.elim) (fun _ _ h => h) (fun r14 M13 hw => ?_)
        refine x_if_eq 61 d_K_repeatsLeaf_37 rfl (fun hc => ?_) (fun hc => ?_)
        · have hw := hw.1 hc
          exact t_K_repeatsLeaf_61 hA hT ho (fun M x1 x2 x3  hw => ih M x1 x2 x3 hw) M13 x1 x2 x3 hw
        · have hw := hw.2 hc
          refine x_aload_n 0 0 d_K_repeatsLeaf_40 rfl rfl ?_
          refine x_getr 2 tr d_K_repeatsLeaf_41 ho.1 ho.2.1 rfl rfl (by decide) lay_K (List.mem_cons_of_mem _ q177) rfl ?_
          refine x_iconst (v := 3) d_K_repeatsLeaf_44 (by decide) ?_
          refine x_iload_n 1 1 d_K_repeatsLeaf_45 rfl rfl ?_
          refine x_aload_n 0 0 d_K_repeatsLeaf_46 rfl rfl ?_
          refine x_getr 1 se d_K_repeatsLeaf_47 ho.1 ho.2.1 rfl rfl (by decide) lay_K (List.mem_cons_of_mem _ q175) rfl ?_
          refine x_getr 1 (se + 2) d_K_repeatsLeaf_50 ho.settings.1 ho.settings.2.1 rfl rfl (by decide) lay_S (List.mem_cons_of_mem _ q186) rfl ?_
          refine x_iload_n 2 2 d_K_repeatsLeaf_53 rfl rfl ?_
          obtain ⟨hi15, hw⟩ := hw
          refine x_iald d_K_repeatsLeaf_54 ho.settings.keys.1 ho.settings.keys.2 rfl hi15 ?_
          refine x_iload_n 3 3 d_K_repeatsLeaf_55 rfl rfl ?_
          refine x_callVv (As := [.int (3 : Int32), .int x1, .int (M13 (se + 2) x2.toNatClampNeg), .int x3]) (t := tr) (rest := []) (rc := 0) (rs := 0) (c_T_note hA hT ho.trouble hw) cw_K_repeatsLeaf_T_note_59 ho.trouble.1 ho.trouble.2 rfl d_K_repeatsLeaf_56 rfl rfl (Nat.le_of_ble_eq_true rfl) (fun _ _ h => h.elim) (fun _ _ h => h) (fun M16 hw => ?_)
          refine x_iconst (v := 1) d_K_repeatsLeaf_59 (by decide) ?_
          exact x_zret d_K_repeatsLeaf_60 rfl (sdB_n hw.1) (fun _ h => h) ⟨_, rfl, hw.2⟩
def w_K_repeatsLeaf (o : Nat) (se : Nat) (tr : Nat) (M : sdM) (a1 : Int32) (a2 : Int32) (Q : Int32 → sdM → Prop) : Prop := ∃ N9 : Nat, h_K_repeatsLeaf_2 o se tr Q N9 M a1 a2 (0 : Int32)
set_option maxHeartbeats 1000000 in
theorem c_K_repeatsLeaf {a1 : Int32} {a2 : Int32} {o : Nat} {se : Nat} {tr : Nat} (hA : sd_ad b n ad) (hT : l.stackTraces = false) (ho : isK n L dA o se tr) {Q : Int32 → sdM → Prop} {M : sdM} (hw : w_K_repeatsLeaf o se tr M a1 a2 Q) : sd_Cn l (sdE0 sc) y_K_repeatsLeaf Y_K_repeatsLeaf.2.2.2.2.1 Y_K_repeatsLeaf.2.2.2.2.2.1 0 0 D (sd_tys dA) b n ad L M [.ref o, .int a1, .int a2] (sd_qi Q) sd_xf := by
  refine sd_enter (Y := Y_K_repeatsLeaf) rfl rfl rfl (Nat.le_of_ble_eq_true rfl) ?_
  show sdW l (sdE0 sc) Y_K_repeatsLeaf D (sd_tys dA) b n ad L ad (sd_H D (sdE0 sc).1 n ad L) (sd_qi Q) sd_xf 0 [(0, .ref o), (1, .int a1), (2, .int a2)] [] M 0 0
  unfold w_K_repeatsLeaf at hw
  refine x_iconst (v := 0) d_K_repeatsLeaf_0 (by decide) ?_
  refine x_istore_n 3 [(3, .int (0 : Int32)), (0, .ref o), (1, .int a1), (2, .int a2)] d_K_repeatsLeaf_1 rfl (by decide) rfl ?_
  refine x_sub [1, 2, 3, 0] [(0, .ref o), (1, .int a1), (2, .int a2), (3, .int (0 : Int32))] rfl ?_
  obtain ⟨N9, hw⟩ := hw
  exact t_K_repeatsLeaf_2 hA hT ho N9 M a1 a2 (0 : Int32) hw
end
theorem q211 : (.fieldLink "SettingsDesk$Check" 124 "SettingsDesk$Rule" "ofList" "I" : Cond) ∈ sdB0 := sd_tb1 84 rfl rfl
theorem q212 : (.fieldLink "SettingsDesk$Check" 133 "SettingsDesk$Rule" "a" "I" : Cond) ∈ sdB0 := sd_tb1 86 rfl rfl
theorem q213 : (.fieldLink "SettingsDesk$Check" 136 "SettingsDesk$Rule" "value" "I" : Cond) ∈ sdB0 := sd_tb1 88 rfl rfl
theorem q214 : (.fieldLink "SettingsDesk$Check" 139 "SettingsDesk$Rule" "b" "I" : Cond) ∈ sdB0 := sd_tb1 90 rfl rfl
theorem q215 : (.fieldLink "SettingsDesk$Check" 142 "SettingsDesk$Rule" "there" "Z" : Cond) ∈ sdB0 := sd_tb1 92 rfl rfl
abbrev y_K_isBroken : MethodName := ⟨"SettingsDesk$Check", "isBroken", "(LSettingsDesk$Rule;I)Z"⟩
theorem d_K_isBroken_0 : decode prog_2_method_11_code 0 = .ok (.aload_n 0, 1) := by decide +kernel
theorem d_K_isBroken_1 : decode prog_2_method_11_code 1 = .ok (.aload_n 1, 1) := by decide +kernel
theorem d_K_isBroken_2 : decode prog_2_method_11_code 2 = .ok (.getfield 124, 3) := by decide +kernel
theorem d_K_isBroken_5 : decode prog_2_method_11_code 5 = .ok (.iload_n 2, 1) := by decide +kernel
theorem d_K_isBroken_6 : decode prog_2_method_11_code 6 = .ok (.aload_n 1, 1) := by decide +kernel
theorem d_K_isBroken_7 : decode prog_2_method_11_code 7 = .ok (.getfield 133, 3) := by decide +kernel
theorem d_K_isBroken_10 : decode prog_2_method_11_code 10 = .ok (.invokevirtual 86, 3) := by decide +kernel
theorem d_K_isBroken_13 : decode prog_2_method_11_code 13 = .ok (.ifCond .ne (47), 3) := by decide +kernel
theorem d_K_isBroken_16 : decode prog_2_method_11_code 16 = .ok (.aload_n 0, 1) := by decide +kernel
theorem d_K_isBroken_17 : decode prog_2_method_11_code 17 = .ok (.aload_n 1, 1) := by decide +kernel
theorem d_K_isBroken_18 : decode prog_2_method_11_code 18 = .ok (.getfield 124, 3) := by decide +kernel
theorem d_K_isBroken_21 : decode prog_2_method_11_code 21 = .ok (.iload_n 2, 1) := by decide +kernel
theorem d_K_isBroken_22 : decode prog_2_method_11_code 22 = .ok (.aload_n 1, 1) := by decide +kernel
theorem d_K_isBroken_23 : decode prog_2_method_11_code 23 = .ok (.getfield 133, 3) := by decide +kernel
theorem d_K_isBroken_26 : decode prog_2_method_11_code 26 = .ok (.invokevirtual 114, 3) := by decide +kernel
theorem d_K_isBroken_29 : decode prog_2_method_11_code 29 = .ok (.aload_n 1, 1) := by decide +kernel
theorem d_K_isBroken_30 : decode prog_2_method_11_code 30 = .ok (.getfield 136, 3) := by decide +kernel
theorem d_K_isBroken_33 : decode prog_2_method_11_code 33 = .ok (.if_icmp .ne (27), 3) := by decide +kernel
theorem d_K_isBroken_36 : decode prog_2_method_11_code 36 = .ok (.aload_n 0, 1) := by decide +kernel
theorem d_K_isBroken_37 : decode prog_2_method_11_code 37 = .ok (.aload_n 1, 1) := by decide +kernel
theorem d_K_isBroken_38 : decode prog_2_method_11_code 38 = .ok (.getfield 124, 3) := by decide +kernel
theorem d_K_isBroken_41 : decode prog_2_method_11_code 41 = .ok (.iload_n 2, 1) := by decide +kernel
theorem d_K_isBroken_42 : decode prog_2_method_11_code 42 = .ok (.aload_n 1, 1) := by decide +kernel
theorem d_K_isBroken_43 : decode prog_2_method_11_code 43 = .ok (.getfield 139, 3) := by decide +kernel
theorem d_K_isBroken_46 : decode prog_2_method_11_code 46 = .ok (.invokevirtual 86, 3) := by decide +kernel
theorem d_K_isBroken_49 : decode prog_2_method_11_code 49 = .ok (.aload_n 1, 1) := by decide +kernel
theorem d_K_isBroken_50 : decode prog_2_method_11_code 50 = .ok (.getfield 142, 3) := by decide +kernel
theorem d_K_isBroken_53 : decode prog_2_method_11_code 53 = .ok (.if_icmp .ne (7), 3) := by decide +kernel
theorem d_K_isBroken_56 : decode prog_2_method_11_code 56 = .ok (.iconst 1, 1) := by decide +kernel
theorem d_K_isBroken_57 : decode prog_2_method_11_code 57 = .ok (.goto (4), 3) := by decide +kernel
theorem d_K_isBroken_60 : decode prog_2_method_11_code 60 = .ok (.iconst 0, 1) := by decide +kernel
theorem d_K_isBroken_61 : decode prog_2_method_11_code 61 = .ok (.ireturn, 1) := by decide +kernel
def Y_K_isBroken : sdY := ("SettingsDesk$Check", prog_2_method_11_code, 3, (some .boolean), .code y_K_isBroken prog_2_method_11_code 3 (some .boolean) :: sdB0, { frames := 3, cells := 0, slots := 0, locals := 68 }, 0, 0)
theorem cw_K_isBroken_K_isNothing_86 : sd_cwV Y_K_isBroken Y_K_isNothing y_K_isNothing 86 3 "SettingsDesk$Check" := ⟨sd_goodV q187 q189 q190 q191 q188, ⟨_, rfl⟩, ⟨rfl, rfl, rfl, rfl⟩, ⟨rfl, by decide, by decide, by decide +kernel⟩, ⟨by decide, by decide⟩⟩
theorem cw_K_isBroken_K_whatIs_114 : sd_cwV Y_K_isBroken Y_K_whatIs y_K_whatIs 114 3 "SettingsDesk$Check" := ⟨sd_goodV q201 q203 q204 q191 q202, ⟨_, rfl⟩, ⟨rfl, rfl, rfl, rfl⟩, ⟨rfl, by decide, by decide, by decide +kernel⟩, ⟨by decide, by decide⟩⟩
section
variable {l : Launch} {D : va_G} {dA : Nat → ClassId} {b n : Nat} {ad : Nat → Nat} {L : Nat → sdL} {sc : Option (Nat × Nat × (Nat → Int32))}
def k_K_isBroken_61 (o : Nat) (se : Nat) (tr : Nat) (Q : Int32 → sdM → Prop) (M : sdM) (s0 : Int32) : Prop := sdB s0 ∧ Q s0 M
set_option maxHeartbeats 1000000 in
theorem t_K_isBroken_61 {o : Nat} {se : Nat} {tr : Nat} (hA : sd_ad b n ad) (hT : l.stackTraces = false) (ho : isK n L dA o se tr) {Q : Int32 → sdM → Prop} (M : sdM) (s0 : Int32) (hw : k_K_isBroken_61 o se tr Q M s0) : sdW l (sdE0 sc) Y_K_isBroken D (sd_tys dA) b n ad L ad (sd_H D (sdE0 sc).1 n ad L) (sd_qi Q) sd_xf 61 [] [.int s0] M 0 0 := by
  unfold k_K_isBroken_61 at hw
  exact x_zret d_K_isBroken_61 rfl (sdB_n hw.1) (fun _ h => h) ⟨_, rfl, hw.2⟩
def k_K_isBroken_60 (o : Nat) (se : Nat) (tr : Nat) (Q : Int32 → sdM → Prop) (M : sdM) : Prop := k_K_isBroken_61 o se tr Q M (0 : Int32)
set_option maxHeartbeats 1000000 in
theorem t_K_isBroken_60 {o : Nat} {se : Nat} {tr : Nat} (hA : sd_ad b n ad) (hT : l.stackTraces = false) (ho : isK n L dA o se tr) {Q : Int32 → sdM → Prop} (M : sdM) (hw : k_K_isBroken_60 o se tr Q M ) : sdW l (sdE0 sc) Y_K_isBroken D (sd_tys dA) b n ad L ad (sd_H D (sdE0 sc).1 n ad L) (sd_qi Q) sd_xf 60 [] [] M 0 0 := by
  unfold k_K_isBroken_60 at hw
  refine x_iconst (v := 0) d_K_isBroken_60 (by decide) ?_
  exact t_K_isBroken_61 hA hT ho M (0 : Int32) hw
def w_K_isBroken (o : Nat) (se : Nat) (tr : Nat) (M : sdM) (p1 : Nat) (a2 : Int32) (Q : Int32 → sdM → Prop) : Prop := w_K_isNothing o se tr M (M p1 0) a2 (M p1 1) (fun r8 M7 => (¬ r8 = 0 → k_K_isBroken_60 o se tr Q M7) ∧ (r8 = 0 → w_K_whatIs o se tr M7 (M7 p1 0) a2 (M7 p1 1) (fun r10 M9 => (¬ r10 = (M9 p1 2) → k_K_isBroken_60 o se tr Q M9) ∧ (r10 = (M9 p1 2) → w_K_isNothing o se tr M9 (M9 p1 0) a2 (M9 p1 3) (fun r12 M11 => (¬ r12 = (M11 p1 4) → k_K_isBroken_60 o se tr Q M11) ∧ (r12 = (M11 p1 4) → k_K_isBroken_61 o se tr Q M11 (1 : Int32)))))))
set_option maxHeartbeats 1000000 in
theorem c_K_isBroken {p1 : Nat} {a2 : Int32} {o : Nat} {se : Nat} {tr : Nat} (hA : sd_ad b n ad) (hT : l.stackTraces = false) (ho : isK n L dA o se tr) (hp1 : isR n L p1) {Q : Int32 → sdM → Prop} {M : sdM} (hw : w_K_isBroken o se tr M p1 a2 Q) : sd_Cn l (sdE0 sc) y_K_isBroken Y_K_isBroken.2.2.2.2.1 Y_K_isBroken.2.2.2.2.2.1 0 0 D (sd_tys dA) b n ad L M [.ref o, .ref p1, .int a2] (sd_qi Q) sd_xf := by
  refine sd_enter (Y := Y_K_isBroken) rfl rfl rfl (Nat.le_of_ble_eq_true rfl) ?_
  show sdW l (sdE0 sc) Y_K_isBroken D (sd_tys dA) b n ad L ad (sd_H D (sdE0 sc).1 n ad L) (sd_qi Q) sd_xf 0 [(0, .ref o), (1, .ref p1), (2, .int a2)] [] M 0 0
  unfold w_K_isBroken at hw
  refine x_aload_n 0 0 d_K_isBroken_0 rfl rfl ?_
  refine x_aload_n 1 1 d_K_isBroken_1 rfl rfl ?_
  refine x_geti 0 d_K_isBroken_2 hp1.1 hp1.2 rfl rfl (by decide) lay_R (List.mem_cons_of_mem _ q211) rfl ?_
  refine x_iload_n 2 2 d_K_isBroken_5 rfl rfl ?_
  refine x_aload_n 1 1 d_K_isBroken_6 rfl rfl ?_
  refine x_geti 1 d_K_isBroken_7 hp1.1 hp1.2 rfl rfl (by decide) lay_R (List.mem_cons_of_mem _ q212) rfl ?_
  refine x_callVi (As := [.int (M p1 0), .int a2, .int (M p1 1)]) (t := o) (rest := []) (rc := 0) (rs := 0) (c_K_isNothing hA hT ho hw) cw_K_isBroken_K_isNothing_86 ho.1 ho.2.1 rfl d_K_isBroken_10 rfl rfl (Nat.le_of_ble_eq_true rfl) (fun _ _ h => h.elim) (fun _ _ h => h) (fun r8 M7 hw => ?_)
  refine x_if_ne 60 d_K_isBroken_13 rfl (fun hc => ?_) (fun hc => ?_)
  · have hw := hw.1 hc
    refine x_sub [] [] rfl ?_
    exact t_K_isBroken_60 hA hT ho M7 hw
  · have hw := hw.2 hc
    refine x_aload_n 0 0 d_K_isBroken_16 rfl rfl ?_
    refine x_aload_n 1 1 d_K_isBroken_17 rfl rfl ?_
    refine x_geti 0 d_K_isBroken_18 hp1.1 hp1.2 rfl rfl (by decide) lay_R (List.mem_cons_of_mem _ q211) rfl ?_
    refine x_iload_n 2 2 d_K_isBroken_21 rfl rfl ?_
    refine x_aload_n 1 1 d_K_isBroken_22 rfl rfl ?_
    refine x_geti 1 d_K_isBroken_23 hp1.1 hp1.2 rfl rfl (by decide) lay_R (List.mem_cons_of_mem _ q212) rfl ?_
    refine x_callVi (As := [.int (M7 p1 0), .int a2, .int (M7 p1 1)]) (t := o) (rest := []) (rc := 0) (rs := 0) (c_K_whatIs hA hT ho hw) cw_K_isBroken_K_whatIs_114 ho.1 ho.2.1 rfl d_K_isBroken_26 rfl rfl (Nat.le_of_ble_eq_true rfl) (fun _ _ h => h.elim) (fun _ _ h => h) (fun r10 M9 hw => ?_)
    refine x_aload_n 1 1 d_K_isBroken_29 rfl rfl ?_
    refine x_geti 2 d_K_isBroken_30 hp1.1 hp1.2 rfl rfl (by decide) lay_R (List.mem_cons_of_mem _ q213) rfl ?_
    refine x_icmp_ne 60 d_K_isBroken_33 rfl (fun hc => ?_) (fun hc => ?_)
    · have hw := hw.1 hc
      refine x_sub [] [] rfl ?_
      exact t_K_isBroken_60 hA hT ho M9 hw
    · have hw := hw.2 hc
      refine x_aload_n 0 0 d_K_isBroken_36 rfl rfl ?_
      refine x_aload_n 1 1 d_K_isBroken_37 rfl rfl ?_
      refine x_geti 0 d_K_isBroken_38 hp1.1 hp1.2 rfl rfl (by decide) lay_R (List.mem_cons_of_mem _ q211) rfl ?_
      refine x_iload_n 2 2 d_K_isBroken_41 rfl rfl ?_
      refine x_aload_n 1 1 d_K_isBroken_42 rfl rfl ?_
      refine x_geti 3 d_K_isBroken_43 hp1.1 hp1.2 rfl rfl (by decide) lay_R (List.mem_cons_of_mem _ q214) rfl ?_
      refine x_callVi (As := [.int (M9 p1 0), .int a2, .int (M9 p1 3)]) (t := o) (rest := []) (rc := 0) (rs := 0) (c_K_isNothing hA hT ho hw) cw_K_isBroken_K_isNothing_86 ho.1 ho.2.1 rfl d_K_isBroken_46 rfl rfl (Nat.le_of_ble_eq_true rfl) (fun _ _ h => h.elim) (fun _ _ h => h) (fun r12 M11 hw => ?_)
      refine x_aload_n 1 1 d_K_isBroken_49 rfl rfl ?_
      refine x_geti 4 d_K_isBroken_50 hp1.1 hp1.2 rfl rfl (by decide) lay_R (List.mem_cons_of_mem _ q215) rfl ?_
      refine x_icmp_ne 60 d_K_isBroken_53 rfl (fun hc => ?_) (fun hc => ?_)
      · have hw := hw.1 hc
        refine x_sub [] [] rfl ?_
        exact t_K_isBroken_60 hA hT ho M11 hw
      · have hw := hw.2 hc
        refine x_iconst (v := 1) d_K_isBroken_56 (by decide) ?_
        refine x_goto 61 d_K_isBroken_57 rfl ?_
        refine x_sub [] [] rfl ?_
        exact t_K_isBroken_61 hA hT ho M11 (1 : Int32) hw
end
theorem q216 : (.fieldLink "SettingsDesk$Check" 117 "SettingsDesk$Schema" "ruleCount" "I" : Cond) ∈ sdB0 := sd_tb1 115 rfl rfl
theorem q217 : (.fieldLink "SettingsDesk$Check" 120 "SettingsDesk$Schema" "rules" "[LSettingsDesk$Rule;" : Cond) ∈ sdB0 := sd_tb1 117 rfl rfl
theorem q218 : (.methodLink "SettingsDesk$Check" 129 ⟨"SettingsDesk$Check", "isBroken", "(LSettingsDesk$Rule;I)Z"⟩ : Cond) ∈ sdB0 := sd_tb3 77 rfl rfl
theorem q219 : (.code ⟨"SettingsDesk$Check", "isBroken", "(LSettingsDesk$Rule;I)Z"⟩ prog_2_method_11_code 3 (some .boolean) : Cond) ∈ sdB0 := sd_tb3 80 rfl rfl
theorem q220 : (.instanceMethod ⟨"SettingsDesk$Check", "isBroken", "(LSettingsDesk$Rule;I)Z"⟩ : Cond) ∈ sdB0 := sd_tb3 78 rfl rfl
theorem q221 : (.selects "SettingsDesk$Check" ⟨"SettingsDesk$Check", "isBroken", "(LSettingsDesk$Rule;I)Z"⟩ ⟨"SettingsDesk$Check", "isBroken", "(LSettingsDesk$Rule;I)Z"⟩ : Cond) ∈ sdB0 := sd_tb3 79 rfl rfl
abbrev y_K_breaksRule : MethodName := ⟨"SettingsDesk$Check", "breaksRule", "(II)Z"⟩
theorem d_K_breaksRule_0 : decode prog_2_method_10_code 0 = .ok (.iconst 0, 1) := by decide +kernel
theorem d_K_breaksRule_1 : decode prog_2_method_10_code 1 = .ok (.istore_n 3, 1) := by decide +kernel
theorem d_K_breaksRule_2 : decode prog_2_method_10_code 2 = .ok (.iload_n 3, 1) := by decide +kernel
theorem d_K_breaksRule_3 : decode prog_2_method_10_code 3 = .ok (.aload_n 0, 1) := by decide +kernel
theorem d_K_breaksRule_4 : decode prog_2_method_10_code 4 = .ok (.getfield 9, 3) := by decide +kernel
theorem d_K_breaksRule_7 : decode prog_2_method_10_code 7 = .ok (.getfield 117, 3) := by decide +kernel
theorem d_K_breaksRule_10 : decode prog_2_method_10_code 10 = .ok (.if_icmp .ge (60), 3) := by decide +kernel
theorem d_K_breaksRule_13 : decode prog_2_method_10_code 13 = .ok (.aload_n 0, 1) := by decide +kernel
theorem d_K_breaksRule_14 : decode prog_2_method_10_code 14 = .ok (.getfield 9, 3) := by decide +kernel
theorem d_K_breaksRule_17 : decode prog_2_method_10_code 17 = .ok (.getfield 120, 3) := by decide +kernel
theorem d_K_breaksRule_20 : decode prog_2_method_10_code 20 = .ok (.iload_n 3, 1) := by decide +kernel
theorem d_K_breaksRule_21 : decode prog_2_method_10_code 21 = .ok (.aaload, 1) := by decide +kernel
theorem d_K_breaksRule_22 : decode prog_2_method_10_code 22 = .ok (.astore 4, 2) := by decide +kernel
theorem d_K_breaksRule_24 : decode prog_2_method_10_code 24 = .ok (.aload 4, 2) := by decide +kernel
theorem d_K_breaksRule_26 : decode prog_2_method_10_code 26 = .ok (.getfield 124, 3) := by decide +kernel
theorem d_K_breaksRule_29 : decode prog_2_method_10_code 29 = .ok (.iload_n 1, 1) := by decide +kernel
theorem d_K_breaksRule_30 : decode prog_2_method_10_code 30 = .ok (.if_icmp .ne (34), 3) := by decide +kernel
theorem d_K_breaksRule_33 : decode prog_2_method_10_code 33 = .ok (.aload_n 0, 1) := by decide +kernel
theorem d_K_breaksRule_34 : decode prog_2_method_10_code 34 = .ok (.aload 4, 2) := by decide +kernel
theorem d_K_breaksRule_36 : decode prog_2_method_10_code 36 = .ok (.iload_n 2, 1) := by decide +kernel
theorem d_K_breaksRule_37 : decode prog_2_method_10_code 37 = .ok (.invokevirtual 129, 3) := by decide +kernel
theorem d_K_breaksRule_40 : decode prog_2_method_10_code 40 = .ok (.ifCond .eq (24), 3) := by decide +kernel
theorem d_K_breaksRule_43 : decode prog_2_method_10_code 43 = .ok (.aload_n 0, 1) := by decide +kernel
theorem d_K_breaksRule_44 : decode prog_2_method_10_code 44 = .ok (.getfield 19, 3) := by decide +kernel
theorem d_K_breaksRule_47 : decode prog_2_method_10_code 47 = .ok (.iconst 4, 1) := by decide +kernel
theorem d_K_breaksRule_48 : decode prog_2_method_10_code 48 = .ok (.iload_n 1, 1) := by decide +kernel
theorem d_K_breaksRule_49 : decode prog_2_method_10_code 49 = .ok (.aload_n 0, 1) := by decide +kernel
theorem d_K_breaksRule_50 : decode prog_2_method_10_code 50 = .ok (.getfield 15, 3) := by decide +kernel
theorem d_K_breaksRule_53 : decode prog_2_method_10_code 53 = .ok (.getfield 89, 3) := by decide +kernel
theorem d_K_breaksRule_56 : decode prog_2_method_10_code 56 = .ok (.iload_n 2, 1) := by decide +kernel
theorem d_K_breaksRule_57 : decode prog_2_method_10_code 57 = .ok (.iaload, 1) := by decide +kernel
theorem d_K_breaksRule_58 : decode prog_2_method_10_code 58 = .ok (.iload_n 3, 1) := by decide +kernel
theorem d_K_breaksRule_59 : decode prog_2_method_10_code 59 = .ok (.invokevirtual 59, 3) := by decide +kernel
theorem d_K_breaksRule_62 : decode prog_2_method_10_code 62 = .ok (.iconst 1, 1) := by decide +kernel
theorem d_K_breaksRule_63 : decode prog_2_method_10_code 63 = .ok (.ireturn, 1) := by decide +kernel
theorem d_K_breaksRule_64 : decode prog_2_method_10_code 64 = .ok (.iinc 3 (1), 3) := by decide +kernel
theorem d_K_breaksRule_67 : decode prog_2_method_10_code 67 = .ok (.goto (-65), 3) := by decide +kernel
theorem d_K_breaksRule_70 : decode prog_2_method_10_code 70 = .ok (.iconst 0, 1) := by decide +kernel
theorem d_K_breaksRule_71 : decode prog_2_method_10_code 71 = .ok (.ireturn, 1) := by decide +kernel
def Y_K_breaksRule : sdY := ("SettingsDesk$Check", prog_2_method_10_code, 5, (some .boolean), .code y_K_breaksRule prog_2_method_10_code 5 (some .boolean) :: sdB0, { frames := 4, cells := 0, slots := 0, locals := 90 }, 0, 0)
theorem cw_K_breaksRule_K_isBroken_129 : sd_cwV Y_K_breaksRule Y_K_isBroken y_K_isBroken 129 2 "SettingsDesk$Check" := ⟨sd_goodV q218 q220 q221 q191 q219, ⟨_, rfl⟩, ⟨rfl, rfl, rfl, rfl⟩, ⟨rfl, by decide, by decide, by decide +kernel⟩, ⟨by decide, by decide⟩⟩
theorem cw_K_breaksRule_T_note_59 : sd_cwV Y_K_breaksRule Y_T_note y_T_note 59 4 "SettingsDesk$Trouble" := ⟨sd_goodV q178 q116 q117 q118 q115, ⟨_, rfl⟩, ⟨rfl, rfl, rfl, rfl⟩, ⟨rfl, by decide, by decide, by decide +kernel⟩, ⟨by decide, by decide⟩⟩
section
variable {l : Launch} {D : va_G} {dA : Nat → ClassId} {b n : Nat} {ad : Nat → Nat} {L : Nat → sdL} {sc : Option (Nat × Nat × (Nat → Int32))}
def k_K_breaksRule_64 (o : Nat) (se : Nat) (tr : Nat) (Q : Int32 → sdM → Prop) (k2 : sdM → Int32 → Int32 → Int32 → Prop) (M : sdM) (x1 : Int32) (x2 : Int32) (x3 : Int32) : Prop := k2 M x1 x2 (x3 + 1)
set_option maxHeartbeats 1000000 in
theorem t_K_breaksRule_64 {o : Nat} {se : Nat} {tr : Nat} (hA : sd_ad b n ad) (hT : l.stackTraces = false) (ho : isK n L dA o se tr) {Q : Int32 → sdM → Prop} {k2 : sdM → Int32 → Int32 → Int32 → Prop} (hk2 : ∀ (M : sdM) (x1 : Int32) (x2 : Int32) (x3 : Int32), k2 M x1 x2 x3 → sdW l (sdE0 sc) Y_K_breaksRule D (sd_tys dA) b n ad L ad (sd_H D (sdE0 sc).1 n ad L) (sd_qi Q) sd_xf 2 [(0, .ref o), (1, .int x1), (2, .int x2), (3, .int x3)] [] M 0 0) (M : sdM) (x1 : Int32) (x2 : Int32) (x3 : Int32) (hw : k_K_breaksRule_64 o se tr Q k2 M x1 x2 x3) : sdW l (sdE0 sc) Y_K_breaksRule D (sd_tys dA) b n ad L ad (sd_H D (sdE0 sc).1 n ad L) (sd_qi Q) sd_xf 64 [(0, .ref o), (1, .int x1), (2, .int x2), (3, .int x3)] [] M 0 0 := by
  unfold k_K_breaksRule_64 at hw
  refine x_iinc 3 3 [(3, .int (x3 + 1)), (0, .ref o), (1, .int x1), (2, .int x2)] d_K_breaksRule_64 rfl (congrArg (HAdd.hAdd x3) (show Int32.ofInt 1 = 1 by decide)) (by decide) rfl ?_
  refine x_goto 2 d_K_breaksRule_67 rfl ?_
  refine x_sub [1, 2, 3, 0] [(0, .ref o), (1, .int x1), (2, .int x2), (3, .int (x3 + 1))] rfl ?_
  exact hk2 M x1 x2 (x3 + 1) hw
def h_K_breaksRule_2 (o : Nat) (se : Nat) (tr : Nat) (Q : Int32 → sdM → Prop) : Nat → sdM → Int32 → Int32 → Int32 → Prop
  | 0, _, _, _, _ => False
  | N + 1, M, x1, x2, x3 => ((M 1 4) ≤ x3 → sdB (0 : Int32) ∧ Q (0 : Int32) M) ∧ (¬ (M 1 4) ≤ x3 → vp_in x3 4 ∧ (¬ (M (21 + x3.toNatClampNeg) 0) = x1 → k_K_breaksRule_64 o se tr Q (fun M x1 x2 x3 => h_K_breaksRule_2 o se tr Q N M x1 x2 x3) M x1 x2 x3) ∧ ((M (21 + x3.toNatClampNeg) 0) = x1 → w_K_isBroken o se tr M (21 + x3.toNatClampNeg) x2 (fun r8 M7 => (r8 = 0 → k_K_breaksRule_64 o se tr Q (fun M x1 x2 x3 => h_K_breaksRule_2 o se tr Q N M x1 x2 x3) M7 x1 x2 x3) ∧ (¬ r8 = 0 → vp_in x2 48 ∧ w_T_note tr M7 (4 : Int32) x1 (M7 (se + 2) x2.toNatClampNeg) x3 (fun M10 => sdB (1 : Int32) ∧ Q (1 : Int32) M10)))))
set_option maxHeartbeats 1000000 in
theorem t_K_breaksRule_2 {o : Nat} {se : Nat} {tr : Nat} (hA : sd_ad b n ad) (hT : l.stackTraces = false) (ho : isK n L dA o se tr) {Q : Int32 → sdM → Prop} (N : Nat) : ∀ (M : sdM) (x1 : Int32) (x2 : Int32) (x3 : Int32), h_K_breaksRule_2 o se tr Q N M x1 x2 x3 → sdW l (sdE0 sc) Y_K_breaksRule D (sd_tys dA) b n ad L ad (sd_H D (sdE0 sc).1 n ad L) (sd_qi Q) sd_xf 2 [(0, .ref o), (1, .int x1), (2, .int x2), (3, .int x3)] [] M 0 0 := by
  induction N with
  | zero => intro M x1 x2 x3 hw; exact hw.elim
  | succ N ih =>
    intro M x1 x2 x3 hw
    rw [h_K_breaksRule_2] at hw
    refine x_iload_n 3 3 d_K_breaksRule_2 rfl rfl ?_
    refine x_aload_n 0 0 d_K_breaksRule_3 rfl rfl ?_
    refine x_getr 0 1 d_K_breaksRule_4 ho.1 ho.2.1 rfl rfl (by decide) lay_K (List.mem_cons_of_mem _ q173) rfl ?_
    refine x_geti 4 d_K_breaksRule_7 ho.schema.1 ho.schema.2.1 rfl rfl (by decide) lay_C (List.mem_cons_of_mem _ q216) rfl ?_
    refine x_icmp_ge 70 d_K_breaksRule_10 rfl (fun hc => ?_) (fun hc => ?_)
    · have hw := hw.1 hc
      refine x_iconst (v := 0) d_K_breaksRule_70 (by decide) ?_
      exact x_zret d_K_breaksRule_71 rfl (sdB_n hw.1) (fun _ h => h) ⟨_, rfl, hw.2⟩
    · have hw := hw.2 hc
      refine x_aload_n 0 0 d_K_breaksRule_13 rfl rfl ?_
      refine x_getr 0 1 d_K_breaksRule_14 ho.1 ho.2.1 rfl rfl (by decide) lay_K (List.mem_cons_of_mem _ q173) rfl ?_
      refine x_getr 5 4 d_K_breaksRule_17 ho.schema.1 ho.schema.2.1 rfl rfl (by decide) lay_C (List.mem_cons_of_mem _ q217) rfl ?_
      refine x_iload_n 3 3 d_K_breaksRule_20 rfl rfl ?_
      obtain ⟨hi6, hw⟩ := hw
      refine x_aald (21 + x3.toNatClampNeg) d_K_breaksRule_21 ho.schema.rules.1 ho.schema.rules.2 (t0 := 4) rfl hi6 rfl ?_
      refine x_astore 4 [(4, .ref (21 + x3.toNatClampNeg)), (0, .ref o), (1, .int x1), (2, .int x2), (3, .int x3)] d_K_breaksRule_22 (by decide) rfl ?_
      refine x_aload 4 0 d_K_breaksRule_24 rfl ?_
      refine x_geti 0 d_K_breaksRule_26 (ho.schema.rulesAt hi6).1 (ho.schema.rulesAt hi6).2 rfl rfl (by decide) lay_R (List.mem_cons_of_mem _ q211) rfl ?_
      refine x_iload_n 1 2 d_K_breaksRule_29 rfl rfl ?_
      refine x_icmp_ne 64 d_K_breaksRule_30 rfl (fun hc => ?_) (fun hc => ?_)
      · have hw := hw.1 hc
        refine x_sub [1, 2, 3, 4] [(0, .ref o), (1, .int x1), (2, .int x2), (3, .int x3)] rfl ?_
        exact t_K_breaksRule_64 hA hT ho (fun M x1 x2 x3  hw => ih M x1 x2 x3 hw) M x1 x2 x3 hw
      · have hw := hw.2 hc
        refine x_aload_n 0 1 d_K_breaksRule_33 rfl rfl ?_
        refine x_aload 4 0 d_K_breaksRule_34 rfl ?_
        refine x_iload_n 2 3 d_K_breaksRule_36 rfl rfl ?_
        refine x_callVi (As := [.ref (21 + x3.toNatClampNeg), .int x2]) (t := o) (rest := []) (rc := 0) (rs := 0) (c_K_isBroken hA hT ho (ho.schema.rulesAt hi6) hw) cw_K_breaksRule_K_isBroken_129 ho.1 ho.2.1 rfl d_K_breaksRule_37 rfl rfl (Nat.le_of_ble_eq_true rfl) (fun _ _ h => h.elim) (fun _ _ h => h) (fun r8 M7 hw => ?_)
        refine x_if_eq 64 d_K_breaksRule_40 rfl (fun hc => ?_) (fun hc => ?_)
        · have hw := hw.1 hc
          refine x_sub [1, 2, 3, 4] [(0, .ref o), (1, .int x1), (2, .int x2), (3, .int x3)] rfl ?_
          exact t_K_breaksRule_64 hA hT ho (fun M x1 x2 x3  hw => ih M x1 x2 x3 hw) M7 x1 x2 x3 hw
        · have hw := hw.2 hc
          refine x_aload_n 0 1 d_K_breaksRule_43 rfl rfl ?_
          refine x_getr 2 tr d_K_breaksRule_44 ho.1 ho.2.1 rfl rfl (by decide) lay_K (List.mem_cons_of_mem _ q177) rfl ?_
          refine x_iconst (v := 4) d_K_breaksRule_47 (by decide) ?_
          refine x_iload_n 1 2 d_K_breaksRule_48 rfl rfl ?_
          refine x_aload_n 0 1 d_K_breaksRule_49 rfl rfl ?_
          refine x_getr 1 se d_K_breaksRule_50 ho.1 ho.2.1 rfl rfl (by decide) lay_K (List.mem_cons_of_mem _ q175) rfl ?_
          refine x_getr 1 (se + 2) d_K_breaksRule_53 ho.settings.1 ho.settings.2.1 rfl rfl (by decide) lay_S (List.mem_cons_of_mem _ q186) rfl ?_
          refine x_iload_n 2 3 d_K_breaksRule_56 rfl rfl ?_
          obtain ⟨hi9, hw⟩ := hw
          refine x_iald d_K_breaksRule_57 ho.settings.keys.1 ho.settings.keys.2 rfl hi9 ?_
          refine x_iload_n 3 4 d_K_breaksRule_58 rfl rfl ?_
          refine x_callVv (As := [.int (4 : Int32), .int x1, .int (M7 (se + 2) x2.toNatClampNeg), .int x3]) (t := tr) (rest := []) (rc := 0) (rs := 0) (c_T_note hA hT ho.trouble hw) cw_K_breaksRule_T_note_59 ho.trouble.1 ho.trouble.2 rfl d_K_breaksRule_59 rfl rfl (Nat.le_of_ble_eq_true rfl) (fun _ _ h => h.elim) (fun _ _ h => h) (fun M10 hw => ?_)
          refine x_iconst (v := 1) d_K_breaksRule_62 (by decide) ?_
          exact x_zret d_K_breaksRule_63 rfl (sdB_n hw.1) (fun _ h => h) ⟨_, rfl, hw.2⟩
def w_K_breaksRule (o : Nat) (se : Nat) (tr : Nat) (M : sdM) (a1 : Int32) (a2 : Int32) (Q : Int32 → sdM → Prop) : Prop := ∃ N9 : Nat, h_K_breaksRule_2 o se tr Q N9 M a1 a2 (0 : Int32)
set_option maxHeartbeats 1000000 in
theorem c_K_breaksRule {a1 : Int32} {a2 : Int32} {o : Nat} {se : Nat} {tr : Nat} (hA : sd_ad b n ad) (hT : l.stackTraces = false) (ho : isK n L dA o se tr) {Q : Int32 → sdM → Prop} {M : sdM} (hw : w_K_breaksRule o se tr M a1 a2 Q) : sd_Cn l (sdE0 sc) y_K_breaksRule Y_K_breaksRule.2.2.2.2.1 Y_K_breaksRule.2.2.2.2.2.1 0 0 D (sd_tys dA) b n ad L M [.ref o, .int a1, .int a2] (sd_qi Q) sd_xf := by
  refine sd_enter (Y := Y_K_breaksRule) rfl rfl rfl (Nat.le_of_ble_eq_true rfl) ?_
  show sdW l (sdE0 sc) Y_K_breaksRule D (sd_tys dA) b n ad L ad (sd_H D (sdE0 sc).1 n ad L) (sd_qi Q) sd_xf 0 [(0, .ref o), (1, .int a1), (2, .int a2)] [] M 0 0
  unfold w_K_breaksRule at hw
  refine x_iconst (v := 0) d_K_breaksRule_0 (by decide) ?_
  refine x_istore_n 3 [(3, .int (0 : Int32)), (0, .ref o), (1, .int a1), (2, .int a2)] d_K_breaksRule_1 rfl (by decide) rfl ?_
  refine x_sub [1, 2, 3, 0] [(0, .ref o), (1, .int a1), (2, .int a2), (3, .int (0 : Int32))] rfl ?_
  obtain ⟨N9, hw⟩ := hw
  exact t_K_breaksRule_2 hA hT ho N9 M a1 a2 (0 : Int32) hw
end
theorem q222 : (.methodLink "SettingsDesk$Check" 23 ⟨"SettingsDesk$Check", "isCrowded", "()Z"⟩ : Cond) ∈ sdB0 := sd_tb3 24 rfl rfl
theorem q223 : (.code ⟨"SettingsDesk$Check", "isCrowded", "()Z"⟩ prog_2_method_3_code 2 (some .boolean) : Cond) ∈ sdB0 := sd_tb3 27 rfl rfl
theorem q224 : (.instanceMethod ⟨"SettingsDesk$Check", "isCrowded", "()Z"⟩ : Cond) ∈ sdB0 := sd_tb3 25 rfl rfl
theorem q225 : (.selects "SettingsDesk$Check" ⟨"SettingsDesk$Check", "isCrowded", "()Z"⟩ ⟨"SettingsDesk$Check", "isCrowded", "()Z"⟩ : Cond) ∈ sdB0 := sd_tb3 26 rfl rfl
theorem q226 : (.methodLink "SettingsDesk$Check" 39 ⟨"SettingsDesk$Settings", "endRow", "(I)I"⟩ : Cond) ∈ sdB0 := sd_tb3 33 rfl rfl
theorem q227 : (.methodLink "SettingsDesk$Check" 42 ⟨"SettingsDesk$Check", "lacksLeaf", "(II)Z"⟩ : Cond) ∈ sdB0 := sd_tb3 34 rfl rfl
theorem q228 : (.code ⟨"SettingsDesk$Check", "lacksLeaf", "(II)Z"⟩ prog_2_method_6_code 4 (some .boolean) : Cond) ∈ sdB0 := sd_tb3 37 rfl rfl
theorem q229 : (.instanceMethod ⟨"SettingsDesk$Check", "lacksLeaf", "(II)Z"⟩ : Cond) ∈ sdB0 := sd_tb3 35 rfl rfl
theorem q230 : (.selects "SettingsDesk$Check" ⟨"SettingsDesk$Check", "lacksLeaf", "(II)Z"⟩ ⟨"SettingsDesk$Check", "lacksLeaf", "(II)Z"⟩ : Cond) ∈ sdB0 := sd_tb3 36 rfl rfl
theorem q231 : (.methodLink "SettingsDesk$Check" 46 ⟨"SettingsDesk$Check", "pointsNowhere", "(II)Z"⟩ : Cond) ∈ sdB0 := sd_tb3 47 rfl rfl
theorem q232 : (.code ⟨"SettingsDesk$Check", "pointsNowhere", "(II)Z"⟩ prog_2_method_7_code 5 (some .boolean) : Cond) ∈ sdB0 := sd_tb3 50 rfl rfl
theorem q233 : (.instanceMethod ⟨"SettingsDesk$Check", "pointsNowhere", "(II)Z"⟩ : Cond) ∈ sdB0 := sd_tb3 48 rfl rfl
theorem q234 : (.selects "SettingsDesk$Check" ⟨"SettingsDesk$Check", "pointsNowhere", "(II)Z"⟩ ⟨"SettingsDesk$Check", "pointsNowhere", "(II)Z"⟩ : Cond) ∈ sdB0 := sd_tb3 49 rfl rfl
theorem q235 : (.methodLink "SettingsDesk$Check" 49 ⟨"SettingsDesk$Check", "repeatsLeaf", "(II)Z"⟩ : Cond) ∈ sdB0 := sd_tb3 57 rfl rfl
theorem q236 : (.code ⟨"SettingsDesk$Check", "repeatsLeaf", "(II)Z"⟩ prog_2_method_8_code 4 (some .boolean) : Cond) ∈ sdB0 := sd_tb3 60 rfl rfl
theorem q237 : (.instanceMethod ⟨"SettingsDesk$Check", "repeatsLeaf", "(II)Z"⟩ : Cond) ∈ sdB0 := sd_tb3 58 rfl rfl
theorem q238 : (.selects "SettingsDesk$Check" ⟨"SettingsDesk$Check", "repeatsLeaf", "(II)Z"⟩ ⟨"SettingsDesk$Check", "repeatsLeaf", "(II)Z"⟩ : Cond) ∈ sdB0 := sd_tb3 59 rfl rfl
theorem q239 : (.methodLink "SettingsDesk$Check" 52 ⟨"SettingsDesk$Check", "breaksRule", "(II)Z"⟩ : Cond) ∈ sdB0 := sd_tb3 73 rfl rfl
theorem q240 : (.code ⟨"SettingsDesk$Check", "breaksRule", "(II)Z"⟩ prog_2_method_10_code 5 (some .boolean) : Cond) ∈ sdB0 := sd_tb3 76 rfl rfl
theorem q241 : (.instanceMethod ⟨"SettingsDesk$Check", "breaksRule", "(II)Z"⟩ : Cond) ∈ sdB0 := sd_tb3 74 rfl rfl
theorem q242 : (.selects "SettingsDesk$Check" ⟨"SettingsDesk$Check", "breaksRule", "(II)Z"⟩ ⟨"SettingsDesk$Check", "breaksRule", "(II)Z"⟩ : Cond) ∈ sdB0 := sd_tb3 75 rfl rfl
abbrev y_K_passes : MethodName := ⟨"SettingsDesk$Check", "passes", "()Z"⟩
theorem d_K_passes_0 : decode prog_2_method_2_code 0 = .ok (.aload_n 0, 1) := by decide +kernel
theorem d_K_passes_1 : decode prog_2_method_2_code 1 = .ok (.invokevirtual 23, 3) := by decide +kernel
theorem d_K_passes_4 : decode prog_2_method_2_code 4 = .ok (.ifCond .eq (5), 3) := by decide +kernel
theorem d_K_passes_7 : decode prog_2_method_2_code 7 = .ok (.iconst 0, 1) := by decide +kernel
theorem d_K_passes_8 : decode prog_2_method_2_code 8 = .ok (.ireturn, 1) := by decide +kernel
theorem d_K_passes_9 : decode prog_2_method_2_code 9 = .ok (.iconst 0, 1) := by decide +kernel
theorem d_K_passes_10 : decode prog_2_method_2_code 10 = .ok (.istore_n 1, 1) := by decide +kernel
theorem d_K_passes_11 : decode prog_2_method_2_code 11 = .ok (.iload_n 1, 1) := by decide +kernel
theorem d_K_passes_12 : decode prog_2_method_2_code 12 = .ok (.aload_n 0, 1) := by decide +kernel
theorem d_K_passes_13 : decode prog_2_method_2_code 13 = .ok (.getfield 9, 3) := by decide +kernel
theorem d_K_passes_16 : decode prog_2_method_2_code 16 = .ok (.getfield 27, 3) := by decide +kernel
theorem d_K_passes_19 : decode prog_2_method_2_code 19 = .ok (.if_icmp .ge (74), 3) := by decide +kernel
theorem d_K_passes_22 : decode prog_2_method_2_code 22 = .ok (.aload_n 0, 1) := by decide +kernel
theorem d_K_passes_23 : decode prog_2_method_2_code 23 = .ok (.getfield 15, 3) := by decide +kernel
theorem d_K_passes_26 : decode prog_2_method_2_code 26 = .ok (.iload_n 1, 1) := by decide +kernel
theorem d_K_passes_27 : decode prog_2_method_2_code 27 = .ok (.invokevirtual 33, 3) := by decide +kernel
theorem d_K_passes_30 : decode prog_2_method_2_code 30 = .ok (.istore_n 2, 1) := by decide +kernel
theorem d_K_passes_31 : decode prog_2_method_2_code 31 = .ok (.iload_n 2, 1) := by decide +kernel
theorem d_K_passes_32 : decode prog_2_method_2_code 32 = .ok (.aload_n 0, 1) := by decide +kernel
theorem d_K_passes_33 : decode prog_2_method_2_code 33 = .ok (.getfield 15, 3) := by decide +kernel
theorem d_K_passes_36 : decode prog_2_method_2_code 36 = .ok (.iload_n 1, 1) := by decide +kernel
theorem d_K_passes_37 : decode prog_2_method_2_code 37 = .ok (.invokevirtual 39, 3) := by decide +kernel
theorem d_K_passes_40 : decode prog_2_method_2_code 40 = .ok (.if_icmp .ge (47), 3) := by decide +kernel
theorem d_K_passes_43 : decode prog_2_method_2_code 43 = .ok (.aload_n 0, 1) := by decide +kernel
theorem d_K_passes_44 : decode prog_2_method_2_code 44 = .ok (.iload_n 1, 1) := by decide +kernel
theorem d_K_passes_45 : decode prog_2_method_2_code 45 = .ok (.iload_n 2, 1) := by decide +kernel
theorem d_K_passes_46 : decode prog_2_method_2_code 46 = .ok (.invokevirtual 42, 3) := by decide +kernel
theorem d_K_passes_49 : decode prog_2_method_2_code 49 = .ok (.ifCond .ne (30), 3) := by decide +kernel
theorem d_K_passes_52 : decode prog_2_method_2_code 52 = .ok (.aload_n 0, 1) := by decide +kernel
theorem d_K_passes_53 : decode prog_2_method_2_code 53 = .ok (.iload_n 1, 1) := by decide +kernel
theorem d_K_passes_54 : decode prog_2_method_2_code 54 = .ok (.iload_n 2, 1) := by decide +kernel
theorem d_K_passes_55 : decode prog_2_method_2_code 55 = .ok (.invokevirtual 46, 3) := by decide +kernel
theorem d_K_passes_58 : decode prog_2_method_2_code 58 = .ok (.ifCond .ne (21), 3) := by decide +kernel
theorem d_K_passes_61 : decode prog_2_method_2_code 61 = .ok (.aload_n 0, 1) := by decide +kernel
theorem d_K_passes_62 : decode prog_2_method_2_code 62 = .ok (.iload_n 1, 1) := by decide +kernel
theorem d_K_passes_63 : decode prog_2_method_2_code 63 = .ok (.iload_n 2, 1) := by decide +kernel
theorem d_K_passes_64 : decode prog_2_method_2_code 64 = .ok (.invokevirtual 49, 3) := by decide +kernel
theorem d_K_passes_67 : decode prog_2_method_2_code 67 = .ok (.ifCond .ne (12), 3) := by decide +kernel
theorem d_K_passes_70 : decode prog_2_method_2_code 70 = .ok (.aload_n 0, 1) := by decide +kernel
theorem d_K_passes_71 : decode prog_2_method_2_code 71 = .ok (.iload_n 1, 1) := by decide +kernel
theorem d_K_passes_72 : decode prog_2_method_2_code 72 = .ok (.iload_n 2, 1) := by decide +kernel
theorem d_K_passes_73 : decode prog_2_method_2_code 73 = .ok (.invokevirtual 52, 3) := by decide +kernel
theorem d_K_passes_76 : decode prog_2_method_2_code 76 = .ok (.ifCond .eq (5), 3) := by decide +kernel
theorem d_K_passes_79 : decode prog_2_method_2_code 79 = .ok (.iconst 0, 1) := by decide +kernel
theorem d_K_passes_80 : decode prog_2_method_2_code 80 = .ok (.ireturn, 1) := by decide +kernel
theorem d_K_passes_81 : decode prog_2_method_2_code 81 = .ok (.iinc 2 (1), 3) := by decide +kernel
theorem d_K_passes_84 : decode prog_2_method_2_code 84 = .ok (.goto (-53), 3) := by decide +kernel
theorem d_K_passes_87 : decode prog_2_method_2_code 87 = .ok (.iinc 1 (1), 3) := by decide +kernel
theorem d_K_passes_90 : decode prog_2_method_2_code 90 = .ok (.goto (-79), 3) := by decide +kernel
theorem d_K_passes_93 : decode prog_2_method_2_code 93 = .ok (.iconst 1, 1) := by decide +kernel
theorem d_K_passes_94 : decode prog_2_method_2_code 94 = .ok (.ireturn, 1) := by decide +kernel
def Y_K_passes : sdY := ("SettingsDesk$Check", prog_2_method_2_code, 3, (some .boolean), .code y_K_passes prog_2_method_2_code 3 (some .boolean) :: sdB0, { frames := 5, cells := 0, slots := 0, locals := 116 }, 0, 0)
theorem cw_K_passes_K_isCrowded_23 : sd_cwV Y_K_passes Y_K_isCrowded y_K_isCrowded 23 0 "SettingsDesk$Check" := ⟨sd_goodV q222 q224 q225 q191 q223, ⟨_, rfl⟩, ⟨rfl, rfl, rfl, rfl⟩, ⟨rfl, by decide, by decide, by decide +kernel⟩, ⟨by decide, by decide⟩⟩
theorem cw_K_passes_S_firstRow_33 : sd_cwV Y_K_passes Y_S_firstRow y_S_firstRow 33 1 "SettingsDesk$Settings" := ⟨sd_goodV q205 q19 q20 q7 q18, ⟨_, rfl⟩, ⟨rfl, rfl, rfl, rfl⟩, ⟨rfl, by decide, by decide, by decide +kernel⟩, ⟨by decide, by decide⟩⟩
theorem cw_K_passes_S_endRow_39 : sd_cwV Y_K_passes Y_S_endRow y_S_endRow 39 1 "SettingsDesk$Settings" := ⟨sd_goodV q226 q23 q24 q7 q22, ⟨_, rfl⟩, ⟨rfl, rfl, rfl, rfl⟩, ⟨rfl, by decide, by decide, by decide +kernel⟩, ⟨by decide, by decide⟩⟩
theorem cw_K_passes_K_lacksLeaf_42 : sd_cwV Y_K_passes Y_K_lacksLeaf y_K_lacksLeaf 42 2 "SettingsDesk$Check" := ⟨sd_goodV q227 q229 q230 q191 q228, ⟨_, rfl⟩, ⟨rfl, rfl, rfl, rfl⟩, ⟨rfl, by decide, by decide, by decide +kernel⟩, ⟨by decide, by decide⟩⟩
theorem cw_K_passes_K_pointsNowhere_46 : sd_cwV Y_K_passes Y_K_pointsNowhere y_K_pointsNowhere 46 2 "SettingsDesk$Check" := ⟨sd_goodV q231 q233 q234 q191 q232, ⟨_, rfl⟩, ⟨rfl, rfl, rfl, rfl⟩, ⟨rfl, by decide, by decide, by decide +kernel⟩, ⟨by decide, by decide⟩⟩
theorem cw_K_passes_K_repeatsLeaf_49 : sd_cwV Y_K_passes Y_K_repeatsLeaf y_K_repeatsLeaf 49 2 "SettingsDesk$Check" := ⟨sd_goodV q235 q237 q238 q191 q236, ⟨_, rfl⟩, ⟨rfl, rfl, rfl, rfl⟩, ⟨rfl, by decide, by decide, by decide +kernel⟩, ⟨by decide, by decide⟩⟩
theorem cw_K_passes_K_breaksRule_52 : sd_cwV Y_K_passes Y_K_breaksRule y_K_breaksRule 52 2 "SettingsDesk$Check" := ⟨sd_goodV q239 q241 q242 q191 q240, ⟨_, rfl⟩, ⟨rfl, rfl, rfl, rfl⟩, ⟨rfl, by decide, by decide, by decide +kernel⟩, ⟨by decide, by decide⟩⟩
section
variable {l : Launch} {D : va_G} {dA : Nat → ClassId} {b n : Nat} {ad : Nat → Nat} {L : Nat → sdL} {sc : Option (Nat × Nat × (Nat → Int32))}
def k_K_passes_79 (o : Nat) (se : Nat) (tr : Nat) (Q : Int32 → sdM → Prop) (M : sdM) : Prop := sdB (0 : Int32) ∧ Q (0 : Int32) M
set_option maxHeartbeats 1000000 in
theorem t_K_passes_79 {o : Nat} {se : Nat} {tr : Nat} (hA : sd_ad b n ad) (hT : l.stackTraces = false) (ho : isK n L dA o se tr) {Q : Int32 → sdM → Prop} (M : sdM) (hw : k_K_passes_79 o se tr Q M ) : sdW l (sdE0 sc) Y_K_passes D (sd_tys dA) b n ad L ad (sd_H D (sdE0 sc).1 n ad L) (sd_qi Q) sd_xf 79 [] [] M 0 0 := by
  unfold k_K_passes_79 at hw
  refine x_iconst (v := 0) d_K_passes_79 (by decide) ?_
  exact x_zret d_K_passes_80 rfl (sdB_n hw.1) (fun _ h => h) ⟨_, rfl, hw.2⟩
def h_K_passes_31 (o : Nat) (se : Nat) (tr : Nat) (Q : Int32 → sdM → Prop) (k11 : sdM → Int32 → Prop) : Nat → sdM → Int32 → Int32 → Prop
  | 0, _, _, _ => False
  | N + 1, M, x1, x2 => w_S_endRow se M x1 (fun r16 M15 => (r16 ≤ x2 → k11 M15 (x1 + 1)) ∧ (¬ r16 ≤ x2 → w_K_lacksLeaf o se tr M15 x1 x2 (fun r18 M17 => (¬ r18 = 0 → k_K_passes_79 o se tr Q M17) ∧ (r18 = 0 → w_K_pointsNowhere o se tr M17 x1 x2 (fun r20 M19 => (¬ r20 = 0 → k_K_passes_79 o se tr Q M19) ∧ (r20 = 0 → w_K_repeatsLeaf o se tr M19 x1 x2 (fun r22 M21 => (¬ r22 = 0 → k_K_passes_79 o se tr Q M21) ∧ (r22 = 0 → w_K_breaksRule o se tr M21 x1 x2 (fun r24 M23 => (r24 = 0 → h_K_passes_31 o se tr Q k11 N M23 x1 (x2 + 1)) ∧ (¬ r24 = 0 → k_K_passes_79 o se tr Q M23))))))))))
set_option maxHeartbeats 1000000 in
theorem t_K_passes_31 {o : Nat} {se : Nat} {tr : Nat} (hA : sd_ad b n ad) (hT : l.stackTraces = false) (ho : isK n L dA o se tr) {Q : Int32 → sdM → Prop} {k11 : sdM → Int32 → Prop} (hk11 : ∀ (M : sdM) (x1 : Int32), k11 M x1 → sdW l (sdE0 sc) Y_K_passes D (sd_tys dA) b n ad L ad (sd_H D (sdE0 sc).1 n ad L) (sd_qi Q) sd_xf 11 [(0, .ref o), (1, .int x1)] [] M 0 0) (N : Nat) : ∀ (M : sdM) (x1 : Int32) (x2 : Int32), h_K_passes_31 o se tr Q k11 N M x1 x2 → sdW l (sdE0 sc) Y_K_passes D (sd_tys dA) b n ad L ad (sd_H D (sdE0 sc).1 n ad L) (sd_qi Q) sd_xf 31 [(0, .ref o), (1, .int x1), (2, .int x2)] [] M 0 0 := by
  induction N with
  | zero => intro M x1 x2 hw; exact hw.elim
  | succ N ih =>
    intro M x1 x2 hw
    rw [h_K_passes_31] at hw
    refine x_iload_n 2 2 d_K_passes_31 rfl rfl ?_
    refine x_aload_n 0 0 d_K_passes_32 rfl rfl ?_
    refine x_getr 1 se d_K_passes_33 ho.1 ho.2.1 rfl rfl (by decide) lay_K (List.mem_cons_of_mem _ q175) rfl ?_
    refine x_iload_n 1 1 d_K_passes_36 rfl rfl ?_
    refine x_callVi (As := [.int x1]) (t := se) (rest := [.int x2]) (rc := 0) (rs := 0) (c_S_endRow hA hT ho.settings hw) cw_K_passes_S_endRow_39 ho.settings.1 ho.settings.2.1 rfl d_K_passes_37 rfl rfl (Nat.le_of_ble_eq_true rfl) (fun _ _ h => h.elim) (fun _ _ h => h) (fun r16 M15 hw => ?_)
    refine x_icmp_ge 87 d_K_passes_40 rfl (fun hc => ?_) (fun hc => ?_)
    · have hw := hw.1 hc
      refine x_iinc 1 1 [(1, .int (x1 + 1)), (0, .ref o), (2, .int x2)] d_K_passes_87 rfl (congrArg (HAdd.hAdd x1) (show Int32.ofInt 1 = 1 by decide)) (by decide) rfl ?_
      refine x_goto 11 d_K_passes_90 rfl ?_
      refine x_sub [1, 0] [(0, .ref o), (1, .int (x1 + 1))] rfl ?_
      exact hk11 M15 (x1 + 1) hw
    · have hw := hw.2 hc
      refine x_aload_n 0 0 d_K_passes_43 rfl rfl ?_
      refine x_iload_n 1 1 d_K_passes_44 rfl rfl ?_
      refine x_iload_n 2 2 d_K_passes_45 rfl rfl ?_
      refine x_callVi (As := [.int x1, .int x2]) (t := o) (rest := []) (rc := 0) (rs := 0) (c_K_lacksLeaf hA hT ho hw) cw_K_passes_K_lacksLeaf_42 ho.1 ho.2.1 rfl d_K_passes_46 rfl rfl (Nat.le_of_ble_eq_true rfl) (fun _ _ h => h.elim) (fun _ _ h => h) (fun r18 M17 hw => ?_)
      refine x_if_ne 79 d_K_passes_49 rfl (fun hc => ?_) (fun hc => ?_)
      · have hw := hw.1 hc
        refine x_sub [] [] rfl ?_
        exact t_K_passes_79 hA hT ho M17 hw
      · have hw := hw.2 hc
        refine x_aload_n 0 0 d_K_passes_52 rfl rfl ?_
        refine x_iload_n 1 1 d_K_passes_53 rfl rfl ?_
        refine x_iload_n 2 2 d_K_passes_54 rfl rfl ?_
        refine x_callVi (As := [.int x1, .int x2]) (t := o) (rest := []) (rc := 0) (rs := 0) (c_K_pointsNowhere hA hT ho hw) cw_K_passes_K_pointsNowhere_46 ho.1 ho.2.1 rfl d_K_passes_55 rfl rfl (Nat.le_of_ble_eq_true rfl) (fun _ _ h => h.elim) (fun _ _ h => h) (fun r20 M19 hw => ?_)
        refine x_if_ne 79 d_K_passes_58 rfl (fun hc => ?_) (fun hc => ?_)
        · have hw := hw.1 hc
          refine x_sub [] [] rfl ?_
          exact t_K_passes_79 hA hT ho M19 hw
        · have hw := hw.2 hc
          refine x_aload_n 0 0 d_K_passes_61 rfl rfl ?_
          refine x_iload_n 1 1 d_K_passes_62 rfl rfl ?_
          refine x_iload_n 2 2 d_K_passes_63 rfl rfl ?_
          refine x_callVi (As := [.int x1, .int x2]) (t := o) (rest := []) (rc := 0) (rs := 0) (c_K_repeatsLeaf hA hT ho hw) cw_K_passes_K_repeatsLeaf_49 ho.1 ho.2.1 rfl d_K_passes_64 rfl rfl (Nat.le_of_ble_eq_true rfl) (fun _ _ h => h.elim) (fun _ _ h => h) (fun r22 M21 hw => ?_)
          refine x_if_ne 79 d_K_passes_67 rfl (fun hc => ?_) (fun hc => ?_)
          · have hw := hw.1 hc
            refine x_sub [] [] rfl ?_
            exact t_K_passes_79 hA hT ho M21 hw
          · have hw := hw.2 hc
            refine x_aload_n 0 0 d_K_passes_70 rfl rfl ?_
            refine x_iload_n 1 1 d_K_passes_71 rfl rfl ?_
            refine x_iload_n 2 2 d_K_passes_72 rfl rfl ?_
            refine x_callVi (As := [.int x1, .int x2]) (t := o) (rest := []) (rc := 0) (rs := 0) (c_K_breaksRule hA hT ho hw) cw_K_passes_K_breaksRule_52 ho.1 ho.2.1 rfl d_K_passes_73 rfl rfl (Nat.le_of_ble_eq_true rfl) (fun _ _ h => h.elim) (fun _ _ h => h) (fun r24 M23 hw => ?_)
            refine x_if_eq 81 d_K_passes_76 rfl (fun hc => ?_) (fun hc => ?_)
            · have hw := hw.1 hc
              refine x_iinc 2 2 [(2, .int (x2 + 1)), (0, .ref o), (1, .int x1)] d_K_passes_81 rfl (congrArg (HAdd.hAdd x2) (show Int32.ofInt 1 = 1 by decide)) (by decide) rfl ?_
              refine x_goto 31 d_K_passes_84 rfl ?_
              refine x_sub [1, 2, 0] [(0, .ref o), (1, .int x1), (2, .int (x2 + 1))] rfl ?_
              exact ih M23 x1 (x2 + 1) hw
            · have hw := hw.2 hc
              refine x_sub [] [] rfl ?_
              exact t_K_passes_79 hA hT ho M23 hw
def h_K_passes_11 (o : Nat) (se : Nat) (tr : Nat) (Q : Int32 → sdM → Prop) : Nat → sdM → Int32 → Prop
  | 0, _, _ => False
  | N + 1, M, x1 => ((M 1 1) ≤ x1 → sdB (1 : Int32) ∧ Q (1 : Int32) M) ∧ (¬ (M 1 1) ≤ x1 → w_S_firstRow se M x1 (fun r26 M25 => ∃ N9 : Nat, h_K_passes_31 o se tr Q (fun M x1 => h_K_passes_11 o se tr Q N M x1) N9 M25 x1 r26))
set_option maxHeartbeats 1000000 in
theorem t_K_passes_11 {o : Nat} {se : Nat} {tr : Nat} (hA : sd_ad b n ad) (hT : l.stackTraces = false) (ho : isK n L dA o se tr) {Q : Int32 → sdM → Prop} (N : Nat) : ∀ (M : sdM) (x1 : Int32), h_K_passes_11 o se tr Q N M x1 → sdW l (sdE0 sc) Y_K_passes D (sd_tys dA) b n ad L ad (sd_H D (sdE0 sc).1 n ad L) (sd_qi Q) sd_xf 11 [(0, .ref o), (1, .int x1)] [] M 0 0 := by
  induction N with
  | zero => intro M x1 hw; exact hw.elim
  | succ N ih =>
    intro M x1 hw
    rw [h_K_passes_11] at hw
    refine x_iload_n 1 1 d_K_passes_11 rfl rfl ?_
    refine x_aload_n 0 0 d_K_passes_12 rfl rfl ?_
    refine x_getr 0 1 d_K_passes_13 ho.1 ho.2.1 rfl rfl (by decide) lay_K (List.mem_cons_of_mem _ q173) rfl ?_
    refine x_geti 1 d_K_passes_16 ho.schema.1 ho.schema.2.1 rfl rfl (by decide) lay_C (List.mem_cons_of_mem _ q174) rfl ?_
    refine x_icmp_ge 93 d_K_passes_19 rfl (fun hc => ?_) (fun hc => ?_)
    · have hw := hw.1 hc
      refine x_iconst (v := 1) d_K_passes_93 (by decide) ?_
      exact x_zret d_K_passes_94 rfl (sdB_n hw.1) (fun _ h => h) ⟨_, rfl, hw.2⟩
    · have hw := hw.2 hc
      refine x_aload_n 0 0 d_K_passes_22 rfl rfl ?_
      refine x_getr 1 se d_K_passes_23 ho.1 ho.2.1 rfl rfl (by decide) lay_K (List.mem_cons_of_mem _ q175) rfl ?_
      refine x_iload_n 1 1 d_K_passes_26 rfl rfl ?_
      refine x_callVi (As := [.int x1]) (t := se) (rest := []) (rc := 0) (rs := 0) (c_S_firstRow hA hT ho.settings hw) cw_K_passes_S_firstRow_33 ho.settings.1 ho.settings.2.1 rfl d_K_passes_27 rfl rfl (Nat.le_of_ble_eq_true rfl) (fun _ _ h => h.elim) (fun _ _ h => h) (fun r26 M25 hw => ?_)
      refine x_istore_n 2 [(2, .int r26), (0, .ref o), (1, .int x1)] d_K_passes_30 rfl (by decide) rfl ?_
      refine x_sub [1, 2, 0] [(0, .ref o), (1, .int x1), (2, .int r26)] rfl ?_
      obtain ⟨N9, hw⟩ := hw
      exact t_K_passes_31 hA hT ho (fun M x1  hw => ih M x1 hw) N9 M25 x1 r26 hw
def w_K_passes (o : Nat) (se : Nat) (tr : Nat) (M : sdM) (Q : Int32 → sdM → Prop) : Prop := w_K_isCrowded o se tr M (fun r28 M27 => (r28 = 0 → ∃ N9 : Nat, h_K_passes_11 o se tr Q N9 M27 (0 : Int32)) ∧ (¬ r28 = 0 → sdB (0 : Int32) ∧ Q (0 : Int32) M27))
set_option maxHeartbeats 1000000 in
theorem c_K_passes {o : Nat} {se : Nat} {tr : Nat} (hA : sd_ad b n ad) (hT : l.stackTraces = false) (ho : isK n L dA o se tr) {Q : Int32 → sdM → Prop} {M : sdM} (hw : w_K_passes o se tr M Q) : sd_Cn l (sdE0 sc) y_K_passes Y_K_passes.2.2.2.2.1 Y_K_passes.2.2.2.2.2.1 0 0 D (sd_tys dA) b n ad L M [.ref o] (sd_qi Q) sd_xf := by
  refine sd_enter (Y := Y_K_passes) rfl rfl rfl (Nat.le_of_ble_eq_true rfl) ?_
  show sdW l (sdE0 sc) Y_K_passes D (sd_tys dA) b n ad L ad (sd_H D (sdE0 sc).1 n ad L) (sd_qi Q) sd_xf 0 [(0, .ref o)] [] M 0 0
  unfold w_K_passes at hw
  refine x_aload_n 0 0 d_K_passes_0 rfl rfl ?_
  refine x_callVi (As := []) (t := o) (rest := []) (rc := 0) (rs := 0) (c_K_isCrowded hA hT ho hw) cw_K_passes_K_isCrowded_23 ho.1 ho.2.1 rfl d_K_passes_1 rfl rfl (Nat.le_of_ble_eq_true rfl) (fun _ _ h => h.elim) (fun _ _ h => h) (fun r28 M27 hw => ?_)
  refine x_if_eq 9 d_K_passes_4 rfl (fun hc => ?_) (fun hc => ?_)
  · have hw := hw.1 hc
    refine x_iconst (v := 0) d_K_passes_9 (by decide) ?_
    refine x_istore_n 1 [(1, .int (0 : Int32)), (0, .ref o)] d_K_passes_10 rfl (by decide) rfl ?_
    refine x_sub [1, 0] [(0, .ref o), (1, .int (0 : Int32))] rfl ?_
    obtain ⟨N9, hw⟩ := hw
    exact t_K_passes_11 hA hT ho N9 M27 (0 : Int32) hw
  · have hw := hw.2 hc
    refine x_iconst (v := 0) d_K_passes_7 (by decide) ?_
    exact x_zret d_K_passes_8 rfl (sdB_n hw.1) (fun _ h => h) ⟨_, rfl, hw.2⟩
end
end
section
theorem q243 : (.fieldLink "SettingsDesk" 19 "SettingsDesk" "running" "LSettingsDesk$Settings;" : Cond) ∈ sdB0 := sd_tb1 201 rfl rfl
theorem q244 : (.fieldLink "SettingsDesk" 29 "SettingsDesk" "older" "[LSettingsDesk$Settings;" : Cond) ∈ sdB0 := sd_tb1 204 rfl rfl
theorem q245 : (.fieldLink "SettingsDesk" 46 "SettingsDesk" "changes" "I" : Cond) ∈ sdB0 := sd_tb1 207 rfl rfl
theorem q246 : (.methodLink "SettingsDesk" 320 ⟨"SettingsDesk$Settings", "sameAs", "(LSettingsDesk$Settings;)Z"⟩ : Cond) ∈ sdB0 := sd_tb2 5 rfl rfl
theorem q247 : (.code ⟨"SettingsDesk$Settings", "sameAs", "(LSettingsDesk$Settings;)Z"⟩ prog_9_method_22_code 3 (some .boolean) : Cond) ∈ sdB0 := sd_tb2 8 rfl rfl
theorem q248 : (.instanceMethod ⟨"SettingsDesk$Settings", "sameAs", "(LSettingsDesk$Settings;)Z"⟩ : Cond) ∈ sdB0 := sd_tb2 6 rfl rfl
theorem q249 : (.selects "SettingsDesk$Settings" ⟨"SettingsDesk$Settings", "sameAs", "(LSettingsDesk$Settings;)Z"⟩ ⟨"SettingsDesk$Settings", "sameAs", "(LSettingsDesk$Settings;)Z"⟩ : Cond) ∈ sdB0 := sd_tb2 7 rfl rfl
theorem q250 : (.methodLink "SettingsDesk" 317 ⟨"java/lang/Math", "floorMod", "(II)I"⟩ : Cond) ∈ sdB0 := sd_tb2 37 rfl rfl
theorem q251 : (.code ⟨"java/lang/Math", "floorMod", "(II)I"⟩ prog_17_method_50_code 3 (some .int) : Cond) ∈ sdB0 := sd_tb2 39 rfl rfl
theorem q252 : (.static ⟨"java/lang/Math", "floorMod", "(II)I"⟩ : Cond) ∈ sdB0 := sd_tb2 38 rfl rfl
theorem q253 : (.methodLink "SettingsDesk" 275 ⟨"SettingsDesk$Settings", "copyFrom", "(LSettingsDesk$Settings;)V"⟩ : Cond) ∈ sdB0 := sd_tb2 40 rfl rfl
abbrev y_D_changeTo : MethodName := ⟨"SettingsDesk", "changeTo", "(LSettingsDesk$Settings;)Z"⟩
theorem d_D_changeTo_0 : decode prog_1_method_33_code 0 = .ok (.aload_n 0, 1) := by decide +kernel
theorem d_D_changeTo_1 : decode prog_1_method_33_code 1 = .ok (.getfield 19, 3) := by decide +kernel
theorem d_D_changeTo_4 : decode prog_1_method_33_code 4 = .ok (.aload_n 1, 1) := by decide +kernel
theorem d_D_changeTo_5 : decode prog_1_method_33_code 5 = .ok (.invokevirtual 320, 3) := by decide +kernel
theorem d_D_changeTo_8 : decode prog_1_method_33_code 8 = .ok (.ifCond .eq (5), 3) := by decide +kernel
theorem d_D_changeTo_11 : decode prog_1_method_33_code 11 = .ok (.iconst 0, 1) := by decide +kernel
theorem d_D_changeTo_12 : decode prog_1_method_33_code 12 = .ok (.ireturn, 1) := by decide +kernel
theorem d_D_changeTo_13 : decode prog_1_method_33_code 13 = .ok (.aload_n 0, 1) := by decide +kernel
theorem d_D_changeTo_14 : decode prog_1_method_33_code 14 = .ok (.getfield 29, 3) := by decide +kernel
theorem d_D_changeTo_17 : decode prog_1_method_33_code 17 = .ok (.aload_n 0, 1) := by decide +kernel
theorem d_D_changeTo_18 : decode prog_1_method_33_code 18 = .ok (.getfield 46, 3) := by decide +kernel
theorem d_D_changeTo_21 : decode prog_1_method_33_code 21 = .ok (.bipush (8), 2) := by decide +kernel
theorem d_D_changeTo_23 : decode prog_1_method_33_code 23 = .ok (.invokestatic 317, 3) := by decide +kernel
theorem d_D_changeTo_26 : decode prog_1_method_33_code 26 = .ok (.aaload, 1) := by decide +kernel
theorem d_D_changeTo_27 : decode prog_1_method_33_code 27 = .ok (.aload_n 0, 1) := by decide +kernel
theorem d_D_changeTo_28 : decode prog_1_method_33_code 28 = .ok (.getfield 19, 3) := by decide +kernel
theorem d_D_changeTo_31 : decode prog_1_method_33_code 31 = .ok (.invokevirtual 275, 3) := by decide +kernel
theorem d_D_changeTo_34 : decode prog_1_method_33_code 34 = .ok (.aload_n 0, 1) := by decide +kernel
theorem d_D_changeTo_35 : decode prog_1_method_33_code 35 = .ok (.getfield 19, 3) := by decide +kernel
theorem d_D_changeTo_38 : decode prog_1_method_33_code 38 = .ok (.aload_n 1, 1) := by decide +kernel
theorem d_D_changeTo_39 : decode prog_1_method_33_code 39 = .ok (.invokevirtual 275, 3) := by decide +kernel
theorem d_D_changeTo_42 : decode prog_1_method_33_code 42 = .ok (.aload_n 0, 1) := by decide +kernel
theorem d_D_changeTo_43 : decode prog_1_method_33_code 43 = .ok (.dup, 1) := by decide +kernel
theorem d_D_changeTo_44 : decode prog_1_method_33_code 44 = .ok (.getfield 46, 3) := by decide +kernel
theorem d_D_changeTo_47 : decode prog_1_method_33_code 47 = .ok (.iconst 1, 1) := by decide +kernel
theorem d_D_changeTo_48 : decode prog_1_method_33_code 48 = .ok (.iadd, 1) := by decide +kernel
theorem d_D_changeTo_49 : decode prog_1_method_33_code 49 = .ok (.putfield 46, 3) := by decide +kernel
theorem d_D_changeTo_52 : decode prog_1_method_33_code 52 = .ok (.iconst 1, 1) := by decide +kernel
theorem d_D_changeTo_53 : decode prog_1_method_33_code 53 = .ok (.ireturn, 1) := by decide +kernel
def Y_D_changeTo : sdY := ("SettingsDesk", prog_1_method_33_code, 2, (some .boolean), .code y_D_changeTo prog_1_method_33_code 2 (some .boolean) :: sdB0, { frames := 5, cells := 0, slots := 0, locals := 115 }, 0, 0)
theorem cw_D_changeTo_S_sameAs_320 : sd_cwV Y_D_changeTo Y_S_sameAs y_S_sameAs 320 1 "SettingsDesk$Settings" := ⟨sd_goodV q246 q248 q249 q7 q247, ⟨_, rfl⟩, ⟨rfl, rfl, rfl, rfl⟩, ⟨rfl, by decide, by decide, by decide +kernel⟩, ⟨by decide, by decide⟩⟩
theorem cw_D_changeTo_JM_floorMod_317 : sd_cwS Y_D_changeTo Y_JM_floorMod y_JM_floorMod 317 2 := ⟨sd_goodS q250 q252 q58 q251, ⟨_, rfl⟩, ⟨rfl, rfl, rfl, rfl⟩, ⟨by decide, by decide, by decide +kernel⟩, ⟨by decide, by decide⟩⟩
theorem cw_D_changeTo_S_copyFrom_275 : sd_cwV Y_D_changeTo Y_S_copyFrom y_S_copyFrom 275 1 "SettingsDesk$Settings" := ⟨sd_goodV q253 q98 q99 q7 q97, ⟨_, rfl⟩, ⟨rfl, rfl, rfl, rfl⟩, ⟨rfl, by decide, by decide, by decide +kernel⟩, ⟨by decide, by decide⟩⟩
section
variable {l : Launch} {D : va_G} {dA : Nat → ClassId} {b n : Nat} {ad : Nat → Nat} {L : Nat → sdL} {sc : Option (Nat × Nat × (Nat → Int32))}
def w_D_changeTo (M : sdM) (p1 : Nat) (Q : Int32 → sdM → Prop) : Prop := w_S_sameAs 25 M p1 (fun r11 M10 => (r11 = 0 → w_JM_floorMod M10 (M10 0 7) (8 : Int32) (fun r13 M12 => vp_in r13 8 ∧ w_S_copyFrom (43 + 5 * r13.toNatClampNeg) M12 25 (fun M15 => w_S_copyFrom 25 M15 p1 (fun M16 => ∀ M17 : sdM, M17 = sd_s M16 0 7 ((M16 0 7) + (1 : Int32)) → sdB (1 : Int32) ∧ Q (1 : Int32) M17)))) ∧ (¬ r11 = 0 → sdB (0 : Int32) ∧ Q (0 : Int32) M10))
set_option maxHeartbeats 1000000 in
theorem c_D_changeTo {p1 : Nat} (hA : sd_ad b n ad) (hT : l.stackTraces = false) (hD : isD n L dA) (hp1 : isS n L dA p1) {Q : Int32 → sdM → Prop} {M : sdM} (hw : w_D_changeTo M p1 Q) : sd_Cn l (sdE0 sc) y_D_changeTo Y_D_changeTo.2.2.2.2.1 Y_D_changeTo.2.2.2.2.2.1 0 0 D (sd_tys dA) b n ad L M [.ref 0, .ref p1] (sd_qi Q) sd_xf := by
  refine sd_enter (Y := Y_D_changeTo) rfl rfl rfl (Nat.le_of_ble_eq_true rfl) ?_
  show sdW l (sdE0 sc) Y_D_changeTo D (sd_tys dA) b n ad L ad (sd_H D (sdE0 sc).1 n ad L) (sd_qi Q) sd_xf 0 [(0, .ref 0), (1, .ref p1)] [] M 0 0
  unfold w_D_changeTo at hw
  refine x_aload_n 0 0 d_D_changeTo_0 rfl rfl ?_
  refine x_getr 1 25 d_D_changeTo_1 hD.1 hD.2.1 rfl rfl (by decide) lay_D (List.mem_cons_of_mem _ q243) rfl ?_
  refine x_aload_n 1 1 d_D_changeTo_4 rfl rfl ?_
  refine x_callVi (As := [.ref p1]) (t := 25) (rest := []) (rc := 0) (rs := 0) (c_S_sameAs hA hT hD.running hp1 hw) cw_D_changeTo_S_sameAs_320 hD.running.1 hD.running.2.1 rfl d_D_changeTo_5 rfl rfl (Nat.le_of_ble_eq_true rfl) (fun _ _ h => h.elim) (fun _ _ h => h) (fun r11 M10 hw => ?_)
  refine x_if_eq 13 d_D_changeTo_8 rfl (fun hc => ?_) (fun hc => ?_)
  · have hw := hw.1 hc
    refine x_aload_n 0 0 d_D_changeTo_13 rfl rfl ?_
    refine x_getr 4 40 d_D_changeTo_14 hD.1 hD.2.1 rfl rfl (by decide) lay_D (List.mem_cons_of_mem _ q244) rfl ?_
    refine x_aload_n 0 0 d_D_changeTo_17 rfl rfl ?_
    refine x_geti 7 d_D_changeTo_18 hD.1 hD.2.1 rfl rfl (by decide) lay_D (List.mem_cons_of_mem _ q245) rfl ?_
    refine x_bipush (v := 8) d_D_changeTo_21 (by decide) ?_
    refine x_callSi (As := [.int (M10 0 7), .int (8 : Int32)]) (rest := [.ref 40]) (rc := 0) (rs := 0) (c_JM_floorMod hA hT  hw) cw_D_changeTo_JM_floorMod_317 d_D_changeTo_23 rfl rfl (Nat.le_of_ble_eq_true rfl) (fun _ _ h => h.elim) (fun _ _ h => h) (fun r13 M12 hw => ?_)
    obtain ⟨hi14, hw⟩ := hw
    refine x_aald (43 + 5 * r13.toNatClampNeg) d_D_changeTo_26 hD.older.1 hD.older.2 (t0 := 5) rfl hi14 rfl ?_
    refine x_aload_n 0 0 d_D_changeTo_27 rfl rfl ?_
    refine x_getr 1 25 d_D_changeTo_28 hD.1 hD.2.1 rfl rfl (by decide) lay_D (List.mem_cons_of_mem _ q243) rfl ?_
    refine x_callVv (As := [.ref 25]) (t := (43 + 5 * r13.toNatClampNeg)) (rest := []) (rc := 0) (rs := 0) (c_S_copyFrom hA hT (hD.olderAt hi14) hD.running hw) cw_D_changeTo_S_copyFrom_275 (hD.olderAt hi14).1 (hD.olderAt hi14).2.1 rfl d_D_changeTo_31 rfl rfl (Nat.le_of_ble_eq_true rfl) (fun _ _ h => h.elim) (fun _ _ h => h) (fun M15 hw => ?_)
    refine x_aload_n 0 0 d_D_changeTo_34 rfl rfl ?_
    refine x_getr 1 25 d_D_changeTo_35 hD.1 hD.2.1 rfl rfl (by decide) lay_D (List.mem_cons_of_mem _ q243) rfl ?_
    refine x_aload_n 1 1 d_D_changeTo_38 rfl rfl ?_
    refine x_callVv (As := [.ref p1]) (t := 25) (rest := []) (rc := 0) (rs := 0) (c_S_copyFrom hA hT hD.running hp1 hw) cw_D_changeTo_S_copyFrom_275 hD.running.1 hD.running.2.1 rfl d_D_changeTo_39 rfl rfl (Nat.le_of_ble_eq_true rfl) (fun _ _ h => h.elim) (fun _ _ h => h) (fun M16 hw => ?_)
    refine x_aload_n 0 0 d_D_changeTo_42 rfl rfl ?_
    refine x_dup d_D_changeTo_43 rfl ?_
    refine x_geti 7 d_D_changeTo_44 hD.1 hD.2.1 rfl rfl (by decide) lay_D (List.mem_cons_of_mem _ q245) rfl ?_
    refine x_iconst (v := 1) d_D_changeTo_47 (by decide) ?_
    refine x_iadd d_D_changeTo_48 ?_
    refine x_puti 7 (ty := .int) hA d_D_changeTo_49 hD.1 hD.2.1 rfl rfl (by decide) lay_D (List.mem_cons_of_mem _ q245) rfl ty_D ty_D_ok nm_D rfl (by decide +kernel) rfl rfl (fun M17 e18 => ?_)
    have hw := hw M17 e18
    clear e18
    refine x_iconst (v := 1) d_D_changeTo_52 (by decide) ?_
    exact x_zret d_D_changeTo_53 rfl (sdB_n hw.1) (fun _ h => h) ⟨_, rfl, hw.2⟩
  · have hw := hw.2 hc
    refine x_iconst (v := 0) d_D_changeTo_11 (by decide) ?_
    exact x_zret d_D_changeTo_12 rfl (sdB_n hw.1) (fun _ h => h) ⟨_, rfl, hw.2⟩
end
theorem q254 : (.fieldLink "SettingsDesk" 56 "SettingsDesk" "powerOff" "Z" : Cond) ∈ sdB0 := sd_tb1 210 rfl rfl
theorem q255 : (.fieldLink "SettingsDesk" 23 "SettingsDesk" "saved" "LSettingsDesk$Settings;" : Cond) ∈ sdB0 := sd_tb1 202 rfl rfl
theorem q256 : (.fieldLink "SettingsDesk" 53 "SettingsDesk" "lockOwner" "I" : Cond) ∈ sdB0 := sd_tb1 209 rfl rfl
theorem q257 : (.fieldLink "SettingsDesk" 50 "SettingsDesk" "ticksLeft" "I" : Cond) ∈ sdB0 := sd_tb1 208 rfl rfl
theorem q258 : (.fieldLink "SettingsDesk" 35 "SettingsDesk" "sessions" "[LSettingsDesk$Session;" : Cond) ∈ sdB0 := sd_tb1 205 rfl rfl
theorem q259 : (.fieldLink "SettingsDesk" 152 "SettingsDesk$Session" "begun" "Z" : Cond) ∈ sdB0 := sd_tb1 187 rfl rfl
theorem q260 : (.methodLink "SettingsDesk" 235 ⟨"SettingsDesk", "changeTo", "(LSettingsDesk$Settings;)Z"⟩ : Cond) ∈ sdB0 := sd_tb2 1 rfl rfl
theorem q261 : (.code ⟨"SettingsDesk", "changeTo", "(LSettingsDesk$Settings;)Z"⟩ prog_1_method_33_code 2 (some .boolean) : Cond) ∈ sdB0 := sd_tb2 4 rfl rfl
theorem q262 : (.instanceMethod ⟨"SettingsDesk", "changeTo", "(LSettingsDesk$Settings;)Z"⟩ : Cond) ∈ sdB0 := sd_tb2 3 rfl rfl
theorem q263 : (.selects "SettingsDesk" ⟨"SettingsDesk", "changeTo", "(LSettingsDesk$Settings;)Z"⟩ ⟨"SettingsDesk", "changeTo", "(LSettingsDesk$Settings;)Z"⟩ : Cond) ∈ sdB0 := sd_tbp (q := (⟨"SettingsDesk", "changeTo", "(LSettingsDesk$Settings;)Z"⟩, 12)) (List.mem_of_getElem? (i := 0) rfl)
theorem q264 : (.initialized "SettingsDesk" : Cond) ∈ sdB0 := sd_tb1 1 rfl rfl
abbrev y_D_reboot : MethodName := ⟨"SettingsDesk", "reboot", "()Z"⟩
theorem d_D_reboot_0 : decode prog_1_method_20_code 0 = .ok (.aload_n 0, 1) := by decide +kernel
theorem d_D_reboot_1 : decode prog_1_method_20_code 1 = .ok (.getfield 56, 3) := by decide +kernel
theorem d_D_reboot_4 : decode prog_1_method_20_code 4 = .ok (.ifCond .ne (5), 3) := by decide +kernel
theorem d_D_reboot_7 : decode prog_1_method_20_code 7 = .ok (.iconst 0, 1) := by decide +kernel
theorem d_D_reboot_8 : decode prog_1_method_20_code 8 = .ok (.ireturn, 1) := by decide +kernel
theorem d_D_reboot_9 : decode prog_1_method_20_code 9 = .ok (.aload_n 0, 1) := by decide +kernel
theorem d_D_reboot_10 : decode prog_1_method_20_code 10 = .ok (.iconst 0, 1) := by decide +kernel
theorem d_D_reboot_11 : decode prog_1_method_20_code 11 = .ok (.putfield 56, 3) := by decide +kernel
theorem d_D_reboot_14 : decode prog_1_method_20_code 14 = .ok (.aload_n 0, 1) := by decide +kernel
theorem d_D_reboot_15 : decode prog_1_method_20_code 15 = .ok (.aload_n 0, 1) := by decide +kernel
theorem d_D_reboot_16 : decode prog_1_method_20_code 16 = .ok (.getfield 23, 3) := by decide +kernel
theorem d_D_reboot_19 : decode prog_1_method_20_code 19 = .ok (.invokevirtual 235, 3) := by decide +kernel
theorem d_D_reboot_22 : decode prog_1_method_20_code 22 = .ok (.pop, 1) := by decide +kernel
theorem d_D_reboot_23 : decode prog_1_method_20_code 23 = .ok (.iconst 0, 1) := by decide +kernel
theorem d_D_reboot_24 : decode prog_1_method_20_code 24 = .ok (.istore_n 1, 1) := by decide +kernel
theorem d_D_reboot_25 : decode prog_1_method_20_code 25 = .ok (.iload_n 1, 1) := by decide +kernel
theorem d_D_reboot_26 : decode prog_1_method_20_code 26 = .ok (.iconst 3, 1) := by decide +kernel
theorem d_D_reboot_27 : decode prog_1_method_20_code 27 = .ok (.if_icmp .ge (19), 3) := by decide +kernel
theorem d_D_reboot_30 : decode prog_1_method_20_code 30 = .ok (.aload_n 0, 1) := by decide +kernel
theorem d_D_reboot_31 : decode prog_1_method_20_code 31 = .ok (.getfield 35, 3) := by decide +kernel
theorem d_D_reboot_34 : decode prog_1_method_20_code 34 = .ok (.iload_n 1, 1) := by decide +kernel
theorem d_D_reboot_35 : decode prog_1_method_20_code 35 = .ok (.aaload, 1) := by decide +kernel
theorem d_D_reboot_36 : decode prog_1_method_20_code 36 = .ok (.iconst 0, 1) := by decide +kernel
theorem d_D_reboot_37 : decode prog_1_method_20_code 37 = .ok (.putfield 152, 3) := by decide +kernel
theorem d_D_reboot_40 : decode prog_1_method_20_code 40 = .ok (.iinc 1 (1), 3) := by decide +kernel
theorem d_D_reboot_43 : decode prog_1_method_20_code 43 = .ok (.goto (-18), 3) := by decide +kernel
theorem d_D_reboot_46 : decode prog_1_method_20_code 46 = .ok (.aload_n 0, 1) := by decide +kernel
theorem d_D_reboot_47 : decode prog_1_method_20_code 47 = .ok (.iconst (-1), 1) := by decide +kernel
theorem d_D_reboot_48 : decode prog_1_method_20_code 48 = .ok (.putfield 53, 3) := by decide +kernel
theorem d_D_reboot_51 : decode prog_1_method_20_code 51 = .ok (.aload_n 0, 1) := by decide +kernel
theorem d_D_reboot_52 : decode prog_1_method_20_code 52 = .ok (.iconst 0, 1) := by decide +kernel
theorem d_D_reboot_53 : decode prog_1_method_20_code 53 = .ok (.putfield 50, 3) := by decide +kernel
theorem d_D_reboot_56 : decode prog_1_method_20_code 56 = .ok (.iconst 1, 1) := by decide +kernel
theorem d_D_reboot_57 : decode prog_1_method_20_code 57 = .ok (.ireturn, 1) := by decide +kernel
def Y_D_reboot : sdY := ("SettingsDesk", prog_1_method_20_code, 2, (some .boolean), .code y_D_reboot prog_1_method_20_code 2 (some .boolean) :: sdB0, { frames := 6, cells := 0, slots := 0, locals := 136 }, 0, 0)
theorem cw_D_reboot_D_changeTo_235 : sd_cwV Y_D_reboot Y_D_changeTo y_D_changeTo 235 1 "SettingsDesk" := ⟨sd_goodV q260 q262 q263 q264 q261, ⟨_, rfl⟩, ⟨rfl, rfl, rfl, rfl⟩, ⟨rfl, by decide, by decide, by decide +kernel⟩, ⟨by decide, by decide⟩⟩
section
variable {l : Launch} {D : va_G} {dA : Nat → ClassId} {b n : Nat} {ad : Nat → Nat} {L : Nat → sdL} {sc : Option (Nat × Nat × (Nat → Int32))}
def h_D_reboot_25 (Q : Int32 → sdM → Prop) : Nat → sdM → Int32 → Prop
  | 0, _, _ => False
  | N + 1, M, x1 => ((3 : Int32) ≤ x1 → ∀ M14 : sdM, M14 = sd_s M 0 9 (-1 : Int32) → ∀ M16 : sdM, M16 = sd_s M14 0 8 (0 : Int32) → sdB (1 : Int32) ∧ Q (1 : Int32) M16) ∧ (¬ (3 : Int32) ≤ x1 → vp_in x1 3 ∧ sdB (0 : Int32) ∧ ∀ M19 : sdM, M19 = sd_s M (83 + 11 * x1.toNatClampNeg) 0 (0 : Int32) → h_D_reboot_25 Q N M19 (x1 + 1))
set_option maxHeartbeats 1000000 in
theorem t_D_reboot_25 (hA : sd_ad b n ad) (hT : l.stackTraces = false) (hD : isD n L dA) {Q : Int32 → sdM → Prop} (N : Nat) : ∀ (M : sdM) (x1 : Int32), h_D_reboot_25 Q N M x1 → sdW l (sdE0 sc) Y_D_reboot D (sd_tys dA) b n ad L ad (sd_H D (sdE0 sc).1 n ad L) (sd_qi Q) sd_xf 25 [(0, .ref 0), (1, .int x1)] [] M 0 0 := by
  induction N with
  | zero => intro M x1 hw; exact hw.elim
  | succ N ih =>
    intro M x1 hw
    rw [h_D_reboot_25] at hw
    refine x_iload_n 1 1 d_D_reboot_25 rfl rfl ?_
    refine x_iconst (v := 3) d_D_reboot_26 (by decide) ?_
    refine x_icmp_ge 46 d_D_reboot_27 rfl (fun hc => ?_) (fun hc => ?_)
    · have hw := hw.1 hc
      refine x_aload_n 0 0 d_D_reboot_46 rfl rfl ?_
      refine x_iconst (v := (-1)) d_D_reboot_47 (by decide) ?_
      refine x_puti 9 (ty := .int) hA d_D_reboot_48 hD.1 hD.2.1 rfl rfl (by decide) lay_D (List.mem_cons_of_mem _ q256) rfl ty_D ty_D_ok nm_D rfl (by decide +kernel) rfl rfl (fun M14 e15 => ?_)
      have hw := hw M14 e15
      clear e15
      refine x_aload_n 0 0 d_D_reboot_51 rfl rfl ?_
      refine x_iconst (v := 0) d_D_reboot_52 (by decide) ?_
      refine x_puti 8 (ty := .int) hA d_D_reboot_53 hD.1 hD.2.1 rfl rfl (by decide) lay_D (List.mem_cons_of_mem _ q257) rfl ty_D ty_D_ok nm_D rfl (by decide +kernel) rfl rfl (fun M16 e17 => ?_)
      have hw := hw M16 e17
      clear e17
      refine x_iconst (v := 1) d_D_reboot_56 (by decide) ?_
      exact x_zret d_D_reboot_57 rfl (sdB_n hw.1) (fun _ h => h) ⟨_, rfl, hw.2⟩
    · have hw := hw.2 hc
      refine x_aload_n 0 0 d_D_reboot_30 rfl rfl ?_
      refine x_getr 5 41 d_D_reboot_31 hD.1 hD.2.1 rfl rfl (by decide) lay_D (List.mem_cons_of_mem _ q258) rfl ?_
      refine x_iload_n 1 1 d_D_reboot_34 rfl rfl ?_
      obtain ⟨hi18, hw⟩ := hw
      refine x_aald (83 + 11 * x1.toNatClampNeg) d_D_reboot_35 hD.sessions.1 hD.sessions.2 (t0 := 6) rfl hi18 rfl ?_
      refine x_iconst (v := 0) d_D_reboot_36 (by decide) ?_
      obtain ⟨hb21, hw⟩ := hw
      refine x_puti 0 (ty := .boolean) hA d_D_reboot_37 (hD.sessionsAt hi18).1 (hD.sessionsAt hi18).2.1 rfl rfl (by decide) lay_N (List.mem_cons_of_mem _ q259) rfl ty_N ty_N_ok nm_N rfl (by decide +kernel) (sdB_n hb21) (sdB_f hb21) (fun M19 e20 => ?_)
      have hw := hw M19 e20
      clear e20
      refine x_iinc 1 1 [(1, .int (x1 + 1)), (0, .ref 0)] d_D_reboot_40 rfl (congrArg (HAdd.hAdd x1) (show Int32.ofInt 1 = 1 by decide)) (by decide) rfl ?_
      refine x_goto 25 d_D_reboot_43 rfl ?_
      refine x_sub [1, 0] [(0, .ref 0), (1, .int (x1 + 1))] rfl ?_
      exact ih M19 (x1 + 1) hw
def w_D_reboot (M : sdM) (Q : Int32 → sdM → Prop) : Prop := (¬ (M 0 10) = 0 → sdB (0 : Int32) ∧ ∀ M22 : sdM, M22 = sd_s M 0 10 (0 : Int32) → w_D_changeTo M22 30 (fun r26 M25 => ∃ N9 : Nat, h_D_reboot_25 Q N9 M25 (0 : Int32))) ∧ ((M 0 10) = 0 → sdB (0 : Int32) ∧ Q (0 : Int32) M)
set_option maxHeartbeats 1000000 in
theorem c_D_reboot (hA : sd_ad b n ad) (hT : l.stackTraces = false) (hD : isD n L dA) {Q : Int32 → sdM → Prop} {M : sdM} (hw : w_D_reboot M Q) : sd_Cn l (sdE0 sc) y_D_reboot Y_D_reboot.2.2.2.2.1 Y_D_reboot.2.2.2.2.2.1 0 0 D (sd_tys dA) b n ad L M [.ref 0] (sd_qi Q) sd_xf := by
  refine sd_enter (Y := Y_D_reboot) rfl rfl rfl (Nat.le_of_ble_eq_true rfl) ?_
  show sdW l (sdE0 sc) Y_D_reboot D (sd_tys dA) b n ad L ad (sd_H D (sdE0 sc).1 n ad L) (sd_qi Q) sd_xf 0 [(0, .ref 0)] [] M 0 0
  unfold w_D_reboot at hw
  refine x_aload_n 0 0 d_D_reboot_0 rfl rfl ?_
  refine x_geti 10 d_D_reboot_1 hD.1 hD.2.1 rfl rfl (by decide) lay_D (List.mem_cons_of_mem _ q254) rfl ?_
  refine x_if_ne 9 d_D_reboot_4 rfl (fun hc => ?_) (fun hc => ?_)
  · have hw := hw.1 hc
    refine x_aload_n 0 0 d_D_reboot_9 rfl rfl ?_
    refine x_iconst (v := 0) d_D_reboot_10 (by decide) ?_
    obtain ⟨hb24, hw⟩ := hw
    refine x_puti 10 (ty := .boolean) hA d_D_reboot_11 hD.1 hD.2.1 rfl rfl (by decide) lay_D (List.mem_cons_of_mem _ q254) rfl ty_D ty_D_ok nm_D rfl (by decide +kernel) (sdB_n hb24) (sdB_f hb24) (fun M22 e23 => ?_)
    have hw := hw M22 e23
    clear e23
    refine x_aload_n 0 0 d_D_reboot_14 rfl rfl ?_
    refine x_aload_n 0 0 d_D_reboot_15 rfl rfl ?_
    refine x_getr 2 30 d_D_reboot_16 hD.1 hD.2.1 rfl rfl (by decide) lay_D (List.mem_cons_of_mem _ q255) rfl ?_
    refine x_callVi (As := [.ref 30]) (t := 0) (rest := []) (rc := 0) (rs := 0) (c_D_changeTo hA hT hD hD.saved hw) cw_D_reboot_D_changeTo_235 hD.1 hD.2.1 rfl d_D_reboot_19 rfl rfl (Nat.le_of_ble_eq_true rfl) (fun _ _ h => h.elim) (fun _ _ h => h) (fun r26 M25 hw => ?_)
    refine x_pop d_D_reboot_22 rfl ?_
    refine x_iconst (v := 0) d_D_reboot_23 (by decide) ?_
    refine x_istore_n 1 [(1, .int (0 : Int32)), (0, .ref 0)] d_D_reboot_24 rfl (by decide) rfl ?_
    refine x_sub [1, 0] [(0, .ref 0), (1, .int (0 : Int32))] rfl ?_
    obtain ⟨N9, hw⟩ := hw
    exact t_D_reboot_25 hA hT hD N9 M25 (0 : Int32) hw
  · have hw := hw.2 hc
    refine x_iconst (v := 0) d_D_reboot_7 (by decide) ?_
    exact x_zret d_D_reboot_8 rfl (sdB_n hw.1) (fun _ h => h) ⟨_, rfl, hw.2⟩
end
theorem q265 : (.methodLink "SettingsDesk" 312 ⟨"java/lang/Math", "min", "(II)I"⟩ : Cond) ∈ sdB0 := sd_tb2 55 rfl rfl
abbrev y_D_olderCount : MethodName := ⟨"SettingsDesk", "olderCount", "()I"⟩
theorem d_D_olderCount_0 : decode prog_1_method_31_code 0 = .ok (.aload_n 0, 1) := by decide +kernel
theorem d_D_olderCount_1 : decode prog_1_method_31_code 1 = .ok (.getfield 46, 3) := by decide +kernel
theorem d_D_olderCount_4 : decode prog_1_method_31_code 4 = .ok (.bipush (8), 2) := by decide +kernel
theorem d_D_olderCount_6 : decode prog_1_method_31_code 6 = .ok (.invokestatic 312, 3) := by decide +kernel
theorem d_D_olderCount_9 : decode prog_1_method_31_code 9 = .ok (.ireturn, 1) := by decide +kernel
def Y_D_olderCount : sdY := ("SettingsDesk", prog_1_method_31_code, 1, (some .int), .code y_D_olderCount prog_1_method_31_code 1 (some .int) :: sdB0, { frames := 1, cells := 0, slots := 0, locals := 21 }, 0, 0)
theorem cw_D_olderCount_JM_min_312 : sd_cwS Y_D_olderCount Y_JM_min y_JM_min 312 2 := ⟨sd_goodS q265 q57 q58 q56, ⟨_, rfl⟩, ⟨rfl, rfl, rfl, rfl⟩, ⟨by decide, by decide, by decide +kernel⟩, ⟨by decide, by decide⟩⟩
section
variable {l : Launch} {D : va_G} {dA : Nat → ClassId} {b n : Nat} {ad : Nat → Nat} {L : Nat → sdL} {sc : Option (Nat × Nat × (Nat → Int32))}
def w_D_olderCount (M : sdM) (Q : Int32 → sdM → Prop) : Prop := w_JM_min M (M 0 7) (8 : Int32) (fun r4 M3 => Q r4 M3)
set_option maxHeartbeats 1000000 in
theorem c_D_olderCount (hA : sd_ad b n ad) (hT : l.stackTraces = false) (hD : isD n L dA) {Q : Int32 → sdM → Prop} {M : sdM} (hw : w_D_olderCount M Q) : sd_Cn l (sdE0 sc) y_D_olderCount Y_D_olderCount.2.2.2.2.1 Y_D_olderCount.2.2.2.2.2.1 0 0 D (sd_tys dA) b n ad L M [.ref 0] (sd_qi Q) sd_xf := by
  refine sd_enter (Y := Y_D_olderCount) rfl rfl rfl (Nat.le_of_ble_eq_true rfl) ?_
  show sdW l (sdE0 sc) Y_D_olderCount D (sd_tys dA) b n ad L ad (sd_H D (sdE0 sc).1 n ad L) (sd_qi Q) sd_xf 0 [(0, .ref 0)] [] M 0 0
  unfold w_D_olderCount at hw
  refine x_aload_n 0 0 d_D_olderCount_0 rfl rfl ?_
  refine x_geti 7 d_D_olderCount_1 hD.1 hD.2.1 rfl rfl (by decide) lay_D (List.mem_cons_of_mem _ q245) rfl ?_
  refine x_bipush (v := 8) d_D_olderCount_4 (by decide) ?_
  refine x_callSi (As := [.int (M 0 7), .int (8 : Int32)]) (rest := []) (rc := 0) (rs := 0) (c_JM_min hA hT  hw) cw_D_olderCount_JM_min_312 d_D_olderCount_6 rfl rfl (Nat.le_of_ble_eq_true rfl) (fun _ _ h => h.elim) (fun _ _ h => h) (fun r4 M3 hw => ?_)
  exact x_iret d_D_olderCount_9 rfl (fun _ h => h) ⟨_, rfl, hw⟩
end
theorem q266 : (.fieldLink "SettingsDesk" 42 "SettingsDesk" "trouble" "LSettingsDesk$Trouble;" : Cond) ∈ sdB0 := sd_tb1 206 rfl rfl
theorem q267 : (.fieldLink "SettingsDesk" 284 "SettingsDesk$Trouble" "fault" "I" : Cond) ∈ sdB0 := sd_tb1 163 rfl rfl
theorem q268 : (.fieldLink "SettingsDesk" 287 "SettingsDesk$Trouble" "atList" "I" : Cond) ∈ sdB0 := sd_tb1 165 rfl rfl
theorem q269 : (.fieldLink "SettingsDesk" 288 "SettingsDesk$Trouble" "atKey" "I" : Cond) ∈ sdB0 := sd_tb1 167 rfl rfl
theorem q270 : (.fieldLink "SettingsDesk" 289 "SettingsDesk$Trouble" "atPart" "I" : Cond) ∈ sdB0 := sd_tb1 169 rfl rfl
theorem q271 : (.fieldLink "SettingsDesk" 12 "SettingsDesk" "schema" "LSettingsDesk$Schema;" : Cond) ∈ sdB0 := sd_tb1 200 rfl rfl
theorem q272 : (.fieldLink "SettingsDesk" 67 "SettingsDesk$Schema" "lists" "I" : Cond) ∈ sdB0 := sd_tb1 107 rfl rfl
theorem q273 : (.fieldLink "SettingsDesk" 178 "SettingsDesk$Settings" "counts" "[I" : Cond) ∈ sdB0 := sd_tb1 139 rfl rfl
theorem q274 : (.methodLink "SettingsDesk" 242 ⟨"SettingsDesk", "olderCount", "()I"⟩ : Cond) ∈ sdB0 := sd_tb2 51 rfl rfl
theorem q275 : (.code ⟨"SettingsDesk", "olderCount", "()I"⟩ prog_1_method_31_code 1 (some .int) : Cond) ∈ sdB0 := sd_tb2 54 rfl rfl
theorem q276 : (.instanceMethod ⟨"SettingsDesk", "olderCount", "()I"⟩ : Cond) ∈ sdB0 := sd_tb2 53 rfl rfl
theorem q277 : (.selects "SettingsDesk" ⟨"SettingsDesk", "olderCount", "()I"⟩ ⟨"SettingsDesk", "olderCount", "()I"⟩ : Cond) ∈ sdB0 := sd_tbp (q := (⟨"SettingsDesk", "olderCount", "()I"⟩, 12)) (List.mem_of_getElem? (i := 1) rfl)
abbrev y_D_figure : MethodName := ⟨"SettingsDesk", "figure", "(I)I"⟩
theorem d_D_figure_0 : decode prog_1_method_21_code 0 = .ok (.iload_n 1, 1) := by decide +kernel
theorem d_D_figure_1 : decode prog_1_method_21_code 1 = .ok (.tableswitch (116) (0) (8) #[51, 56, 61, 66, 71, 84, 92, 100, 108], 51) := by decide +kernel
theorem d_D_figure_52 : decode prog_1_method_21_code 52 = .ok (.aload_n 0, 1) := by decide +kernel
theorem d_D_figure_53 : decode prog_1_method_21_code 53 = .ok (.getfield 46, 3) := by decide +kernel
theorem d_D_figure_56 : decode prog_1_method_21_code 56 = .ok (.ireturn, 1) := by decide +kernel
theorem d_D_figure_57 : decode prog_1_method_21_code 57 = .ok (.aload_n 0, 1) := by decide +kernel
theorem d_D_figure_58 : decode prog_1_method_21_code 58 = .ok (.invokevirtual 242, 3) := by decide +kernel
theorem d_D_figure_61 : decode prog_1_method_21_code 61 = .ok (.ireturn, 1) := by decide +kernel
theorem d_D_figure_62 : decode prog_1_method_21_code 62 = .ok (.aload_n 0, 1) := by decide +kernel
theorem d_D_figure_63 : decode prog_1_method_21_code 63 = .ok (.getfield 50, 3) := by decide +kernel
theorem d_D_figure_66 : decode prog_1_method_21_code 66 = .ok (.ireturn, 1) := by decide +kernel
theorem d_D_figure_67 : decode prog_1_method_21_code 67 = .ok (.aload_n 0, 1) := by decide +kernel
theorem d_D_figure_68 : decode prog_1_method_21_code 68 = .ok (.getfield 53, 3) := by decide +kernel
theorem d_D_figure_71 : decode prog_1_method_21_code 71 = .ok (.ireturn, 1) := by decide +kernel
theorem d_D_figure_72 : decode prog_1_method_21_code 72 = .ok (.aload_n 0, 1) := by decide +kernel
theorem d_D_figure_73 : decode prog_1_method_21_code 73 = .ok (.getfield 56, 3) := by decide +kernel
theorem d_D_figure_76 : decode prog_1_method_21_code 76 = .ok (.ifCond .eq (7), 3) := by decide +kernel
theorem d_D_figure_79 : decode prog_1_method_21_code 79 = .ok (.iconst 1, 1) := by decide +kernel
theorem d_D_figure_80 : decode prog_1_method_21_code 80 = .ok (.goto (4), 3) := by decide +kernel
theorem d_D_figure_83 : decode prog_1_method_21_code 83 = .ok (.iconst 0, 1) := by decide +kernel
theorem d_D_figure_84 : decode prog_1_method_21_code 84 = .ok (.ireturn, 1) := by decide +kernel
theorem d_D_figure_85 : decode prog_1_method_21_code 85 = .ok (.aload_n 0, 1) := by decide +kernel
theorem d_D_figure_86 : decode prog_1_method_21_code 86 = .ok (.getfield 42, 3) := by decide +kernel
theorem d_D_figure_89 : decode prog_1_method_21_code 89 = .ok (.getfield 284, 3) := by decide +kernel
theorem d_D_figure_92 : decode prog_1_method_21_code 92 = .ok (.ireturn, 1) := by decide +kernel
theorem d_D_figure_93 : decode prog_1_method_21_code 93 = .ok (.aload_n 0, 1) := by decide +kernel
theorem d_D_figure_94 : decode prog_1_method_21_code 94 = .ok (.getfield 42, 3) := by decide +kernel
theorem d_D_figure_97 : decode prog_1_method_21_code 97 = .ok (.getfield 287, 3) := by decide +kernel
theorem d_D_figure_100 : decode prog_1_method_21_code 100 = .ok (.ireturn, 1) := by decide +kernel
theorem d_D_figure_101 : decode prog_1_method_21_code 101 = .ok (.aload_n 0, 1) := by decide +kernel
theorem d_D_figure_102 : decode prog_1_method_21_code 102 = .ok (.getfield 42, 3) := by decide +kernel
theorem d_D_figure_105 : decode prog_1_method_21_code 105 = .ok (.getfield 288, 3) := by decide +kernel
theorem d_D_figure_108 : decode prog_1_method_21_code 108 = .ok (.ireturn, 1) := by decide +kernel
theorem d_D_figure_109 : decode prog_1_method_21_code 109 = .ok (.aload_n 0, 1) := by decide +kernel
theorem d_D_figure_110 : decode prog_1_method_21_code 110 = .ok (.getfield 42, 3) := by decide +kernel
theorem d_D_figure_113 : decode prog_1_method_21_code 113 = .ok (.getfield 289, 3) := by decide +kernel
theorem d_D_figure_116 : decode prog_1_method_21_code 116 = .ok (.ireturn, 1) := by decide +kernel
theorem d_D_figure_117 : decode prog_1_method_21_code 117 = .ok (.iload_n 1, 1) := by decide +kernel
theorem d_D_figure_118 : decode prog_1_method_21_code 118 = .ok (.bipush (10), 2) := by decide +kernel
theorem d_D_figure_120 : decode prog_1_method_21_code 120 = .ok (.if_icmp .lt (32), 3) := by decide +kernel
theorem d_D_figure_123 : decode prog_1_method_21_code 123 = .ok (.iload_n 1, 1) := by decide +kernel
theorem d_D_figure_124 : decode prog_1_method_21_code 124 = .ok (.bipush (10), 2) := by decide +kernel
theorem d_D_figure_126 : decode prog_1_method_21_code 126 = .ok (.isub, 1) := by decide +kernel
theorem d_D_figure_127 : decode prog_1_method_21_code 127 = .ok (.aload_n 0, 1) := by decide +kernel
theorem d_D_figure_128 : decode prog_1_method_21_code 128 = .ok (.getfield 12, 3) := by decide +kernel
theorem d_D_figure_131 : decode prog_1_method_21_code 131 = .ok (.getfield 67, 3) := by decide +kernel
theorem d_D_figure_134 : decode prog_1_method_21_code 134 = .ok (.if_icmp .ge (18), 3) := by decide +kernel
theorem d_D_figure_137 : decode prog_1_method_21_code 137 = .ok (.aload_n 0, 1) := by decide +kernel
theorem d_D_figure_138 : decode prog_1_method_21_code 138 = .ok (.getfield 19, 3) := by decide +kernel
theorem d_D_figure_141 : decode prog_1_method_21_code 141 = .ok (.getfield 178, 3) := by decide +kernel
theorem d_D_figure_144 : decode prog_1_method_21_code 144 = .ok (.iload_n 1, 1) := by decide +kernel
theorem d_D_figure_145 : decode prog_1_method_21_code 145 = .ok (.bipush (10), 2) := by decide +kernel
theorem d_D_figure_147 : decode prog_1_method_21_code 147 = .ok (.isub, 1) := by decide +kernel
theorem d_D_figure_148 : decode prog_1_method_21_code 148 = .ok (.iaload, 1) := by decide +kernel
theorem d_D_figure_149 : decode prog_1_method_21_code 149 = .ok (.goto (4), 3) := by decide +kernel
theorem d_D_figure_152 : decode prog_1_method_21_code 152 = .ok (.iconst (-1), 1) := by decide +kernel
theorem d_D_figure_153 : decode prog_1_method_21_code 153 = .ok (.ireturn, 1) := by decide +kernel
def Y_D_figure : sdY := ("SettingsDesk", prog_1_method_21_code, 2, (some .int), .code y_D_figure prog_1_method_21_code 2 (some .int) :: sdB0, { frames := 2, cells := 0, slots := 0, locals := 41 }, 0, 0)
theorem cw_D_figure_D_olderCount_242 : sd_cwV Y_D_figure Y_D_olderCount y_D_olderCount 242 0 "SettingsDesk" := ⟨sd_goodV q274 q276 q277 q264 q275, ⟨_, rfl⟩, ⟨rfl, rfl, rfl, rfl⟩, ⟨rfl, by decide, by decide, by decide +kernel⟩, ⟨by decide, by decide⟩⟩
section
variable {l : Launch} {D : va_G} {dA : Nat → ClassId} {b n : Nat} {ad : Nat → Nat} {L : Nat → sdL} {sc : Option (Nat × Nat × (Nat → Int32))}
def k_D_figure_153 (Q : Int32 → sdM → Prop) (M : sdM) (s0 : Int32) : Prop := Q s0 M
set_option maxHeartbeats 1000000 in
theorem t_D_figure_153 (hA : sd_ad b n ad) (hT : l.stackTraces = false) (hD : isD n L dA) {Q : Int32 → sdM → Prop} (M : sdM) (s0 : Int32) (hw : k_D_figure_153 Q M s0) : sdW l (sdE0 sc) Y_D_figure D (sd_tys dA) b n ad L ad (sd_H D (sdE0 sc).1 n ad L) (sd_qi Q) sd_xf 153 [] [.int s0] M 0 0 := by
  unfold k_D_figure_153 at hw
  exact x_iret d_D_figure_153 rfl (fun _ h => h) ⟨_, rfl, hw⟩
def k_D_figure_152 (Q : Int32 → sdM → Prop) (M : sdM) : Prop := k_D_figure_153 Q M (-1 : Int32)
set_option maxHeartbeats 1000000 in
theorem t_D_figure_152 (hA : sd_ad b n ad) (hT : l.stackTraces = false) (hD : isD n L dA) {Q : Int32 → sdM → Prop} (M : sdM) (hw : k_D_figure_152 Q M ) : sdW l (sdE0 sc) Y_D_figure D (sd_tys dA) b n ad L ad (sd_H D (sdE0 sc).1 n ad L) (sd_qi Q) sd_xf 152 [] [] M 0 0 := by
  unfold k_D_figure_152 at hw
  refine x_iconst (v := (-1)) d_D_figure_152 (by decide) ?_
  exact t_D_figure_153 hA hT hD M (-1 : Int32) hw
def k_D_figure_84 (Q : Int32 → sdM → Prop) (M : sdM) (s0 : Int32) : Prop := Q s0 M
set_option maxHeartbeats 1000000 in
theorem t_D_figure_84 (hA : sd_ad b n ad) (hT : l.stackTraces = false) (hD : isD n L dA) {Q : Int32 → sdM → Prop} (M : sdM) (s0 : Int32) (hw : k_D_figure_84 Q M s0) : sdW l (sdE0 sc) Y_D_figure D (sd_tys dA) b n ad L ad (sd_H D (sdE0 sc).1 n ad L) (sd_qi Q) sd_xf 84 [] [.int s0] M 0 0 := by
  unfold k_D_figure_84 at hw
  exact x_iret d_D_figure_84 rfl (fun _ h => h) ⟨_, rfl, hw⟩
def w_D_figure (M : sdM) (a1 : Int32) (Q : Int32 → sdM → Prop) : Prop := (a1 = 0 → Q (M 0 7) M) ∧ (¬ a1 = 0 → (a1 = 1 → w_D_olderCount M (fun r5 M4 => Q r5 M4)) ∧ (¬ a1 = 1 → (a1 = 2 → Q (M 0 8) M) ∧ (¬ a1 = 2 → (a1 = 3 → Q (M 0 9) M) ∧ (¬ a1 = 3 → (a1 = 4 → ((M 0 10) = 0 → k_D_figure_84 Q M (0 : Int32)) ∧ (¬ (M 0 10) = 0 → k_D_figure_84 Q M (1 : Int32))) ∧ (¬ a1 = 4 → (a1 = 5 → Q (M 42 0) M) ∧ (¬ a1 = 5 → (a1 = 6 → Q (M 42 1) M) ∧ (¬ a1 = 6 → (a1 = 7 → Q (M 42 2) M) ∧ (¬ a1 = 7 → (a1 = 8 → Q (M 42 3) M) ∧ (¬ a1 = 8 → (a1 < (10 : Int32) → k_D_figure_152 Q M) ∧ (¬ a1 < (10 : Int32) → ((M 1 1) ≤ (a1 - (10 : Int32)) → k_D_figure_152 Q M) ∧ (¬ (M 1 1) ≤ (a1 - (10 : Int32)) → vp_in (a1 - (10 : Int32)) 4 ∧ k_D_figure_153 Q M (M (25 + 1) (a1 - (10 : Int32)).toNatClampNeg))))))))))))
set_option maxHeartbeats 1000000 in
theorem c_D_figure {a1 : Int32} (hA : sd_ad b n ad) (hT : l.stackTraces = false) (hD : isD n L dA) {Q : Int32 → sdM → Prop} {M : sdM} (hw : w_D_figure M a1 Q) : sd_Cn l (sdE0 sc) y_D_figure Y_D_figure.2.2.2.2.1 Y_D_figure.2.2.2.2.2.1 0 0 D (sd_tys dA) b n ad L M [.ref 0, .int a1] (sd_qi Q) sd_xf := by
  refine sd_enter (Y := Y_D_figure) rfl rfl rfl (Nat.le_of_ble_eq_true rfl) ?_
  show sdW l (sdE0 sc) Y_D_figure D (sd_tys dA) b n ad L ad (sd_H D (sdE0 sc).1 n ad L) (sd_qi Q) sd_xf 0 [(0, .ref 0), (1, .int a1)] [] M 0 0
  unfold w_D_figure at hw
  refine x_iload_n 1 1 d_D_figure_0 rfl rfl ?_
  -- switch at 1
  by_cases hx1_0 : a1 = 0
  · have hw := hw.1 hx1_0
    refine x_tin 52 d_D_figure_1 (by rw [hx1_0]; decide) (by rw [hx1_0]; decide) (by rw [hx1_0]; rfl) rfl ?_
    refine x_aload_n 0 0 d_D_figure_52 rfl rfl ?_
    refine x_geti 7 d_D_figure_53 hD.1 hD.2.1 rfl rfl (by decide) lay_D (List.mem_cons_of_mem _ q245) rfl ?_
    exact x_iret d_D_figure_56 rfl (fun _ h => h) ⟨_, rfl, hw⟩
  · have hw := hw.2 hx1_0
    by_cases hx1_1 : a1 = 1
    · have hw := hw.1 hx1_1
      refine x_tin 57 d_D_figure_1 (by rw [hx1_1]; decide) (by rw [hx1_1]; decide) (by rw [hx1_1]; rfl) rfl ?_
      refine x_aload_n 0 0 d_D_figure_57 rfl rfl ?_
      refine x_callVi (As := []) (t := 0) (rest := []) (rc := 0) (rs := 0) (c_D_olderCount hA hT hD hw) cw_D_figure_D_olderCount_242 hD.1 hD.2.1 rfl d_D_figure_58 rfl rfl (Nat.le_of_ble_eq_true rfl) (fun _ _ h => h.elim) (fun _ _ h => h) (fun r5 M4 hw => ?_)
      exact x_iret d_D_figure_61 rfl (fun _ h => h) ⟨_, rfl, hw⟩
    · have hw := hw.2 hx1_1
      by_cases hx1_2 : a1 = 2
      · have hw := hw.1 hx1_2
        refine x_tin 62 d_D_figure_1 (by rw [hx1_2]; decide) (by rw [hx1_2]; decide) (by rw [hx1_2]; rfl) rfl ?_
        refine x_aload_n 0 0 d_D_figure_62 rfl rfl ?_
        refine x_geti 8 d_D_figure_63 hD.1 hD.2.1 rfl rfl (by decide) lay_D (List.mem_cons_of_mem _ q257) rfl ?_
        exact x_iret d_D_figure_66 rfl (fun _ h => h) ⟨_, rfl, hw⟩
      · have hw := hw.2 hx1_2
        by_cases hx1_3 : a1 = 3
        · have hw := hw.1 hx1_3
          refine x_tin 67 d_D_figure_1 (by rw [hx1_3]; decide) (by rw [hx1_3]; decide) (by rw [hx1_3]; rfl) rfl ?_
          refine x_aload_n 0 0 d_D_figure_67 rfl rfl ?_
          refine x_geti 9 d_D_figure_68 hD.1 hD.2.1 rfl rfl (by decide) lay_D (List.mem_cons_of_mem _ q256) rfl ?_
          exact x_iret d_D_figure_71 rfl (fun _ h => h) ⟨_, rfl, hw⟩
        · have hw := hw.2 hx1_3
          by_cases hx1_4 : a1 = 4
          · have hw := hw.1 hx1_4
            refine x_tin 72 d_D_figure_1 (by rw [hx1_4]; decide) (by rw [hx1_4]; decide) (by rw [hx1_4]; rfl) rfl ?_
            refine x_aload_n 0 0 d_D_figure_72 rfl rfl ?_
            refine x_geti 10 d_D_figure_73 hD.1 hD.2.1 rfl rfl (by decide) lay_D (List.mem_cons_of_mem _ q254) rfl ?_
            refine x_if_eq 83 d_D_figure_76 rfl (fun hc => ?_) (fun hc => ?_)
            · have hw := hw.1 hc
              refine x_iconst (v := 0) d_D_figure_83 (by decide) ?_
              refine x_sub [] [] rfl ?_
              exact t_D_figure_84 hA hT hD M (0 : Int32) hw
            · have hw := hw.2 hc
              refine x_iconst (v := 1) d_D_figure_79 (by decide) ?_
              refine x_goto 84 d_D_figure_80 rfl ?_
              refine x_sub [] [] rfl ?_
              exact t_D_figure_84 hA hT hD M (1 : Int32) hw
          · have hw := hw.2 hx1_4
            by_cases hx1_5 : a1 = 5
            · have hw := hw.1 hx1_5
              refine x_tin 85 d_D_figure_1 (by rw [hx1_5]; decide) (by rw [hx1_5]; decide) (by rw [hx1_5]; rfl) rfl ?_
              refine x_aload_n 0 0 d_D_figure_85 rfl rfl ?_
              refine x_getr 6 42 d_D_figure_86 hD.1 hD.2.1 rfl rfl (by decide) lay_D (List.mem_cons_of_mem _ q266) rfl ?_
              refine x_geti 0 d_D_figure_89 hD.trouble.1 hD.trouble.2 rfl rfl (by decide) lay_T (List.mem_cons_of_mem _ q267) rfl ?_
              exact x_iret d_D_figure_92 rfl (fun _ h => h) ⟨_, rfl, hw⟩
            · have hw := hw.2 hx1_5
              by_cases hx1_6 : a1 = 6
              · have hw := hw.1 hx1_6
                refine x_tin 93 d_D_figure_1 (by rw [hx1_6]; decide) (by rw [hx1_6]; decide) (by rw [hx1_6]; rfl) rfl ?_
                refine x_aload_n 0 0 d_D_figure_93 rfl rfl ?_
                refine x_getr 6 42 d_D_figure_94 hD.1 hD.2.1 rfl rfl (by decide) lay_D (List.mem_cons_of_mem _ q266) rfl ?_
                refine x_geti 1 d_D_figure_97 hD.trouble.1 hD.trouble.2 rfl rfl (by decide) lay_T (List.mem_cons_of_mem _ q268) rfl ?_
                exact x_iret d_D_figure_100 rfl (fun _ h => h) ⟨_, rfl, hw⟩
              · have hw := hw.2 hx1_6
                by_cases hx1_7 : a1 = 7
                · have hw := hw.1 hx1_7
                  refine x_tin 101 d_D_figure_1 (by rw [hx1_7]; decide) (by rw [hx1_7]; decide) (by rw [hx1_7]; rfl) rfl ?_
                  refine x_aload_n 0 0 d_D_figure_101 rfl rfl ?_
                  refine x_getr 6 42 d_D_figure_102 hD.1 hD.2.1 rfl rfl (by decide) lay_D (List.mem_cons_of_mem _ q266) rfl ?_
                  refine x_geti 2 d_D_figure_105 hD.trouble.1 hD.trouble.2 rfl rfl (by decide) lay_T (List.mem_cons_of_mem _ q269) rfl ?_
                  exact x_iret d_D_figure_108 rfl (fun _ h => h) ⟨_, rfl, hw⟩
                · have hw := hw.2 hx1_7
                  by_cases hx1_8 : a1 = 8
                  · have hw := hw.1 hx1_8
                    refine x_tin 109 d_D_figure_1 (by rw [hx1_8]; decide) (by rw [hx1_8]; decide) (by rw [hx1_8]; rfl) rfl ?_
                    refine x_aload_n 0 0 d_D_figure_109 rfl rfl ?_
                    refine x_getr 6 42 d_D_figure_110 hD.1 hD.2.1 rfl rfl (by decide) lay_D (List.mem_cons_of_mem _ q266) rfl ?_
                    refine x_geti 3 d_D_figure_113 hD.trouble.1 hD.trouble.2 rfl rfl (by decide) lay_T (List.mem_cons_of_mem _ q270) rfl ?_
                    exact x_iret d_D_figure_116 rfl (fun _ h => h) ⟨_, rfl, hw⟩
                  · have hw := hw.2 hx1_8
                    refine x_tout 117 d_D_figure_1 (by have g0 := lv_neT hx1_0 (show (0 : Int32).toInt = 0 from rfl); have g1 := lv_neT hx1_1 (show (1 : Int32).toInt = 1 from rfl); have g2 := lv_neT hx1_2 (show (2 : Int32).toInt = 2 from rfl); have g3 := lv_neT hx1_3 (show (3 : Int32).toInt = 3 from rfl); have g4 := lv_neT hx1_4 (show (4 : Int32).toInt = 4 from rfl); have g5 := lv_neT hx1_5 (show (5 : Int32).toInt = 5 from rfl); have g6 := lv_neT hx1_6 (show (6 : Int32).toInt = 6 from rfl); have g7 := lv_neT hx1_7 (show (7 : Int32).toInt = 7 from rfl); have g8 := lv_neT hx1_8 (show (8 : Int32).toInt = 8 from rfl); omega) rfl ?_
                    refine x_iload_n 1 1 d_D_figure_117 rfl rfl ?_
                    refine x_bipush (v := 10) d_D_figure_118 (by decide) ?_
                    refine x_icmp_lt 152 d_D_figure_120 rfl (fun hc => ?_) (fun hc => ?_)
                    · have hw := hw.1 hc
                      refine x_sub [] [] rfl ?_
                      exact t_D_figure_152 hA hT hD M hw
                    · have hw := hw.2 hc
                      refine x_iload_n 1 1 d_D_figure_123 rfl rfl ?_
                      refine x_bipush (v := 10) d_D_figure_124 (by decide) ?_
                      refine x_isub d_D_figure_126 ?_
                      refine x_aload_n 0 0 d_D_figure_127 rfl rfl ?_
                      refine x_getr 0 1 d_D_figure_128 hD.1 hD.2.1 rfl rfl (by decide) lay_D (List.mem_cons_of_mem _ q271) rfl ?_
                      refine x_geti 1 d_D_figure_131 hD.schema.1 hD.schema.2.1 rfl rfl (by decide) lay_C (List.mem_cons_of_mem _ q272) rfl ?_
                      refine x_icmp_ge 152 d_D_figure_134 rfl (fun hc => ?_) (fun hc => ?_)
                      · have hw := hw.1 hc
                        refine x_sub [] [] rfl ?_
                        exact t_D_figure_152 hA hT hD M hw
                      · have hw := hw.2 hc
                        refine x_aload_n 0 0 d_D_figure_137 rfl rfl ?_
                        refine x_getr 1 25 d_D_figure_138 hD.1 hD.2.1 rfl rfl (by decide) lay_D (List.mem_cons_of_mem _ q243) rfl ?_
                        refine x_getr 0 (25 + 1) d_D_figure_141 hD.running.1 hD.running.2.1 rfl rfl (by decide) lay_S (List.mem_cons_of_mem _ q273) rfl ?_
                        refine x_iload_n 1 1 d_D_figure_144 rfl rfl ?_
                        refine x_bipush (v := 10) d_D_figure_145 (by decide) ?_
                        refine x_isub d_D_figure_147 ?_
                        obtain ⟨hi6, hw⟩ := hw
                        refine x_iald d_D_figure_148 hD.running.counts.1 hD.running.counts.2 rfl hi6 ?_
                        refine x_goto 153 d_D_figure_149 rfl ?_
                        refine x_sub [] [] rfl ?_
                        exact t_D_figure_153 hA hT hD M (M (25 + 1) (a1 - (10 : Int32)).toNatClampNeg) hw
end
theorem q278 : (.fieldLink "SettingsDesk" 134 "SettingsDesk$Schema" "isReady" "Z" : Cond) ∈ sdB0 := sd_tb1 105 rfl rfl
theorem q279 : (.code ⟨"SettingsDesk", "requireOpenSchema", "()V"⟩ prog_1_method_22_code 1 none : Cond) ∈ sdB0 := sd_tb2 69 rfl rfl
theorem q280 : (.classLink "SettingsDesk" 70 "java/lang/IllegalStateException" : Cond) ∈ sdB0 := sd_tb2 70 rfl rfl
theorem q281 : (.initialized "java/lang/IllegalStateException" : Cond) ∈ sdB0 := sd_tb1 12 rfl rfl
theorem q282 : (.instantiable "java/lang/IllegalStateException" 6 : Cond) ∈ sdB0 := sd_tb2 71 rfl rfl
abbrev y_D_requireOpenSchema : MethodName := ⟨"SettingsDesk", "requireOpenSchema", "()V"⟩
theorem d_D_requireOpenSchema_0 : decode prog_1_method_22_code 0 = .ok (.aload_n 0, 1) := by decide +kernel
theorem d_D_requireOpenSchema_1 : decode prog_1_method_22_code 1 = .ok (.getfield 56, 3) := by decide +kernel
theorem d_D_requireOpenSchema_4 : decode prog_1_method_22_code 4 = .ok (.ifCond .ne (13), 3) := by decide +kernel
theorem d_D_requireOpenSchema_7 : decode prog_1_method_22_code 7 = .ok (.aload_n 0, 1) := by decide +kernel
theorem d_D_requireOpenSchema_8 : decode prog_1_method_22_code 8 = .ok (.getfield 12, 3) := by decide +kernel
theorem d_D_requireOpenSchema_11 : decode prog_1_method_22_code 11 = .ok (.getfield 134, 3) := by decide +kernel
theorem d_D_requireOpenSchema_14 : decode prog_1_method_22_code 14 = .ok (.ifCond .eq (14), 3) := by decide +kernel
theorem d_D_requireOpenSchema_17 : decode prog_1_method_22_code 17 = .ok (.new 70, 3) := by decide +kernel
theorem d_D_requireOpenSchema_20 : decode prog_1_method_22_code 20 = .ok (.dup, 1) := by decide +kernel
theorem d_D_requireOpenSchema_21 : decode prog_1_method_22_code 21 = .ok (.ldc_w 292, 3) := by decide +kernel
theorem d_D_requireOpenSchema_24 : decode prog_1_method_22_code 24 = .ok (.invokespecial 74, 3) := by decide +kernel
theorem d_D_requireOpenSchema_27 : decode prog_1_method_22_code 27 = .ok (.athrow, 1) := by decide +kernel
theorem d_D_requireOpenSchema_28 : decode prog_1_method_22_code 28 = .ok (.return_, 1) := by decide +kernel
def Y_D_requireOpenSchema : sdY := ("SettingsDesk", prog_1_method_22_code, 1, none, .code y_D_requireOpenSchema prog_1_method_22_code 1 none :: sdB0, { frames := 6, cells := 1, slots := 6, locals := 82 }, 1, 6)
section
variable {l : Launch} {D : va_G} {dA : Nat → ClassId} {b n : Nat} {ad : Nat → Nat} {L : Nat → sdL} {sc : Option (Nat × Nat × (Nat → Int32))}
def k_D_requireOpenSchema_17 (Q : sdM → Prop) (X : String → sdM → Prop) (M : sdM) : Prop := X "java/lang/IllegalStateException" M
set_option maxHeartbeats 1000000 in
theorem t_D_requireOpenSchema_17 (hA : sd_ad b n ad) (hT : l.stackTraces = false) (hD : isD n L dA) {Q : sdM → Prop} {X : String → sdM → Prop} (M : sdM) (hw : k_D_requireOpenSchema_17 Q X M ) : sdW l (sdE0 sc) Y_D_requireOpenSchema D (sd_tys dA) b n ad L ad (sd_H D (sdE0 sc).1 n ad L) (sd_qv Q) X 17 [] [] M 1 6 := by
  unfold k_D_requireOpenSchema_17 at hw
  exact x_throwS (names := sdExN) (is := 292) (ic := 74) (rc := 0) (rs := 0) hT fit_ISE fit_N (sd_goodB q279) (List.mem_cons_of_mem _ q280) (List.mem_cons_of_mem _ q281) (List.mem_cons_of_mem _ q282) (List.mem_of_getElem? (i := 0) rfl) oa_ISE d_D_requireOpenSchema_17 d_D_requireOpenSchema_20 (Or.inr ⟨d_D_requireOpenSchema_21, rfl⟩) d_D_requireOpenSchema_24 d_D_requireOpenSchema_27 (by decide) (Nat.le_of_ble_eq_true rfl) rfl rfl (fun _ _ h => h) hw
def w_D_requireOpenSchema (M : sdM) (Q : sdM → Prop) (X : String → sdM → Prop) : Prop := (¬ (M 0 10) = 0 → k_D_requireOpenSchema_17 Q X M) ∧ ((M 0 10) = 0 → ((M 1 0) = 0 → Q M) ∧ (¬ (M 1 0) = 0 → k_D_requireOpenSchema_17 Q X M))
set_option maxHeartbeats 1000000 in
theorem c_D_requireOpenSchema (hA : sd_ad b n ad) (hT : l.stackTraces = false) (hD : isD n L dA) {Q : sdM → Prop} {X : String → sdM → Prop} {M : sdM} (hw : w_D_requireOpenSchema M Q X) : sd_Cn l (sdE0 sc) y_D_requireOpenSchema Y_D_requireOpenSchema.2.2.2.2.1 Y_D_requireOpenSchema.2.2.2.2.2.1 1 6 D (sd_tys dA) b n ad L M [.ref 0] (sd_qv Q) X := by
  refine sd_enter (Y := Y_D_requireOpenSchema) rfl rfl rfl (Nat.le_of_ble_eq_true rfl) ?_
  show sdW l (sdE0 sc) Y_D_requireOpenSchema D (sd_tys dA) b n ad L ad (sd_H D (sdE0 sc).1 n ad L) (sd_qv Q) X 0 [(0, .ref 0)] [] M 1 6
  unfold w_D_requireOpenSchema at hw
  refine x_aload_n 0 0 d_D_requireOpenSchema_0 rfl rfl ?_
  refine x_geti 10 d_D_requireOpenSchema_1 hD.1 hD.2.1 rfl rfl (by decide) lay_D (List.mem_cons_of_mem _ q254) rfl ?_
  refine x_if_ne 17 d_D_requireOpenSchema_4 rfl (fun hc => ?_) (fun hc => ?_)
  · have hw := hw.1 hc
    refine x_sub [] [] rfl ?_
    exact t_D_requireOpenSchema_17 hA hT hD M hw
  · have hw := hw.2 hc
    refine x_aload_n 0 0 d_D_requireOpenSchema_7 rfl rfl ?_
    refine x_getr 0 1 d_D_requireOpenSchema_8 hD.1 hD.2.1 rfl rfl (by decide) lay_D (List.mem_cons_of_mem _ q271) rfl ?_
    refine x_geti 0 d_D_requireOpenSchema_11 hD.schema.1 hD.schema.2.1 rfl rfl (by decide) lay_C (List.mem_cons_of_mem _ q278) rfl ?_
    refine x_if_eq 28 d_D_requireOpenSchema_14 rfl (fun hc => ?_) (fun hc => ?_)
    · have hw := hw.1 hc
      exact x_vret d_D_requireOpenSchema_28 rfl (fun _ h => h) ⟨rfl, hw⟩
    · have hw := hw.2 hc
      refine x_sub [] [] rfl ?_
      exact t_D_requireOpenSchema_17 hA hT hD M hw
end
theorem q283 : (.code ⟨"SettingsDesk", "list", "()I"⟩ prog_1_method_2_code 1 (some .int) : Cond) ∈ sdB0 := sd_tb2 65 rfl rfl
theorem q284 : (.methodLink "SettingsDesk" 64 ⟨"SettingsDesk", "requireOpenSchema", "()V"⟩ : Cond) ∈ sdB0 := sd_tb2 66 rfl rfl
theorem q285 : (.instanceMethod ⟨"SettingsDesk", "requireOpenSchema", "()V"⟩ : Cond) ∈ sdB0 := sd_tb2 68 rfl rfl
theorem q286 : (.selects "SettingsDesk" ⟨"SettingsDesk", "requireOpenSchema", "()V"⟩ ⟨"SettingsDesk", "requireOpenSchema", "()V"⟩ : Cond) ∈ sdB0 := sd_tbp (q := (⟨"SettingsDesk", "requireOpenSchema", "()V"⟩, 12)) (List.mem_of_getElem? (i := 2) rfl)
abbrev y_D_list : MethodName := ⟨"SettingsDesk", "list", "()I"⟩
theorem d_D_list_0 : decode prog_1_method_2_code 0 = .ok (.aload_n 0, 1) := by decide +kernel
theorem d_D_list_1 : decode prog_1_method_2_code 1 = .ok (.invokevirtual 64, 3) := by decide +kernel
theorem d_D_list_4 : decode prog_1_method_2_code 4 = .ok (.aload_n 0, 1) := by decide +kernel
theorem d_D_list_5 : decode prog_1_method_2_code 5 = .ok (.getfield 12, 3) := by decide +kernel
theorem d_D_list_8 : decode prog_1_method_2_code 8 = .ok (.getfield 67, 3) := by decide +kernel
theorem d_D_list_11 : decode prog_1_method_2_code 11 = .ok (.iconst 4, 1) := by decide +kernel
theorem d_D_list_12 : decode prog_1_method_2_code 12 = .ok (.if_icmp .lt (13), 3) := by decide +kernel
theorem d_D_list_15 : decode prog_1_method_2_code 15 = .ok (.new 70, 3) := by decide +kernel
theorem d_D_list_18 : decode prog_1_method_2_code 18 = .ok (.dup, 1) := by decide +kernel
theorem d_D_list_19 : decode prog_1_method_2_code 19 = .ok (.ldc 72, 2) := by decide +kernel
theorem d_D_list_21 : decode prog_1_method_2_code 21 = .ok (.invokespecial 74, 3) := by decide +kernel
theorem d_D_list_24 : decode prog_1_method_2_code 24 = .ok (.athrow, 1) := by decide +kernel
theorem d_D_list_25 : decode prog_1_method_2_code 25 = .ok (.aload_n 0, 1) := by decide +kernel
theorem d_D_list_26 : decode prog_1_method_2_code 26 = .ok (.getfield 12, 3) := by decide +kernel
theorem d_D_list_29 : decode prog_1_method_2_code 29 = .ok (.dup, 1) := by decide +kernel
theorem d_D_list_30 : decode prog_1_method_2_code 30 = .ok (.getfield 67, 3) := by decide +kernel
theorem d_D_list_33 : decode prog_1_method_2_code 33 = .ok (.iconst 1, 1) := by decide +kernel
theorem d_D_list_34 : decode prog_1_method_2_code 34 = .ok (.iadd, 1) := by decide +kernel
theorem d_D_list_35 : decode prog_1_method_2_code 35 = .ok (.putfield 67, 3) := by decide +kernel
theorem d_D_list_38 : decode prog_1_method_2_code 38 = .ok (.aload_n 0, 1) := by decide +kernel
theorem d_D_list_39 : decode prog_1_method_2_code 39 = .ok (.getfield 12, 3) := by decide +kernel
theorem d_D_list_42 : decode prog_1_method_2_code 42 = .ok (.getfield 67, 3) := by decide +kernel
theorem d_D_list_45 : decode prog_1_method_2_code 45 = .ok (.iconst 1, 1) := by decide +kernel
theorem d_D_list_46 : decode prog_1_method_2_code 46 = .ok (.isub, 1) := by decide +kernel
theorem d_D_list_47 : decode prog_1_method_2_code 47 = .ok (.ireturn, 1) := by decide +kernel
def Y_D_list : sdY := ("SettingsDesk", prog_1_method_2_code, 1, (some .int), .code y_D_list prog_1_method_2_code 1 (some .int) :: sdB0, { frames := 7, cells := 2, slots := 12, locals := 102 }, 2, 12)
theorem cw_D_list_D_requireOpenSchema_64 : sd_cwV Y_D_list Y_D_requireOpenSchema y_D_requireOpenSchema 64 0 "SettingsDesk" := ⟨sd_goodV q284 q285 q286 q264 q279, ⟨_, rfl⟩, ⟨rfl, rfl, rfl, rfl⟩, ⟨rfl, by decide, by decide, by decide +kernel⟩, ⟨by decide, by decide⟩⟩
section
variable {l : Launch} {D : va_G} {dA : Nat → ClassId} {b n : Nat} {ad : Nat → Nat} {L : Nat → sdL} {sc : Option (Nat × Nat × (Nat → Int32))}
def w_D_list (M : sdM) (Q : Int32 → sdM → Prop) (X : String → sdM → Prop) : Prop := w_D_requireOpenSchema M (fun M4 => ((M4 1 1) < (4 : Int32) → ∀ M5 : sdM, M5 = sd_s M4 1 1 ((M4 1 1) + (1 : Int32)) → Q ((M5 1 1) - (1 : Int32)) M5) ∧ (¬ (M4 1 1) < (4 : Int32) → X "java/lang/IllegalStateException" M4)) X
set_option maxHeartbeats 1000000 in
theorem c_D_list (hA : sd_ad b n ad) (hT : l.stackTraces = false) (hD : isD n L dA) {Q : Int32 → sdM → Prop} {X : String → sdM → Prop} {M : sdM} (hw : w_D_list M Q X) : sd_Cn l (sdE0 sc) y_D_list Y_D_list.2.2.2.2.1 Y_D_list.2.2.2.2.2.1 2 12 D (sd_tys dA) b n ad L M [.ref 0] (sd_qi Q) X := by
  refine sd_enter (Y := Y_D_list) rfl rfl rfl (Nat.le_of_ble_eq_true rfl) ?_
  show sdW l (sdE0 sc) Y_D_list D (sd_tys dA) b n ad L ad (sd_H D (sdE0 sc).1 n ad L) (sd_qi Q) X 0 [(0, .ref 0)] [] M 2 12
  unfold w_D_list at hw
  refine x_aload_n 0 0 d_D_list_0 rfl rfl ?_
  refine x_callVv (As := []) (t := 0) (rest := []) (rc := 1) (rs := 6) (c_D_requireOpenSchema hA hT hD hw) cw_D_list_D_requireOpenSchema_64 hD.1 hD.2.1 rfl d_D_list_1 rfl rfl (Nat.le_of_ble_eq_true rfl) (fun _ _ h => h) (fun _ _ h => h) (fun M4 hw => ?_)
  refine x_aload_n 0 0 d_D_list_4 rfl rfl ?_
  refine x_getr 0 1 d_D_list_5 hD.1 hD.2.1 rfl rfl (by decide) lay_D (List.mem_cons_of_mem _ q271) rfl ?_
  refine x_geti 1 d_D_list_8 hD.schema.1 hD.schema.2.1 rfl rfl (by decide) lay_C (List.mem_cons_of_mem _ q272) rfl ?_
  refine x_iconst (v := 4) d_D_list_11 (by decide) ?_
  refine x_icmp_lt 25 d_D_list_12 rfl (fun hc => ?_) (fun hc => ?_)
  · have hw := hw.1 hc
    refine x_aload_n 0 0 d_D_list_25 rfl rfl ?_
    refine x_getr 0 1 d_D_list_26 hD.1 hD.2.1 rfl rfl (by decide) lay_D (List.mem_cons_of_mem _ q271) rfl ?_
    refine x_dup d_D_list_29 rfl ?_
    refine x_geti 1 d_D_list_30 hD.schema.1 hD.schema.2.1 rfl rfl (by decide) lay_C (List.mem_cons_of_mem _ q272) rfl ?_
    refine x_iconst (v := 1) d_D_list_33 (by decide) ?_
    refine x_iadd d_D_list_34 ?_
    refine x_puti 1 (ty := .int) hA d_D_list_35 hD.schema.1 hD.schema.2.1 rfl rfl (by decide) lay_C (List.mem_cons_of_mem _ q272) rfl ty_C ty_C_ok nm_C rfl (by decide +kernel) rfl rfl (fun M5 e6 => ?_)
    have hw := hw M5 e6
    clear e6
    refine x_aload_n 0 0 d_D_list_38 rfl rfl ?_
    refine x_getr 0 1 d_D_list_39 hD.1 hD.2.1 rfl rfl (by decide) lay_D (List.mem_cons_of_mem _ q271) rfl ?_
    refine x_geti 1 d_D_list_42 hD.schema.1 hD.schema.2.1 rfl rfl (by decide) lay_C (List.mem_cons_of_mem _ q272) rfl ?_
    refine x_iconst (v := 1) d_D_list_45 (by decide) ?_
    refine x_isub d_D_list_46 ?_
    exact x_iret d_D_list_47 rfl (fun _ h => h) ⟨_, rfl, hw⟩
  · have hw := hw.2 hc
    exact x_throwS (names := sdExN) (is := 72) (ic := 74) (rc := 0) (rs := 0) hT fit_ISE fit_N (sd_goodB q283) (List.mem_cons_of_mem _ q280) (List.mem_cons_of_mem _ q281) (List.mem_cons_of_mem _ q282) (List.mem_of_getElem? (i := 1) rfl) oa_ISE d_D_list_15 d_D_list_18 (Or.inl ⟨d_D_list_19, rfl⟩) d_D_list_21 d_D_list_24 (by decide) (Nat.le_of_ble_eq_true rfl) rfl rfl (fun _ _ h => h) hw
end
theorem q287 : (.code ⟨"SettingsDesk", "requireList", "(I)V"⟩ prog_1_method_24_code 2 none : Cond) ∈ sdB0 := sd_tb2 152 rfl rfl
theorem q288 : (.classLink "SettingsDesk" 206 "java/lang/IndexOutOfBoundsException" : Cond) ∈ sdB0 := sd_tb2 157 rfl rfl
theorem q289 : (.initialized "java/lang/IndexOutOfBoundsException" : Cond) ∈ sdB0 := sd_tb1 13 rfl rfl
theorem q290 : (.instantiable "java/lang/IndexOutOfBoundsException" 6 : Cond) ∈ sdB0 := sd_tb2 158 rfl rfl
theorem q291 : (.methodLink "SettingsDesk" 296 ⟨"SettingsDesk$Schema", "hasList", "(I)Z"⟩ : Cond) ∈ sdB0 := sd_tb2 153 rfl rfl
abbrev y_D_requireList : MethodName := ⟨"SettingsDesk", "requireList", "(I)V"⟩
theorem d_D_requireList_0 : decode prog_1_method_24_code 0 = .ok (.aload_n 0, 1) := by decide +kernel
theorem d_D_requireList_1 : decode prog_1_method_24_code 1 = .ok (.getfield 12, 3) := by decide +kernel
theorem d_D_requireList_4 : decode prog_1_method_24_code 4 = .ok (.iload_n 1, 1) := by decide +kernel
theorem d_D_requireList_5 : decode prog_1_method_24_code 5 = .ok (.invokevirtual 296, 3) := by decide +kernel
theorem d_D_requireList_8 : decode prog_1_method_24_code 8 = .ok (.ifCond .ne (14), 3) := by decide +kernel
theorem d_D_requireList_11 : decode prog_1_method_24_code 11 = .ok (.new 206, 3) := by decide +kernel
theorem d_D_requireList_14 : decode prog_1_method_24_code 14 = .ok (.dup, 1) := by decide +kernel
theorem d_D_requireList_15 : decode prog_1_method_24_code 15 = .ok (.ldc_w 299, 3) := by decide +kernel
theorem d_D_requireList_18 : decode prog_1_method_24_code 18 = .ok (.invokespecial 210, 3) := by decide +kernel
theorem d_D_requireList_21 : decode prog_1_method_24_code 21 = .ok (.athrow, 1) := by decide +kernel
theorem d_D_requireList_22 : decode prog_1_method_24_code 22 = .ok (.return_, 1) := by decide +kernel
def Y_D_requireList : sdY := ("SettingsDesk", prog_1_method_24_code, 2, none, .code y_D_requireList prog_1_method_24_code 2 none :: sdB0, { frames := 6, cells := 1, slots := 6, locals := 82 }, 1, 6)
theorem cw_D_requireList_C_hasList_296 : sd_cwV Y_D_requireList Y_C_hasList y_C_hasList 296 1 "SettingsDesk$Schema" := ⟨sd_goodV q291 q66 q67 q68 q65, ⟨_, rfl⟩, ⟨rfl, rfl, rfl, rfl⟩, ⟨rfl, by decide, by decide, by decide +kernel⟩, ⟨by decide, by decide⟩⟩
section
variable {l : Launch} {D : va_G} {dA : Nat → ClassId} {b n : Nat} {ad : Nat → Nat} {L : Nat → sdL} {sc : Option (Nat × Nat × (Nat → Int32))}
def w_D_requireList (M : sdM) (a1 : Int32) (Q : sdM → Prop) (X : String → sdM → Prop) : Prop := w_C_hasList M a1 (fun r4 M3 => (¬ r4 = 0 → Q M3) ∧ (r4 = 0 → X "java/lang/IndexOutOfBoundsException" M3))
set_option maxHeartbeats 1000000 in
theorem c_D_requireList {a1 : Int32} (hA : sd_ad b n ad) (hT : l.stackTraces = false) (hD : isD n L dA) {Q : sdM → Prop} {X : String → sdM → Prop} {M : sdM} (hw : w_D_requireList M a1 Q X) : sd_Cn l (sdE0 sc) y_D_requireList Y_D_requireList.2.2.2.2.1 Y_D_requireList.2.2.2.2.2.1 1 6 D (sd_tys dA) b n ad L M [.ref 0, .int a1] (sd_qv Q) X := by
  refine sd_enter (Y := Y_D_requireList) rfl rfl rfl (Nat.le_of_ble_eq_true rfl) ?_
  show sdW l (sdE0 sc) Y_D_requireList D (sd_tys dA) b n ad L ad (sd_H D (sdE0 sc).1 n ad L) (sd_qv Q) X 0 [(0, .ref 0), (1, .int a1)] [] M 1 6
  unfold w_D_requireList at hw
  refine x_aload_n 0 0 d_D_requireList_0 rfl rfl ?_
  refine x_getr 0 1 d_D_requireList_1 hD.1 hD.2.1 rfl rfl (by decide) lay_D (List.mem_cons_of_mem _ q271) rfl ?_
  refine x_iload_n 1 1 d_D_requireList_4 rfl rfl ?_
  refine x_callVi (As := [.int a1]) (t := 1) (rest := []) (rc := 1) (rs := 6) (c_C_hasList hA hT hD.schema hw) cw_D_requireList_C_hasList_296 hD.schema.1 hD.schema.2.1 rfl d_D_requireList_5 rfl rfl (Nat.le_of_ble_eq_true rfl) (fun _ _ h => h.elim) (fun _ _ h => h) (fun r4 M3 hw => ?_)
  refine x_if_ne 22 d_D_requireList_8 rfl (fun hc => ?_) (fun hc => ?_)
  · have hw := hw.1 hc
    exact x_vret d_D_requireList_22 rfl (fun _ h => h) ⟨rfl, hw⟩
  · have hw := hw.2 hc
    exact x_throwS (names := sdExN) (is := 299) (ic := 210) (rc := 0) (rs := 0) hT fit_IOB fit_N (sd_goodB q287) (List.mem_cons_of_mem _ q288) (List.mem_cons_of_mem _ q289) (List.mem_cons_of_mem _ q290) (List.mem_of_getElem? (i := 2) rfl) oa_IOB d_D_requireList_11 d_D_requireList_14 (Or.inr ⟨d_D_requireList_15, rfl⟩) d_D_requireList_18 d_D_requireList_21 (by decide) (Nat.le_of_ble_eq_true rfl) rfl rfl (fun _ _ h => h) hw
end
theorem q292 : (.fieldLink "SettingsDesk" 81 "SettingsDesk$Schema" "leaves" "[I" : Cond) ∈ sdB0 := sd_tb1 110 rfl rfl
theorem q293 : (.code ⟨"SettingsDesk", "leaf", "(IIIII)I"⟩ prog_1_method_3_code 6 (some .int) : Cond) ∈ sdB0 := sd_tb2 148 rfl rfl
theorem q294 : (.classLink "SettingsDesk" 91 "java/lang/IllegalArgumentException" : Cond) ∈ sdB0 := sd_tb2 179 rfl rfl
theorem q295 : (.initialized "java/lang/IllegalArgumentException" : Cond) ∈ sdB0 := sd_tb1 14 rfl rfl
theorem q296 : (.instantiable "java/lang/IllegalArgumentException" 6 : Cond) ∈ sdB0 := sd_tb2 180 rfl rfl
theorem q297 : (.methodLink "SettingsDesk" 77 ⟨"SettingsDesk", "requireList", "(I)V"⟩ : Cond) ∈ sdB0 := sd_tb2 149 rfl rfl
theorem q298 : (.instanceMethod ⟨"SettingsDesk", "requireList", "(I)V"⟩ : Cond) ∈ sdB0 := sd_tb2 151 rfl rfl
theorem q299 : (.selects "SettingsDesk" ⟨"SettingsDesk", "requireList", "(I)V"⟩ ⟨"SettingsDesk", "requireList", "(I)V"⟩ : Cond) ∈ sdB0 := sd_tbp (q := (⟨"SettingsDesk", "requireList", "(I)V"⟩, 12)) (List.mem_of_getElem? (i := 4) rfl)
theorem q300 : (.methodLink "SettingsDesk" 87 ⟨"SettingsDesk$Schema", "allowsLeaf", "(III)Z"⟩ : Cond) ∈ sdB0 := sd_tb2 174 rfl rfl
theorem q301 : (.code ⟨"SettingsDesk$Schema", "allowsLeaf", "(III)Z"⟩ prog_7_method_5_code 4 (some .boolean) : Cond) ∈ sdB0 := sd_tb2 177 rfl rfl
theorem q302 : (.instanceMethod ⟨"SettingsDesk$Schema", "allowsLeaf", "(III)Z"⟩ : Cond) ∈ sdB0 := sd_tb2 175 rfl rfl
theorem q303 : (.selects "SettingsDesk$Schema" ⟨"SettingsDesk$Schema", "allowsLeaf", "(III)Z"⟩ ⟨"SettingsDesk$Schema", "allowsLeaf", "(III)Z"⟩ : Cond) ∈ sdB0 := sd_tb2 176 rfl rfl
theorem q304 : (.methodLink "SettingsDesk" 96 ⟨"SettingsDesk$Schema", "addLeaf", "(IIIII)I"⟩ : Cond) ∈ sdB0 := sd_tb2 195 rfl rfl
theorem q305 : (.code ⟨"SettingsDesk$Schema", "addLeaf", "(IIIII)I"⟩ prog_7_method_6_code 8 (some .int) : Cond) ∈ sdB0 := sd_tb2 198 rfl rfl
theorem q306 : (.instanceMethod ⟨"SettingsDesk$Schema", "addLeaf", "(IIIII)I"⟩ : Cond) ∈ sdB0 := sd_tb2 196 rfl rfl
theorem q307 : (.selects "SettingsDesk$Schema" ⟨"SettingsDesk$Schema", "addLeaf", "(IIIII)I"⟩ ⟨"SettingsDesk$Schema", "addLeaf", "(IIIII)I"⟩ : Cond) ∈ sdB0 := sd_tb2 197 rfl rfl
abbrev y_D_leaf : MethodName := ⟨"SettingsDesk", "leaf", "(IIIII)I"⟩
theorem d_D_leaf_0 : decode prog_1_method_3_code 0 = .ok (.aload_n 0, 1) := by decide +kernel
theorem d_D_leaf_1 : decode prog_1_method_3_code 1 = .ok (.invokevirtual 64, 3) := by decide +kernel
theorem d_D_leaf_4 : decode prog_1_method_3_code 4 = .ok (.aload_n 0, 1) := by decide +kernel
theorem d_D_leaf_5 : decode prog_1_method_3_code 5 = .ok (.iload_n 1, 1) := by decide +kernel
theorem d_D_leaf_6 : decode prog_1_method_3_code 6 = .ok (.invokevirtual 77, 3) := by decide +kernel
theorem d_D_leaf_9 : decode prog_1_method_3_code 9 = .ok (.aload_n 0, 1) := by decide +kernel
theorem d_D_leaf_10 : decode prog_1_method_3_code 10 = .ok (.getfield 12, 3) := by decide +kernel
theorem d_D_leaf_13 : decode prog_1_method_3_code 13 = .ok (.getfield 81, 3) := by decide +kernel
theorem d_D_leaf_16 : decode prog_1_method_3_code 16 = .ok (.iload_n 1, 1) := by decide +kernel
theorem d_D_leaf_17 : decode prog_1_method_3_code 17 = .ok (.iaload, 1) := by decide +kernel
theorem d_D_leaf_18 : decode prog_1_method_3_code 18 = .ok (.iconst 4, 1) := by decide +kernel
theorem d_D_leaf_19 : decode prog_1_method_3_code 19 = .ok (.if_icmp .lt (13), 3) := by decide +kernel
theorem d_D_leaf_22 : decode prog_1_method_3_code 22 = .ok (.new 70, 3) := by decide +kernel
theorem d_D_leaf_25 : decode prog_1_method_3_code 25 = .ok (.dup, 1) := by decide +kernel
theorem d_D_leaf_26 : decode prog_1_method_3_code 26 = .ok (.ldc 85, 2) := by decide +kernel
theorem d_D_leaf_28 : decode prog_1_method_3_code 28 = .ok (.invokespecial 74, 3) := by decide +kernel
theorem d_D_leaf_31 : decode prog_1_method_3_code 31 = .ok (.athrow, 1) := by decide +kernel
theorem d_D_leaf_32 : decode prog_1_method_3_code 32 = .ok (.aload_n 0, 1) := by decide +kernel
theorem d_D_leaf_33 : decode prog_1_method_3_code 33 = .ok (.getfield 12, 3) := by decide +kernel
theorem d_D_leaf_36 : decode prog_1_method_3_code 36 = .ok (.iload_n 2, 1) := by decide +kernel
theorem d_D_leaf_37 : decode prog_1_method_3_code 37 = .ok (.iload_n 3, 1) := by decide +kernel
theorem d_D_leaf_38 : decode prog_1_method_3_code 38 = .ok (.iload 4, 2) := by decide +kernel
theorem d_D_leaf_40 : decode prog_1_method_3_code 40 = .ok (.invokevirtual 87, 3) := by decide +kernel
theorem d_D_leaf_43 : decode prog_1_method_3_code 43 = .ok (.ifCond .eq (14), 3) := by decide +kernel
theorem d_D_leaf_46 : decode prog_1_method_3_code 46 = .ok (.iload 5, 2) := by decide +kernel
theorem d_D_leaf_48 : decode prog_1_method_3_code 48 = .ok (.ifCond .lt (9), 3) := by decide +kernel
theorem d_D_leaf_51 : decode prog_1_method_3_code 51 = .ok (.iload 5, 2) := by decide +kernel
theorem d_D_leaf_53 : decode prog_1_method_3_code 53 = .ok (.iconst 3, 1) := by decide +kernel
theorem d_D_leaf_54 : decode prog_1_method_3_code 54 = .ok (.if_icmp .le (13), 3) := by decide +kernel
theorem d_D_leaf_57 : decode prog_1_method_3_code 57 = .ok (.new 91, 3) := by decide +kernel
theorem d_D_leaf_60 : decode prog_1_method_3_code 60 = .ok (.dup, 1) := by decide +kernel
theorem d_D_leaf_61 : decode prog_1_method_3_code 61 = .ok (.ldc 93, 2) := by decide +kernel
theorem d_D_leaf_63 : decode prog_1_method_3_code 63 = .ok (.invokespecial 95, 3) := by decide +kernel
theorem d_D_leaf_66 : decode prog_1_method_3_code 66 = .ok (.athrow, 1) := by decide +kernel
theorem d_D_leaf_67 : decode prog_1_method_3_code 67 = .ok (.aload_n 0, 1) := by decide +kernel
theorem d_D_leaf_68 : decode prog_1_method_3_code 68 = .ok (.getfield 12, 3) := by decide +kernel
theorem d_D_leaf_71 : decode prog_1_method_3_code 71 = .ok (.iload_n 1, 1) := by decide +kernel
theorem d_D_leaf_72 : decode prog_1_method_3_code 72 = .ok (.iload_n 2, 1) := by decide +kernel
theorem d_D_leaf_73 : decode prog_1_method_3_code 73 = .ok (.iload_n 3, 1) := by decide +kernel
theorem d_D_leaf_74 : decode prog_1_method_3_code 74 = .ok (.iload 4, 2) := by decide +kernel
theorem d_D_leaf_76 : decode prog_1_method_3_code 76 = .ok (.iload 5, 2) := by decide +kernel
theorem d_D_leaf_78 : decode prog_1_method_3_code 78 = .ok (.invokevirtual 96, 3) := by decide +kernel
theorem d_D_leaf_81 : decode prog_1_method_3_code 81 = .ok (.ireturn, 1) := by decide +kernel
def Y_D_leaf : sdY := ("SettingsDesk", prog_1_method_3_code, 6, (some .int), .code y_D_leaf prog_1_method_3_code 6 (some .int) :: sdB0, { frames := 7, cells := 3, slots := 18, locals := 103 }, 3, 18)
theorem cw_D_leaf_D_requireOpenSchema_64 : sd_cwV Y_D_leaf Y_D_requireOpenSchema y_D_requireOpenSchema 64 0 "SettingsDesk" := ⟨sd_goodV q284 q285 q286 q264 q279, ⟨_, rfl⟩, ⟨rfl, rfl, rfl, rfl⟩, ⟨rfl, by decide, by decide, by decide +kernel⟩, ⟨by decide, by decide⟩⟩
theorem cw_D_leaf_D_requireList_77 : sd_cwV Y_D_leaf Y_D_requireList y_D_requireList 77 1 "SettingsDesk" := ⟨sd_goodV q297 q298 q299 q264 q287, ⟨_, rfl⟩, ⟨rfl, rfl, rfl, rfl⟩, ⟨rfl, by decide, by decide, by decide +kernel⟩, ⟨by decide, by decide⟩⟩
theorem cw_D_leaf_C_allowsLeaf_87 : sd_cwV Y_D_leaf Y_C_allowsLeaf y_C_allowsLeaf 87 3 "SettingsDesk$Schema" := ⟨sd_goodV q300 q302 q303 q68 q301, ⟨_, rfl⟩, ⟨rfl, rfl, rfl, rfl⟩, ⟨rfl, by decide, by decide, by decide +kernel⟩, ⟨by decide, by decide⟩⟩
theorem cw_D_leaf_C_addLeaf_96 : sd_cwV Y_D_leaf Y_C_addLeaf y_C_addLeaf 96 5 "SettingsDesk$Schema" := ⟨sd_goodV q304 q306 q307 q68 q305, ⟨_, rfl⟩, ⟨rfl, rfl, rfl, rfl⟩, ⟨rfl, by decide, by decide, by decide +kernel⟩, ⟨by decide, by decide⟩⟩
section
variable {l : Launch} {D : va_G} {dA : Nat → ClassId} {b n : Nat} {ad : Nat → Nat} {L : Nat → sdL} {sc : Option (Nat × Nat × (Nat → Int32))}
def k_D_leaf_57 (Q : Int32 → sdM → Prop) (X : String → sdM → Prop) (M : sdM) : Prop := X "java/lang/IllegalArgumentException" M
set_option maxHeartbeats 1000000 in
theorem t_D_leaf_57 (hA : sd_ad b n ad) (hT : l.stackTraces = false) (hD : isD n L dA) {Q : Int32 → sdM → Prop} {X : String → sdM → Prop} (M : sdM) (hw : k_D_leaf_57 Q X M ) : sdW l (sdE0 sc) Y_D_leaf D (sd_tys dA) b n ad L ad (sd_H D (sdE0 sc).1 n ad L) (sd_qi Q) X 57 [] [] M 1 6 := by
  unfold k_D_leaf_57 at hw
  exact x_throwS (names := sdExN) (is := 93) (ic := 95) (rc := 0) (rs := 0) hT fit_IAE fit_N (sd_goodB q293) (List.mem_cons_of_mem _ q294) (List.mem_cons_of_mem _ q295) (List.mem_cons_of_mem _ q296) (List.mem_of_getElem? (i := 4) rfl) oa_IAE d_D_leaf_57 d_D_leaf_60 (Or.inl ⟨d_D_leaf_61, rfl⟩) d_D_leaf_63 d_D_leaf_66 (by decide) (Nat.le_of_ble_eq_true rfl) rfl rfl (fun _ _ h => h) hw
def w_D_leaf (M : sdM) (a1 : Int32) (a2 : Int32) (a3 : Int32) (a4 : Int32) (a5 : Int32) (Q : Int32 → sdM → Prop) (X : String → sdM → Prop) : Prop := w_D_requireOpenSchema M (fun M8 => w_D_requireList M8 a1 (fun M9 => vp_in a1 4 ∧ ((M9 2 a1.toNatClampNeg) < (4 : Int32) → w_C_allowsLeaf M9 a2 a3 a4 (fun r12 M11 => (r12 = 0 → k_D_leaf_57 Q X M11) ∧ (¬ r12 = 0 → (a5 < 0 → k_D_leaf_57 Q X M11) ∧ (¬ a5 < 0 → (a5 ≤ (3 : Int32) → w_C_addLeaf M11 a1 a2 a3 a4 a5 (fun r14 M13 => Q r14 M13)) ∧ (¬ a5 ≤ (3 : Int32) → k_D_leaf_57 Q X M11))))) ∧ (¬ (M9 2 a1.toNatClampNeg) < (4 : Int32) → X "java/lang/IllegalStateException" M9)) X) X
set_option maxHeartbeats 1000000 in
theorem c_D_leaf {a1 : Int32} {a2 : Int32} {a3 : Int32} {a4 : Int32} {a5 : Int32} (hA : sd_ad b n ad) (hT : l.stackTraces = false) (hD : isD n L dA) {Q : Int32 → sdM → Prop} {X : String → sdM → Prop} {M : sdM} (hw : w_D_leaf M a1 a2 a3 a4 a5 Q X) : sd_Cn l (sdE0 sc) y_D_leaf Y_D_leaf.2.2.2.2.1 Y_D_leaf.2.2.2.2.2.1 3 18 D (sd_tys dA) b n ad L M [.ref 0, .int a1, .int a2, .int a3, .int a4, .int a5] (sd_qi Q) X := by
  refine sd_enter (Y := Y_D_leaf) rfl rfl rfl (Nat.le_of_ble_eq_true rfl) ?_
  show sdW l (sdE0 sc) Y_D_leaf D (sd_tys dA) b n ad L ad (sd_H D (sdE0 sc).1 n ad L) (sd_qi Q) X 0 [(0, .ref 0), (1, .int a1), (2, .int a2), (3, .int a3), (4, .int a4), (5, .int a5)] [] M 3 18
  unfold w_D_leaf at hw
  refine x_aload_n 0 0 d_D_leaf_0 rfl rfl ?_
  refine x_callVv (As := []) (t := 0) (rest := []) (rc := 2) (rs := 12) (c_D_requireOpenSchema hA hT hD hw) cw_D_leaf_D_requireOpenSchema_64 hD.1 hD.2.1 rfl d_D_leaf_1 rfl rfl (Nat.le_of_ble_eq_true rfl) (fun _ _ h => h) (fun _ _ h => h) (fun M8 hw => ?_)
  refine x_aload_n 0 0 d_D_leaf_4 rfl rfl ?_
  refine x_iload_n 1 1 d_D_leaf_5 rfl rfl ?_
  refine x_callVv (As := [.int a1]) (t := 0) (rest := []) (rc := 1) (rs := 6) (c_D_requireList hA hT hD hw) cw_D_leaf_D_requireList_77 hD.1 hD.2.1 rfl d_D_leaf_6 rfl rfl (Nat.le_of_ble_eq_true rfl) (fun _ _ h => h) (fun _ _ h => h) (fun M9 hw => ?_)
  refine x_aload_n 0 0 d_D_leaf_9 rfl rfl ?_
  refine x_getr 0 1 d_D_leaf_10 hD.1 hD.2.1 rfl rfl (by decide) lay_D (List.mem_cons_of_mem _ q271) rfl ?_
  refine x_getr 2 2 d_D_leaf_13 hD.schema.1 hD.schema.2.1 rfl rfl (by decide) lay_C (List.mem_cons_of_mem _ q292) rfl ?_
  refine x_iload_n 1 1 d_D_leaf_16 rfl rfl ?_
  obtain ⟨hi10, hw⟩ := hw
  refine x_iald d_D_leaf_17 hD.schema.leaves.1 hD.schema.leaves.2 rfl hi10 ?_
  refine x_iconst (v := 4) d_D_leaf_18 (by decide) ?_
  refine x_icmp_lt 32 d_D_leaf_19 rfl (fun hc => ?_) (fun hc => ?_)
  · have hw := hw.1 hc
    refine x_aload_n 0 0 d_D_leaf_32 rfl rfl ?_
    refine x_getr 0 1 d_D_leaf_33 hD.1 hD.2.1 rfl rfl (by decide) lay_D (List.mem_cons_of_mem _ q271) rfl ?_
    refine x_iload_n 2 2 d_D_leaf_36 rfl rfl ?_
    refine x_iload_n 3 3 d_D_leaf_37 rfl rfl ?_
    refine x_iload 4 4 d_D_leaf_38 rfl ?_
    refine x_callVi (As := [.int a2, .int a3, .int a4]) (t := 1) (rest := []) (rc := 1) (rs := 6) (c_C_allowsLeaf hA hT hD.schema hw) cw_D_leaf_C_allowsLeaf_87 hD.schema.1 hD.schema.2.1 rfl d_D_leaf_40 rfl rfl (Nat.le_of_ble_eq_true rfl) (fun _ _ h => h.elim) (fun _ _ h => h) (fun r12 M11 hw => ?_)
    refine x_if_eq 57 d_D_leaf_43 rfl (fun hc => ?_) (fun hc => ?_)
    · have hw := hw.1 hc
      refine x_sub [] [] rfl ?_
      exact t_D_leaf_57 hA hT hD M11 hw
    · have hw := hw.2 hc
      refine x_iload 5 5 d_D_leaf_46 rfl ?_
      refine x_if_lt 57 d_D_leaf_48 rfl (fun hc => ?_) (fun hc => ?_)
      · have hw := hw.1 hc
        refine x_sub [] [] rfl ?_
        exact t_D_leaf_57 hA hT hD M11 hw
      · have hw := hw.2 hc
        refine x_iload 5 5 d_D_leaf_51 rfl ?_
        refine x_iconst (v := 3) d_D_leaf_53 (by decide) ?_
        refine x_icmp_le 67 d_D_leaf_54 rfl (fun hc => ?_) (fun hc => ?_)
        · have hw := hw.1 hc
          refine x_aload_n 0 0 d_D_leaf_67 rfl rfl ?_
          refine x_getr 0 1 d_D_leaf_68 hD.1 hD.2.1 rfl rfl (by decide) lay_D (List.mem_cons_of_mem _ q271) rfl ?_
          refine x_iload_n 1 1 d_D_leaf_71 rfl rfl ?_
          refine x_iload_n 2 2 d_D_leaf_72 rfl rfl ?_
          refine x_iload_n 3 3 d_D_leaf_73 rfl rfl ?_
          refine x_iload 4 4 d_D_leaf_74 rfl ?_
          refine x_iload 5 5 d_D_leaf_76 rfl ?_
          refine x_callVi (As := [.int a1, .int a2, .int a3, .int a4, .int a5]) (t := 1) (rest := []) (rc := 1) (rs := 6) (c_C_addLeaf hA hT hD.schema hw) cw_D_leaf_C_addLeaf_96 hD.schema.1 hD.schema.2.1 rfl d_D_leaf_78 rfl rfl (Nat.le_of_ble_eq_true rfl) (fun _ _ h => h.elim) (fun _ _ h => h) (fun r14 M13 hw => ?_)
          exact x_iret d_D_leaf_81 rfl (fun _ h => h) ⟨_, rfl, hw⟩
        · have hw := hw.2 hc
          refine x_sub [] [] rfl ?_
          exact t_D_leaf_57 hA hT hD M11 hw
  · have hw := hw.2 hc
    exact x_throwS (names := sdExN) (is := 85) (ic := 74) (rc := 0) (rs := 0) hT fit_ISE fit_N (sd_goodB q293) (List.mem_cons_of_mem _ q280) (List.mem_cons_of_mem _ q281) (List.mem_cons_of_mem _ q282) (List.mem_of_getElem? (i := 3) rfl) oa_ISE d_D_leaf_22 d_D_leaf_25 (Or.inl ⟨d_D_leaf_26, rfl⟩) d_D_leaf_28 d_D_leaf_31 (by decide) (Nat.le_of_ble_eq_true rfl) rfl rfl (fun _ _ h => h) hw
end
theorem q308 : (.code ⟨"SettingsDesk", "requireLeaf", "(II)V"⟩ prog_1_method_25_code 3 none : Cond) ∈ sdB0 := sd_tb2 213 rfl rfl
theorem q309 : (.methodLink "SettingsDesk" 301 ⟨"SettingsDesk$Schema", "hasLeaf", "(II)Z"⟩ : Cond) ∈ sdB0 := sd_tb2 214 rfl rfl
theorem q310 : (.code ⟨"SettingsDesk$Schema", "hasLeaf", "(II)Z"⟩ prog_7_method_3_code 3 (some .boolean) : Cond) ∈ sdB0 := sd_tb2 217 rfl rfl
theorem q311 : (.instanceMethod ⟨"SettingsDesk$Schema", "hasLeaf", "(II)Z"⟩ : Cond) ∈ sdB0 := sd_tb2 215 rfl rfl
theorem q312 : (.selects "SettingsDesk$Schema" ⟨"SettingsDesk$Schema", "hasLeaf", "(II)Z"⟩ ⟨"SettingsDesk$Schema", "hasLeaf", "(II)Z"⟩ : Cond) ∈ sdB0 := sd_tb2 216 rfl rfl
abbrev y_D_requireLeaf : MethodName := ⟨"SettingsDesk", "requireLeaf", "(II)V"⟩
theorem d_D_requireLeaf_0 : decode prog_1_method_25_code 0 = .ok (.aload_n 0, 1) := by decide +kernel
theorem d_D_requireLeaf_1 : decode prog_1_method_25_code 1 = .ok (.getfield 12, 3) := by decide +kernel
theorem d_D_requireLeaf_4 : decode prog_1_method_25_code 4 = .ok (.iload_n 1, 1) := by decide +kernel
theorem d_D_requireLeaf_5 : decode prog_1_method_25_code 5 = .ok (.iload_n 2, 1) := by decide +kernel
theorem d_D_requireLeaf_6 : decode prog_1_method_25_code 6 = .ok (.invokevirtual 301, 3) := by decide +kernel
theorem d_D_requireLeaf_9 : decode prog_1_method_25_code 9 = .ok (.ifCond .ne (14), 3) := by decide +kernel
theorem d_D_requireLeaf_12 : decode prog_1_method_25_code 12 = .ok (.new 206, 3) := by decide +kernel
theorem d_D_requireLeaf_15 : decode prog_1_method_25_code 15 = .ok (.dup, 1) := by decide +kernel
theorem d_D_requireLeaf_16 : decode prog_1_method_25_code 16 = .ok (.ldc_w 304, 3) := by decide +kernel
theorem d_D_requireLeaf_19 : decode prog_1_method_25_code 19 = .ok (.invokespecial 210, 3) := by decide +kernel
theorem d_D_requireLeaf_22 : decode prog_1_method_25_code 22 = .ok (.athrow, 1) := by decide +kernel
theorem d_D_requireLeaf_23 : decode prog_1_method_25_code 23 = .ok (.return_, 1) := by decide +kernel
def Y_D_requireLeaf : sdY := ("SettingsDesk", prog_1_method_25_code, 3, none, .code y_D_requireLeaf prog_1_method_25_code 3 none :: sdB0, { frames := 6, cells := 1, slots := 6, locals := 82 }, 1, 6)
theorem cw_D_requireLeaf_C_hasLeaf_301 : sd_cwV Y_D_requireLeaf Y_C_hasLeaf y_C_hasLeaf 301 2 "SettingsDesk$Schema" := ⟨sd_goodV q309 q311 q312 q68 q310, ⟨_, rfl⟩, ⟨rfl, rfl, rfl, rfl⟩, ⟨rfl, by decide, by decide, by decide +kernel⟩, ⟨by decide, by decide⟩⟩
section
variable {l : Launch} {D : va_G} {dA : Nat → ClassId} {b n : Nat} {ad : Nat → Nat} {L : Nat → sdL} {sc : Option (Nat × Nat × (Nat → Int32))}
def w_D_requireLeaf (M : sdM) (a1 : Int32) (a2 : Int32) (Q : sdM → Prop) (X : String → sdM → Prop) : Prop := w_C_hasLeaf M a1 a2 (fun r4 M3 => (¬ r4 = 0 → Q M3) ∧ (r4 = 0 → X "java/lang/IndexOutOfBoundsException" M3))
set_option maxHeartbeats 1000000 in
theorem c_D_requireLeaf {a1 : Int32} {a2 : Int32} (hA : sd_ad b n ad) (hT : l.stackTraces = false) (hD : isD n L dA) {Q : sdM → Prop} {X : String → sdM → Prop} {M : sdM} (hw : w_D_requireLeaf M a1 a2 Q X) : sd_Cn l (sdE0 sc) y_D_requireLeaf Y_D_requireLeaf.2.2.2.2.1 Y_D_requireLeaf.2.2.2.2.2.1 1 6 D (sd_tys dA) b n ad L M [.ref 0, .int a1, .int a2] (sd_qv Q) X := by
  refine sd_enter (Y := Y_D_requireLeaf) rfl rfl rfl (Nat.le_of_ble_eq_true rfl) ?_
  show sdW l (sdE0 sc) Y_D_requireLeaf D (sd_tys dA) b n ad L ad (sd_H D (sdE0 sc).1 n ad L) (sd_qv Q) X 0 [(0, .ref 0), (1, .int a1), (2, .int a2)] [] M 1 6
  unfold w_D_requireLeaf at hw
  refine x_aload_n 0 0 d_D_requireLeaf_0 rfl rfl ?_
  refine x_getr 0 1 d_D_requireLeaf_1 hD.1 hD.2.1 rfl rfl (by decide) lay_D (List.mem_cons_of_mem _ q271) rfl ?_
  refine x_iload_n 1 1 d_D_requireLeaf_4 rfl rfl ?_
  refine x_iload_n 2 2 d_D_requireLeaf_5 rfl rfl ?_
  refine x_callVi (As := [.int a1, .int a2]) (t := 1) (rest := []) (rc := 1) (rs := 6) (c_C_hasLeaf hA hT hD.schema hw) cw_D_requireLeaf_C_hasLeaf_301 hD.schema.1 hD.schema.2.1 rfl d_D_requireLeaf_6 rfl rfl (Nat.le_of_ble_eq_true rfl) (fun _ _ h => h.elim) (fun _ _ h => h) (fun r4 M3 hw => ?_)
  refine x_if_ne 23 d_D_requireLeaf_9 rfl (fun hc => ?_) (fun hc => ?_)
  · have hw := hw.1 hc
    exact x_vret d_D_requireLeaf_23 rfl (fun _ h => h) ⟨rfl, hw⟩
  · have hw := hw.2 hc
    exact x_throwS (names := sdExN) (is := 304) (ic := 210) (rc := 0) (rs := 0) hT fit_IOB fit_N (sd_goodB q308) (List.mem_cons_of_mem _ q288) (List.mem_cons_of_mem _ q289) (List.mem_cons_of_mem _ q290) (List.mem_of_getElem? (i := 5) rfl) oa_IOB d_D_requireLeaf_12 d_D_requireLeaf_15 (Or.inr ⟨d_D_requireLeaf_16, rfl⟩) d_D_requireLeaf_19 d_D_requireLeaf_22 (by decide) (Nat.le_of_ble_eq_true rfl) rfl rfl (fun _ _ h => h) hw
end
theorem q313 : (.fieldLink "SettingsDesk" 108 "SettingsDesk$Leaf" "isReference" "Z" : Cond) ∈ sdB0 := sd_tb1 46 rfl rfl
theorem q314 : (.fieldLink "SettingsDesk" 119 "SettingsDesk$Leaf" "hasStandard" "Z" : Cond) ∈ sdB0 := sd_tb1 58 rfl rfl
theorem q315 : (.fieldLink "SettingsDesk" 122 "SettingsDesk$Leaf" "standardValue" "I" : Cond) ∈ sdB0 := sd_tb1 60 rfl rfl
theorem q316 : (.code ⟨"SettingsDesk", "standard", "(III)V"⟩ prog_1_method_4_code 5 none : Cond) ∈ sdB0 := sd_tb2 209 rfl rfl
theorem q317 : (.methodLink "SettingsDesk" 100 ⟨"SettingsDesk", "requireLeaf", "(II)V"⟩ : Cond) ∈ sdB0 := sd_tb2 210 rfl rfl
theorem q318 : (.instanceMethod ⟨"SettingsDesk", "requireLeaf", "(II)V"⟩ : Cond) ∈ sdB0 := sd_tb2 212 rfl rfl
theorem q319 : (.selects "SettingsDesk" ⟨"SettingsDesk", "requireLeaf", "(II)V"⟩ ⟨"SettingsDesk", "requireLeaf", "(II)V"⟩ : Cond) ∈ sdB0 := sd_tbp (q := (⟨"SettingsDesk", "requireLeaf", "(II)V"⟩, 12)) (List.mem_of_getElem? (i := 5) rfl)
theorem q320 : (.methodLink "SettingsDesk" 104 ⟨"SettingsDesk$Schema", "leafAt", "(II)LSettingsDesk$Leaf;"⟩ : Cond) ∈ sdB0 := sd_tb2 219 rfl rfl
theorem q321 : (.methodLink "SettingsDesk" 113 ⟨"SettingsDesk$Leaf", "takes", "(I)Z"⟩ : Cond) ∈ sdB0 := sd_tb2 220 rfl rfl
theorem q322 : (.code ⟨"SettingsDesk$Leaf", "takes", "(I)Z"⟩ prog_4_method_2_code 2 (some .boolean) : Cond) ∈ sdB0 := sd_tb2 223 rfl rfl
theorem q323 : (.instanceMethod ⟨"SettingsDesk$Leaf", "takes", "(I)Z"⟩ : Cond) ∈ sdB0 := sd_tb2 221 rfl rfl
theorem q324 : (.selects "SettingsDesk$Leaf" ⟨"SettingsDesk$Leaf", "takes", "(I)Z"⟩ ⟨"SettingsDesk$Leaf", "takes", "(I)Z"⟩ : Cond) ∈ sdB0 := sd_tb2 222 rfl rfl
theorem q325 : (.initialized "SettingsDesk$Leaf" : Cond) ∈ sdB0 := sd_tb1 3 rfl rfl
abbrev y_D_standard : MethodName := ⟨"SettingsDesk", "standard", "(III)V"⟩
theorem d_D_standard_0 : decode prog_1_method_4_code 0 = .ok (.aload_n 0, 1) := by decide +kernel
theorem d_D_standard_1 : decode prog_1_method_4_code 1 = .ok (.invokevirtual 64, 3) := by decide +kernel
theorem d_D_standard_4 : decode prog_1_method_4_code 4 = .ok (.aload_n 0, 1) := by decide +kernel
theorem d_D_standard_5 : decode prog_1_method_4_code 5 = .ok (.iload_n 1, 1) := by decide +kernel
theorem d_D_standard_6 : decode prog_1_method_4_code 6 = .ok (.iload_n 2, 1) := by decide +kernel
theorem d_D_standard_7 : decode prog_1_method_4_code 7 = .ok (.invokevirtual 100, 3) := by decide +kernel
theorem d_D_standard_10 : decode prog_1_method_4_code 10 = .ok (.aload_n 0, 1) := by decide +kernel
theorem d_D_standard_11 : decode prog_1_method_4_code 11 = .ok (.getfield 12, 3) := by decide +kernel
theorem d_D_standard_14 : decode prog_1_method_4_code 14 = .ok (.iload_n 1, 1) := by decide +kernel
theorem d_D_standard_15 : decode prog_1_method_4_code 15 = .ok (.iload_n 2, 1) := by decide +kernel
theorem d_D_standard_16 : decode prog_1_method_4_code 16 = .ok (.invokevirtual 104, 3) := by decide +kernel
theorem d_D_standard_19 : decode prog_1_method_4_code 19 = .ok (.astore 4, 2) := by decide +kernel
theorem d_D_standard_21 : decode prog_1_method_4_code 21 = .ok (.aload 4, 2) := by decide +kernel
theorem d_D_standard_23 : decode prog_1_method_4_code 23 = .ok (.getfield 108, 3) := by decide +kernel
theorem d_D_standard_26 : decode prog_1_method_4_code 26 = .ok (.ifCond .ne (12), 3) := by decide +kernel
theorem d_D_standard_29 : decode prog_1_method_4_code 29 = .ok (.aload 4, 2) := by decide +kernel
theorem d_D_standard_31 : decode prog_1_method_4_code 31 = .ok (.iload_n 3, 1) := by decide +kernel
theorem d_D_standard_32 : decode prog_1_method_4_code 32 = .ok (.invokevirtual 113, 3) := by decide +kernel
theorem d_D_standard_35 : decode prog_1_method_4_code 35 = .ok (.ifCond .ne (13), 3) := by decide +kernel
theorem d_D_standard_38 : decode prog_1_method_4_code 38 = .ok (.new 91, 3) := by decide +kernel
theorem d_D_standard_41 : decode prog_1_method_4_code 41 = .ok (.dup, 1) := by decide +kernel
theorem d_D_standard_42 : decode prog_1_method_4_code 42 = .ok (.ldc 117, 2) := by decide +kernel
theorem d_D_standard_44 : decode prog_1_method_4_code 44 = .ok (.invokespecial 95, 3) := by decide +kernel
theorem d_D_standard_47 : decode prog_1_method_4_code 47 = .ok (.athrow, 1) := by decide +kernel
theorem d_D_standard_48 : decode prog_1_method_4_code 48 = .ok (.aload 4, 2) := by decide +kernel
theorem d_D_standard_50 : decode prog_1_method_4_code 50 = .ok (.iconst 1, 1) := by decide +kernel
theorem d_D_standard_51 : decode prog_1_method_4_code 51 = .ok (.putfield 119, 3) := by decide +kernel
theorem d_D_standard_54 : decode prog_1_method_4_code 54 = .ok (.aload 4, 2) := by decide +kernel
theorem d_D_standard_56 : decode prog_1_method_4_code 56 = .ok (.iload_n 3, 1) := by decide +kernel
theorem d_D_standard_57 : decode prog_1_method_4_code 57 = .ok (.putfield 122, 3) := by decide +kernel
theorem d_D_standard_60 : decode prog_1_method_4_code 60 = .ok (.return_, 1) := by decide +kernel
def Y_D_standard : sdY := ("SettingsDesk", prog_1_method_4_code, 5, none, .code y_D_standard prog_1_method_4_code 5 none :: sdB0, { frames := 7, cells := 3, slots := 18, locals := 104 }, 3, 18)
theorem cw_D_standard_D_requireOpenSchema_64 : sd_cwV Y_D_standard Y_D_requireOpenSchema y_D_requireOpenSchema 64 0 "SettingsDesk" := ⟨sd_goodV q284 q285 q286 q264 q279, ⟨_, rfl⟩, ⟨rfl, rfl, rfl, rfl⟩, ⟨rfl, by decide, by decide, by decide +kernel⟩, ⟨by decide, by decide⟩⟩
theorem cw_D_standard_D_requireLeaf_100 : sd_cwV Y_D_standard Y_D_requireLeaf y_D_requireLeaf 100 2 "SettingsDesk" := ⟨sd_goodV q317 q318 q319 q264 q308, ⟨_, rfl⟩, ⟨rfl, rfl, rfl, rfl⟩, ⟨rfl, by decide, by decide, by decide +kernel⟩, ⟨by decide, by decide⟩⟩
theorem cw_D_standard_C_leafAt_104 : sd_cwV Y_D_standard Y_C_leafAt y_C_leafAt 104 2 "SettingsDesk$Schema" := ⟨sd_goodV q320 q78 q79 q68 q77, ⟨_, rfl⟩, ⟨rfl, rfl, rfl, rfl⟩, ⟨rfl, by decide, by decide, by decide +kernel⟩, ⟨by decide, by decide⟩⟩
theorem cw_D_standard_F_takes_113 : sd_cwV Y_D_standard Y_F_takes y_F_takes 113 1 "SettingsDesk$Leaf" := ⟨sd_goodV q321 q323 q324 q325 q322, ⟨_, rfl⟩, ⟨rfl, rfl, rfl, rfl⟩, ⟨rfl, by decide, by decide, by decide +kernel⟩, ⟨by decide, by decide⟩⟩
section
variable {l : Launch} {D : va_G} {dA : Nat → ClassId} {b n : Nat} {ad : Nat → Nat} {L : Nat → sdL} {sc : Option (Nat × Nat × (Nat → Int32))}
def k_D_standard_38 (Q : sdM → Prop) (X : String → sdM → Prop) (M : sdM) : Prop := X "java/lang/IllegalArgumentException" M
set_option maxHeartbeats 1000000 in
theorem t_D_standard_38 (hA : sd_ad b n ad) (hT : l.stackTraces = false) (hD : isD n L dA) {Q : sdM → Prop} {X : String → sdM → Prop} (M : sdM) (hw : k_D_standard_38 Q X M ) : sdW l (sdE0 sc) Y_D_standard D (sd_tys dA) b n ad L ad (sd_H D (sdE0 sc).1 n ad L) (sd_qv Q) X 38 [] [] M 1 6 := by
  unfold k_D_standard_38 at hw
  exact x_throwS (names := sdExN) (is := 117) (ic := 95) (rc := 0) (rs := 0) hT fit_IAE fit_N (sd_goodB q316) (List.mem_cons_of_mem _ q294) (List.mem_cons_of_mem _ q295) (List.mem_cons_of_mem _ q296) (List.mem_of_getElem? (i := 6) rfl) oa_IAE d_D_standard_38 d_D_standard_41 (Or.inl ⟨d_D_standard_42, rfl⟩) d_D_standard_44 d_D_standard_47 (by decide) (Nat.le_of_ble_eq_true rfl) rfl rfl (fun _ _ h => h) hw
def w_D_standard (M : sdM) (a1 : Int32) (a2 : Int32) (a3 : Int32) (Q : sdM → Prop) (X : String → sdM → Prop) : Prop := w_D_requireOpenSchema M (fun M13 => w_D_requireLeaf M13 a1 a2 (fun M14 => w_C_leafAt M14 a1 a2 (fun t16 M15 => (¬ (M15 t16 0) = 0 → k_D_standard_38 Q X M15) ∧ ((M15 t16 0) = 0 → w_F_takes t16 M15 a3 (fun r19 M18 => (¬ r19 = 0 → sdB (1 : Int32) ∧ ∀ M20 : sdM, M20 = sd_s M18 t16 5 (1 : Int32) → ∀ M23 : sdM, M23 = sd_s M20 t16 6 a3 → Q M23) ∧ (r19 = 0 → k_D_standard_38 Q X M18))))) X) X
set_option maxHeartbeats 1000000 in
theorem c_D_standard {a1 : Int32} {a2 : Int32} {a3 : Int32} (hA : sd_ad b n ad) (hT : l.stackTraces = false) (hD : isD n L dA) {Q : sdM → Prop} {X : String → sdM → Prop} {M : sdM} (hw : w_D_standard M a1 a2 a3 Q X) : sd_Cn l (sdE0 sc) y_D_standard Y_D_standard.2.2.2.2.1 Y_D_standard.2.2.2.2.2.1 3 18 D (sd_tys dA) b n ad L M [.ref 0, .int a1, .int a2, .int a3] (sd_qv Q) X := by
  refine sd_enter (Y := Y_D_standard) rfl rfl rfl (Nat.le_of_ble_eq_true rfl) ?_
  show sdW l (sdE0 sc) Y_D_standard D (sd_tys dA) b n ad L ad (sd_H D (sdE0 sc).1 n ad L) (sd_qv Q) X 0 [(0, .ref 0), (1, .int a1), (2, .int a2), (3, .int a3)] [] M 3 18
  unfold w_D_standard at hw
  refine x_aload_n 0 0 d_D_standard_0 rfl rfl ?_
  refine x_callVv (As := []) (t := 0) (rest := []) (rc := 2) (rs := 12) (c_D_requireOpenSchema hA hT hD hw) cw_D_standard_D_requireOpenSchema_64 hD.1 hD.2.1 rfl d_D_standard_1 rfl rfl (Nat.le_of_ble_eq_true rfl) (fun _ _ h => h) (fun _ _ h => h) (fun M13 hw => ?_)
  refine x_aload_n 0 0 d_D_standard_4 rfl rfl ?_
  refine x_iload_n 1 1 d_D_standard_5 rfl rfl ?_
  refine x_iload_n 2 2 d_D_standard_6 rfl rfl ?_
  refine x_callVv (As := [.int a1, .int a2]) (t := 0) (rest := []) (rc := 1) (rs := 6) (c_D_requireLeaf hA hT hD hw) cw_D_standard_D_requireLeaf_100 hD.1 hD.2.1 rfl d_D_standard_7 rfl rfl (Nat.le_of_ble_eq_true rfl) (fun _ _ h => h) (fun _ _ h => h) (fun M14 hw => ?_)
  refine x_aload_n 0 0 d_D_standard_10 rfl rfl ?_
  refine x_getr 0 1 d_D_standard_11 hD.1 hD.2.1 rfl rfl (by decide) lay_D (List.mem_cons_of_mem _ q271) rfl ?_
  refine x_iload_n 1 1 d_D_standard_14 rfl rfl ?_
  refine x_iload_n 2 2 d_D_standard_15 rfl rfl ?_
  refine x_callVr (As := [.int a1, .int a2]) (t := 1) (rest := []) (rc := 1) (rs := 6) (c_C_leafAt hA hT hD.schema hw) cw_D_standard_C_leafAt_104 hD.schema.1 hD.schema.2.1 rfl d_D_standard_16 rfl rfl (Nat.le_of_ble_eq_true rfl) (fun _ _ h => h.elim) (fun _ _ h => h) (fun t16 M15 ht17 hw => ?_)
  refine x_astore 4 [(4, .ref t16), (0, .ref 0), (1, .int a1), (2, .int a2), (3, .int a3)] d_D_standard_19 (by decide) rfl ?_
  refine x_aload 4 0 d_D_standard_21 rfl ?_
  refine x_geti 0 d_D_standard_23 ht17.1 ht17.2 rfl rfl (by decide) lay_F (List.mem_cons_of_mem _ q313) rfl ?_
  refine x_if_ne 38 d_D_standard_26 rfl (fun hc => ?_) (fun hc => ?_)
  · have hw := hw.1 hc
    refine x_sub [] [] rfl ?_
    exact t_D_standard_38 hA hT hD M15 hw
  · have hw := hw.2 hc
    refine x_aload 4 0 d_D_standard_29 rfl ?_
    refine x_iload_n 3 4 d_D_standard_31 rfl rfl ?_
    refine x_callVi (As := [.int a3]) (t := t16) (rest := []) (rc := 1) (rs := 6) (c_F_takes hA hT ht17 hw) cw_D_standard_F_takes_113 ht17.1 ht17.2 rfl d_D_standard_32 rfl rfl (Nat.le_of_ble_eq_true rfl) (fun _ _ h => h.elim) (fun _ _ h => h) (fun r19 M18 hw => ?_)
    refine x_if_ne 48 d_D_standard_35 rfl (fun hc => ?_) (fun hc => ?_)
    · have hw := hw.1 hc
      refine x_aload 4 0 d_D_standard_48 rfl ?_
      refine x_iconst (v := 1) d_D_standard_50 (by decide) ?_
      obtain ⟨hb22, hw⟩ := hw
      refine x_puti 5 (ty := .boolean) hA d_D_standard_51 ht17.1 ht17.2 rfl rfl (by decide) lay_F (List.mem_cons_of_mem _ q314) rfl ty_F ty_F_ok nm_F rfl (by decide +kernel) (sdB_n hb22) (sdB_f hb22) (fun M20 e21 => ?_)
      have hw := hw M20 e21
      clear e21
      refine x_aload 4 0 d_D_standard_54 rfl ?_
      refine x_iload_n 3 4 d_D_standard_56 rfl rfl ?_
      refine x_puti 6 (ty := .int) hA d_D_standard_57 ht17.1 ht17.2 rfl rfl (by decide) lay_F (List.mem_cons_of_mem _ q315) rfl ty_F ty_F_ok nm_F rfl (by decide +kernel) rfl rfl (fun M23 e24 => ?_)
      have hw := hw M23 e24
      clear e24
      exact x_vret d_D_standard_60 rfl (fun _ h => h) ⟨rfl, hw⟩
    · have hw := hw.2 hc
      refine x_sub [] [] rfl ?_
      exact t_D_standard_38 hA hT hD M18 hw
end
theorem q326 : (.fieldLink "SettingsDesk" 125 "SettingsDesk$Schema" "ruleCount" "I" : Cond) ∈ sdB0 := sd_tb1 114 rfl rfl
theorem q327 : (.code ⟨"SettingsDesk", "rule", "(IIIIZ)I"⟩ prog_1_method_5_code 6 (some .int) : Cond) ∈ sdB0 := sd_tb2 231 rfl rfl
theorem q328 : (.methodLink "SettingsDesk" 130 ⟨"SettingsDesk$Schema", "addRule", "(IIIIZ)I"⟩ : Cond) ∈ sdB0 := sd_tb2 233 rfl rfl
theorem q329 : (.code ⟨"SettingsDesk$Schema", "addRule", "(IIIIZ)I"⟩ prog_7_method_7_code 7 (some .int) : Cond) ∈ sdB0 := sd_tb2 236 rfl rfl
theorem q330 : (.instanceMethod ⟨"SettingsDesk$Schema", "addRule", "(IIIIZ)I"⟩ : Cond) ∈ sdB0 := sd_tb2 234 rfl rfl
theorem q331 : (.selects "SettingsDesk$Schema" ⟨"SettingsDesk$Schema", "addRule", "(IIIIZ)I"⟩ ⟨"SettingsDesk$Schema", "addRule", "(IIIIZ)I"⟩ : Cond) ∈ sdB0 := sd_tb2 235 rfl rfl
abbrev y_D_rule : MethodName := ⟨"SettingsDesk", "rule", "(IIIIZ)I"⟩
theorem d_D_rule_0 : decode prog_1_method_5_code 0 = .ok (.aload_n 0, 1) := by decide +kernel
theorem d_D_rule_1 : decode prog_1_method_5_code 1 = .ok (.invokevirtual 64, 3) := by decide +kernel
theorem d_D_rule_4 : decode prog_1_method_5_code 4 = .ok (.aload_n 0, 1) := by decide +kernel
theorem d_D_rule_5 : decode prog_1_method_5_code 5 = .ok (.getfield 12, 3) := by decide +kernel
theorem d_D_rule_8 : decode prog_1_method_5_code 8 = .ok (.getfield 125, 3) := by decide +kernel
theorem d_D_rule_11 : decode prog_1_method_5_code 11 = .ok (.iconst 4, 1) := by decide +kernel
theorem d_D_rule_12 : decode prog_1_method_5_code 12 = .ok (.if_icmp .lt (13), 3) := by decide +kernel
theorem d_D_rule_15 : decode prog_1_method_5_code 15 = .ok (.new 70, 3) := by decide +kernel
theorem d_D_rule_18 : decode prog_1_method_5_code 18 = .ok (.dup, 1) := by decide +kernel
theorem d_D_rule_19 : decode prog_1_method_5_code 19 = .ok (.ldc 128, 2) := by decide +kernel
theorem d_D_rule_21 : decode prog_1_method_5_code 21 = .ok (.invokespecial 74, 3) := by decide +kernel
theorem d_D_rule_24 : decode prog_1_method_5_code 24 = .ok (.athrow, 1) := by decide +kernel
theorem d_D_rule_25 : decode prog_1_method_5_code 25 = .ok (.aload_n 0, 1) := by decide +kernel
theorem d_D_rule_26 : decode prog_1_method_5_code 26 = .ok (.iload_n 1, 1) := by decide +kernel
theorem d_D_rule_27 : decode prog_1_method_5_code 27 = .ok (.iload_n 2, 1) := by decide +kernel
theorem d_D_rule_28 : decode prog_1_method_5_code 28 = .ok (.invokevirtual 100, 3) := by decide +kernel
theorem d_D_rule_31 : decode prog_1_method_5_code 31 = .ok (.aload_n 0, 1) := by decide +kernel
theorem d_D_rule_32 : decode prog_1_method_5_code 32 = .ok (.iload_n 1, 1) := by decide +kernel
theorem d_D_rule_33 : decode prog_1_method_5_code 33 = .ok (.iload 4, 2) := by decide +kernel
theorem d_D_rule_35 : decode prog_1_method_5_code 35 = .ok (.invokevirtual 100, 3) := by decide +kernel
theorem d_D_rule_38 : decode prog_1_method_5_code 38 = .ok (.aload_n 0, 1) := by decide +kernel
theorem d_D_rule_39 : decode prog_1_method_5_code 39 = .ok (.getfield 12, 3) := by decide +kernel
theorem d_D_rule_42 : decode prog_1_method_5_code 42 = .ok (.iload_n 1, 1) := by decide +kernel
theorem d_D_rule_43 : decode prog_1_method_5_code 43 = .ok (.iload_n 2, 1) := by decide +kernel
theorem d_D_rule_44 : decode prog_1_method_5_code 44 = .ok (.iload_n 3, 1) := by decide +kernel
theorem d_D_rule_45 : decode prog_1_method_5_code 45 = .ok (.iload 4, 2) := by decide +kernel
theorem d_D_rule_47 : decode prog_1_method_5_code 47 = .ok (.iload 5, 2) := by decide +kernel
theorem d_D_rule_49 : decode prog_1_method_5_code 49 = .ok (.invokevirtual 130, 3) := by decide +kernel
theorem d_D_rule_52 : decode prog_1_method_5_code 52 = .ok (.ireturn, 1) := by decide +kernel
def Y_D_rule : sdY := ("SettingsDesk", prog_1_method_5_code, 6, (some .int), .code y_D_rule prog_1_method_5_code 6 (some .int) :: sdB0, { frames := 7, cells := 3, slots := 18, locals := 104 }, 3, 18)
theorem cw_D_rule_D_requireOpenSchema_64 : sd_cwV Y_D_rule Y_D_requireOpenSchema y_D_requireOpenSchema 64 0 "SettingsDesk" := ⟨sd_goodV q284 q285 q286 q264 q279, ⟨_, rfl⟩, ⟨rfl, rfl, rfl, rfl⟩, ⟨rfl, by decide, by decide, by decide +kernel⟩, ⟨by decide, by decide⟩⟩
theorem cw_D_rule_D_requireLeaf_100 : sd_cwV Y_D_rule Y_D_requireLeaf y_D_requireLeaf 100 2 "SettingsDesk" := ⟨sd_goodV q317 q318 q319 q264 q308, ⟨_, rfl⟩, ⟨rfl, rfl, rfl, rfl⟩, ⟨rfl, by decide, by decide, by decide +kernel⟩, ⟨by decide, by decide⟩⟩
theorem cw_D_rule_C_addRule_130 : sd_cwV Y_D_rule Y_C_addRule y_C_addRule 130 5 "SettingsDesk$Schema" := ⟨sd_goodV q328 q330 q331 q68 q329, ⟨_, rfl⟩, ⟨rfl, rfl, rfl, rfl⟩, ⟨rfl, by decide, by decide, by decide +kernel⟩, ⟨by decide, by decide⟩⟩
section
variable {l : Launch} {D : va_G} {dA : Nat → ClassId} {b n : Nat} {ad : Nat → Nat} {L : Nat → sdL} {sc : Option (Nat × Nat × (Nat → Int32))}
def w_D_rule (M : sdM) (a1 : Int32) (a2 : Int32) (a3 : Int32) (a4 : Int32) (a5 : Int32) (Q : Int32 → sdM → Prop) (X : String → sdM → Prop) : Prop := w_D_requireOpenSchema M (fun M6 => ((M6 1 4) < (4 : Int32) → w_D_requireLeaf M6 a1 a2 (fun M7 => w_D_requireLeaf M7 a1 a4 (fun M8 => w_C_addRule M8 a1 a2 a3 a4 a5 (fun r10 M9 => Q r10 M9)) X) X) ∧ (¬ (M6 1 4) < (4 : Int32) → X "java/lang/IllegalStateException" M6)) X
set_option maxHeartbeats 1000000 in
theorem c_D_rule {a1 : Int32} {a2 : Int32} {a3 : Int32} {a4 : Int32} {a5 : Int32} (hA : sd_ad b n ad) (hT : l.stackTraces = false) (hD : isD n L dA) {Q : Int32 → sdM → Prop} {X : String → sdM → Prop} {M : sdM} (hw : w_D_rule M a1 a2 a3 a4 a5 Q X) : sd_Cn l (sdE0 sc) y_D_rule Y_D_rule.2.2.2.2.1 Y_D_rule.2.2.2.2.2.1 3 18 D (sd_tys dA) b n ad L M [.ref 0, .int a1, .int a2, .int a3, .int a4, .int a5] (sd_qi Q) X := by
  refine sd_enter (Y := Y_D_rule) rfl rfl rfl (Nat.le_of_ble_eq_true rfl) ?_
  show sdW l (sdE0 sc) Y_D_rule D (sd_tys dA) b n ad L ad (sd_H D (sdE0 sc).1 n ad L) (sd_qi Q) X 0 [(0, .ref 0), (1, .int a1), (2, .int a2), (3, .int a3), (4, .int a4), (5, .int a5)] [] M 3 18
  unfold w_D_rule at hw
  refine x_aload_n 0 0 d_D_rule_0 rfl rfl ?_
  refine x_callVv (As := []) (t := 0) (rest := []) (rc := 2) (rs := 12) (c_D_requireOpenSchema hA hT hD hw) cw_D_rule_D_requireOpenSchema_64 hD.1 hD.2.1 rfl d_D_rule_1 rfl rfl (Nat.le_of_ble_eq_true rfl) (fun _ _ h => h) (fun _ _ h => h) (fun M6 hw => ?_)
  refine x_aload_n 0 0 d_D_rule_4 rfl rfl ?_
  refine x_getr 0 1 d_D_rule_5 hD.1 hD.2.1 rfl rfl (by decide) lay_D (List.mem_cons_of_mem _ q271) rfl ?_
  refine x_geti 4 d_D_rule_8 hD.schema.1 hD.schema.2.1 rfl rfl (by decide) lay_C (List.mem_cons_of_mem _ q326) rfl ?_
  refine x_iconst (v := 4) d_D_rule_11 (by decide) ?_
  refine x_icmp_lt 25 d_D_rule_12 rfl (fun hc => ?_) (fun hc => ?_)
  · have hw := hw.1 hc
    refine x_aload_n 0 0 d_D_rule_25 rfl rfl ?_
    refine x_iload_n 1 1 d_D_rule_26 rfl rfl ?_
    refine x_iload_n 2 2 d_D_rule_27 rfl rfl ?_
    refine x_callVv (As := [.int a1, .int a2]) (t := 0) (rest := []) (rc := 1) (rs := 6) (c_D_requireLeaf hA hT hD hw) cw_D_rule_D_requireLeaf_100 hD.1 hD.2.1 rfl d_D_rule_28 rfl rfl (Nat.le_of_ble_eq_true rfl) (fun _ _ h => h) (fun _ _ h => h) (fun M7 hw => ?_)
    refine x_aload_n 0 0 d_D_rule_31 rfl rfl ?_
    refine x_iload_n 1 1 d_D_rule_32 rfl rfl ?_
    refine x_iload 4 4 d_D_rule_33 rfl ?_
    refine x_callVv (As := [.int a1, .int a4]) (t := 0) (rest := []) (rc := 0) (rs := 0) (c_D_requireLeaf hA hT hD hw) cw_D_rule_D_requireLeaf_100 hD.1 hD.2.1 rfl d_D_rule_35 rfl rfl (Nat.le_of_ble_eq_true rfl) (fun _ _ h => h) (fun _ _ h => h) (fun M8 hw => ?_)
    refine x_aload_n 0 0 d_D_rule_38 rfl rfl ?_
    refine x_getr 0 1 d_D_rule_39 hD.1 hD.2.1 rfl rfl (by decide) lay_D (List.mem_cons_of_mem _ q271) rfl ?_
    refine x_iload_n 1 1 d_D_rule_42 rfl rfl ?_
    refine x_iload_n 2 2 d_D_rule_43 rfl rfl ?_
    refine x_iload_n 3 3 d_D_rule_44 rfl rfl ?_
    refine x_iload 4 4 d_D_rule_45 rfl ?_
    refine x_iload 5 5 d_D_rule_47 rfl ?_
    refine x_callVi (As := [.int a1, .int a2, .int a3, .int a4, .int a5]) (t := 1) (rest := []) (rc := 0) (rs := 0) (c_C_addRule hA hT hD.schema hw) cw_D_rule_C_addRule_130 hD.schema.1 hD.schema.2.1 rfl d_D_rule_49 rfl rfl (Nat.le_of_ble_eq_true rfl) (fun _ _ h => h.elim) (fun _ _ h => h) (fun r10 M9 hw => ?_)
    exact x_iret d_D_rule_52 rfl (fun _ h => h) ⟨_, rfl, hw⟩
  · have hw := hw.2 hc
    exact x_throwS (names := sdExN) (is := 128) (ic := 74) (rc := 1) (rs := 6) hT fit_ISE fit_N (sd_goodB q327) (List.mem_cons_of_mem _ q280) (List.mem_cons_of_mem _ q281) (List.mem_cons_of_mem _ q282) (List.mem_of_getElem? (i := 7) rfl) oa_ISE d_D_rule_15 d_D_rule_18 (Or.inl ⟨d_D_rule_19, rfl⟩) d_D_rule_21 d_D_rule_24 (by decide) (Nat.le_of_ble_eq_true rfl) rfl rfl (fun _ _ h => h) hw
end
theorem q332 : (.code ⟨"SettingsDesk", "requireReady", "()V"⟩ prog_1_method_23_code 1 none : Cond) ∈ sdB0 := sd_tb3 91 rfl rfl
abbrev y_D_requireReady : MethodName := ⟨"SettingsDesk", "requireReady", "()V"⟩
theorem d_D_requireReady_0 : decode prog_1_method_23_code 0 = .ok (.aload_n 0, 1) := by decide +kernel
theorem d_D_requireReady_1 : decode prog_1_method_23_code 1 = .ok (.getfield 56, 3) := by decide +kernel
theorem d_D_requireReady_4 : decode prog_1_method_23_code 4 = .ok (.ifCond .ne (13), 3) := by decide +kernel
theorem d_D_requireReady_7 : decode prog_1_method_23_code 7 = .ok (.aload_n 0, 1) := by decide +kernel
theorem d_D_requireReady_8 : decode prog_1_method_23_code 8 = .ok (.getfield 12, 3) := by decide +kernel
theorem d_D_requireReady_11 : decode prog_1_method_23_code 11 = .ok (.getfield 134, 3) := by decide +kernel
theorem d_D_requireReady_14 : decode prog_1_method_23_code 14 = .ok (.ifCond .ne (14), 3) := by decide +kernel
theorem d_D_requireReady_17 : decode prog_1_method_23_code 17 = .ok (.new 70, 3) := by decide +kernel
theorem d_D_requireReady_20 : decode prog_1_method_23_code 20 = .ok (.dup, 1) := by decide +kernel
theorem d_D_requireReady_21 : decode prog_1_method_23_code 21 = .ok (.ldc_w 294, 3) := by decide +kernel
theorem d_D_requireReady_24 : decode prog_1_method_23_code 24 = .ok (.invokespecial 74, 3) := by decide +kernel
theorem d_D_requireReady_27 : decode prog_1_method_23_code 27 = .ok (.athrow, 1) := by decide +kernel
theorem d_D_requireReady_28 : decode prog_1_method_23_code 28 = .ok (.return_, 1) := by decide +kernel
def Y_D_requireReady : sdY := ("SettingsDesk", prog_1_method_23_code, 1, none, .code y_D_requireReady prog_1_method_23_code 1 none :: sdB0, { frames := 6, cells := 1, slots := 6, locals := 82 }, 1, 6)
section
variable {l : Launch} {D : va_G} {dA : Nat → ClassId} {b n : Nat} {ad : Nat → Nat} {L : Nat → sdL} {sc : Option (Nat × Nat × (Nat → Int32))}
def k_D_requireReady_17 (Q : sdM → Prop) (X : String → sdM → Prop) (M : sdM) : Prop := X "java/lang/IllegalStateException" M
set_option maxHeartbeats 1000000 in
theorem t_D_requireReady_17 (hA : sd_ad b n ad) (hT : l.stackTraces = false) (hD : isD n L dA) {Q : sdM → Prop} {X : String → sdM → Prop} (M : sdM) (hw : k_D_requireReady_17 Q X M ) : sdW l (sdE0 sc) Y_D_requireReady D (sd_tys dA) b n ad L ad (sd_H D (sdE0 sc).1 n ad L) (sd_qv Q) X 17 [] [] M 1 6 := by
  unfold k_D_requireReady_17 at hw
  exact x_throwS (names := sdExN) (is := 294) (ic := 74) (rc := 0) (rs := 0) hT fit_ISE fit_N (sd_goodB q332) (List.mem_cons_of_mem _ q280) (List.mem_cons_of_mem _ q281) (List.mem_cons_of_mem _ q282) (List.mem_of_getElem? (i := 8) rfl) oa_ISE d_D_requireReady_17 d_D_requireReady_20 (Or.inr ⟨d_D_requireReady_21, rfl⟩) d_D_requireReady_24 d_D_requireReady_27 (by decide) (Nat.le_of_ble_eq_true rfl) rfl rfl (fun _ _ h => h) hw
def w_D_requireReady (M : sdM) (Q : sdM → Prop) (X : String → sdM → Prop) : Prop := (¬ (M 0 10) = 0 → k_D_requireReady_17 Q X M) ∧ ((M 0 10) = 0 → (¬ (M 1 0) = 0 → Q M) ∧ ((M 1 0) = 0 → k_D_requireReady_17 Q X M))
set_option maxHeartbeats 1000000 in
theorem c_D_requireReady (hA : sd_ad b n ad) (hT : l.stackTraces = false) (hD : isD n L dA) {Q : sdM → Prop} {X : String → sdM → Prop} {M : sdM} (hw : w_D_requireReady M Q X) : sd_Cn l (sdE0 sc) y_D_requireReady Y_D_requireReady.2.2.2.2.1 Y_D_requireReady.2.2.2.2.2.1 1 6 D (sd_tys dA) b n ad L M [.ref 0] (sd_qv Q) X := by
  refine sd_enter (Y := Y_D_requireReady) rfl rfl rfl (Nat.le_of_ble_eq_true rfl) ?_
  show sdW l (sdE0 sc) Y_D_requireReady D (sd_tys dA) b n ad L ad (sd_H D (sdE0 sc).1 n ad L) (sd_qv Q) X 0 [(0, .ref 0)] [] M 1 6
  unfold w_D_requireReady at hw
  refine x_aload_n 0 0 d_D_requireReady_0 rfl rfl ?_
  refine x_geti 10 d_D_requireReady_1 hD.1 hD.2.1 rfl rfl (by decide) lay_D (List.mem_cons_of_mem _ q254) rfl ?_
  refine x_if_ne 17 d_D_requireReady_4 rfl (fun hc => ?_) (fun hc => ?_)
  · have hw := hw.1 hc
    refine x_sub [] [] rfl ?_
    exact t_D_requireReady_17 hA hT hD M hw
  · have hw := hw.2 hc
    refine x_aload_n 0 0 d_D_requireReady_7 rfl rfl ?_
    refine x_getr 0 1 d_D_requireReady_8 hD.1 hD.2.1 rfl rfl (by decide) lay_D (List.mem_cons_of_mem _ q271) rfl ?_
    refine x_geti 0 d_D_requireReady_11 hD.schema.1 hD.schema.2.1 rfl rfl (by decide) lay_C (List.mem_cons_of_mem _ q278) rfl ?_
    refine x_if_ne 28 d_D_requireReady_14 rfl (fun hc => ?_) (fun hc => ?_)
    · have hw := hw.1 hc
      exact x_vret d_D_requireReady_28 rfl (fun _ h => h) ⟨rfl, hw⟩
    · have hw := hw.2 hc
      refine x_sub [] [] rfl ?_
      exact t_D_requireReady_17 hA hT hD M hw
end
theorem q333 : (.code ⟨"SettingsDesk", "requireSession", "(I)V"⟩ prog_1_method_26_code 2 none : Cond) ∈ sdB0 := sd_tb3 96 rfl rfl
abbrev y_D_requireSession : MethodName := ⟨"SettingsDesk", "requireSession", "(I)V"⟩
theorem d_D_requireSession_0 : decode prog_1_method_26_code 0 = .ok (.iload_n 1, 1) := by decide +kernel
theorem d_D_requireSession_1 : decode prog_1_method_26_code 1 = .ok (.ifCond .lt (8), 3) := by decide +kernel
theorem d_D_requireSession_4 : decode prog_1_method_26_code 4 = .ok (.iload_n 1, 1) := by decide +kernel
theorem d_D_requireSession_5 : decode prog_1_method_26_code 5 = .ok (.iconst 3, 1) := by decide +kernel
theorem d_D_requireSession_6 : decode prog_1_method_26_code 6 = .ok (.if_icmp .lt (14), 3) := by decide +kernel
theorem d_D_requireSession_9 : decode prog_1_method_26_code 9 = .ok (.new 206, 3) := by decide +kernel
theorem d_D_requireSession_12 : decode prog_1_method_26_code 12 = .ok (.dup, 1) := by decide +kernel
theorem d_D_requireSession_13 : decode prog_1_method_26_code 13 = .ok (.ldc_w 306, 3) := by decide +kernel
theorem d_D_requireSession_16 : decode prog_1_method_26_code 16 = .ok (.invokespecial 210, 3) := by decide +kernel
theorem d_D_requireSession_19 : decode prog_1_method_26_code 19 = .ok (.athrow, 1) := by decide +kernel
theorem d_D_requireSession_20 : decode prog_1_method_26_code 20 = .ok (.return_, 1) := by decide +kernel
def Y_D_requireSession : sdY := ("SettingsDesk", prog_1_method_26_code, 2, none, .code y_D_requireSession prog_1_method_26_code 2 none :: sdB0, { frames := 6, cells := 1, slots := 6, locals := 82 }, 1, 6)
section
variable {l : Launch} {D : va_G} {dA : Nat → ClassId} {b n : Nat} {ad : Nat → Nat} {L : Nat → sdL} {sc : Option (Nat × Nat × (Nat → Int32))}
def k_D_requireSession_9 (Q : sdM → Prop) (X : String → sdM → Prop) (M : sdM) : Prop := X "java/lang/IndexOutOfBoundsException" M
set_option maxHeartbeats 1000000 in
theorem t_D_requireSession_9 (hA : sd_ad b n ad) (hT : l.stackTraces = false) (hD : isD n L dA) {Q : sdM → Prop} {X : String → sdM → Prop} (M : sdM) (hw : k_D_requireSession_9 Q X M ) : sdW l (sdE0 sc) Y_D_requireSession D (sd_tys dA) b n ad L ad (sd_H D (sdE0 sc).1 n ad L) (sd_qv Q) X 9 [] [] M 1 6 := by
  unfold k_D_requireSession_9 at hw
  exact x_throwS (names := sdExN) (is := 306) (ic := 210) (rc := 0) (rs := 0) hT fit_IOB fit_N (sd_goodB q333) (List.mem_cons_of_mem _ q288) (List.mem_cons_of_mem _ q289) (List.mem_cons_of_mem _ q290) (List.mem_of_getElem? (i := 9) rfl) oa_IOB d_D_requireSession_9 d_D_requireSession_12 (Or.inr ⟨d_D_requireSession_13, rfl⟩) d_D_requireSession_16 d_D_requireSession_19 (by decide) (Nat.le_of_ble_eq_true rfl) rfl rfl (fun _ _ h => h) hw
def w_D_requireSession (M : sdM) (a1 : Int32) (Q : sdM → Prop) (X : String → sdM → Prop) : Prop := (a1 < 0 → k_D_requireSession_9 Q X M) ∧ (¬ a1 < 0 → (a1 < (3 : Int32) → Q M) ∧ (¬ a1 < (3 : Int32) → k_D_requireSession_9 Q X M))
set_option maxHeartbeats 1000000 in
theorem c_D_requireSession {a1 : Int32} (hA : sd_ad b n ad) (hT : l.stackTraces = false) (hD : isD n L dA) {Q : sdM → Prop} {X : String → sdM → Prop} {M : sdM} (hw : w_D_requireSession M a1 Q X) : sd_Cn l (sdE0 sc) y_D_requireSession Y_D_requireSession.2.2.2.2.1 Y_D_requireSession.2.2.2.2.2.1 1 6 D (sd_tys dA) b n ad L M [.ref 0, .int a1] (sd_qv Q) X := by
  refine sd_enter (Y := Y_D_requireSession) rfl rfl rfl (Nat.le_of_ble_eq_true rfl) ?_
  show sdW l (sdE0 sc) Y_D_requireSession D (sd_tys dA) b n ad L ad (sd_H D (sdE0 sc).1 n ad L) (sd_qv Q) X 0 [(0, .ref 0), (1, .int a1)] [] M 1 6
  unfold w_D_requireSession at hw
  refine x_iload_n 1 1 d_D_requireSession_0 rfl rfl ?_
  refine x_if_lt 9 d_D_requireSession_1 rfl (fun hc => ?_) (fun hc => ?_)
  · have hw := hw.1 hc
    refine x_sub [] [] rfl ?_
    exact t_D_requireSession_9 hA hT hD M hw
  · have hw := hw.2 hc
    refine x_iload_n 1 1 d_D_requireSession_4 rfl rfl ?_
    refine x_iconst (v := 3) d_D_requireSession_5 (by decide) ?_
    refine x_icmp_lt 20 d_D_requireSession_6 rfl (fun hc => ?_) (fun hc => ?_)
    · have hw := hw.1 hc
      exact x_vret d_D_requireSession_20 rfl (fun _ h => h) ⟨rfl, hw⟩
    · have hw := hw.2 hc
      refine x_sub [] [] rfl ?_
      exact t_D_requireSession_9 hA hT hD M hw
end
abbrev y_D_begunSessions : MethodName := ⟨"SettingsDesk", "begunSessions", "()I"⟩
theorem d_D_begunSessions_0 : decode prog_1_method_29_code 0 = .ok (.iconst 0, 1) := by decide +kernel
theorem d_D_begunSessions_1 : decode prog_1_method_29_code 1 = .ok (.istore_n 1, 1) := by decide +kernel
theorem d_D_begunSessions_2 : decode prog_1_method_29_code 2 = .ok (.iconst 0, 1) := by decide +kernel
theorem d_D_begunSessions_3 : decode prog_1_method_29_code 3 = .ok (.istore_n 2, 1) := by decide +kernel
theorem d_D_begunSessions_4 : decode prog_1_method_29_code 4 = .ok (.iload_n 2, 1) := by decide +kernel
theorem d_D_begunSessions_5 : decode prog_1_method_29_code 5 = .ok (.iconst 3, 1) := by decide +kernel
theorem d_D_begunSessions_6 : decode prog_1_method_29_code 6 = .ok (.if_icmp .ge (24), 3) := by decide +kernel
theorem d_D_begunSessions_9 : decode prog_1_method_29_code 9 = .ok (.aload_n 0, 1) := by decide +kernel
theorem d_D_begunSessions_10 : decode prog_1_method_29_code 10 = .ok (.getfield 35, 3) := by decide +kernel
theorem d_D_begunSessions_13 : decode prog_1_method_29_code 13 = .ok (.iload_n 2, 1) := by decide +kernel
theorem d_D_begunSessions_14 : decode prog_1_method_29_code 14 = .ok (.aaload, 1) := by decide +kernel
theorem d_D_begunSessions_15 : decode prog_1_method_29_code 15 = .ok (.getfield 152, 3) := by decide +kernel
theorem d_D_begunSessions_18 : decode prog_1_method_29_code 18 = .ok (.ifCond .eq (6), 3) := by decide +kernel
theorem d_D_begunSessions_21 : decode prog_1_method_29_code 21 = .ok (.iinc 1 (1), 3) := by decide +kernel
theorem d_D_begunSessions_24 : decode prog_1_method_29_code 24 = .ok (.iinc 2 (1), 3) := by decide +kernel
theorem d_D_begunSessions_27 : decode prog_1_method_29_code 27 = .ok (.goto (-23), 3) := by decide +kernel
theorem d_D_begunSessions_30 : decode prog_1_method_29_code 30 = .ok (.iload_n 1, 1) := by decide +kernel
theorem d_D_begunSessions_31 : decode prog_1_method_29_code 31 = .ok (.ireturn, 1) := by decide +kernel
def Y_D_begunSessions : sdY := ("SettingsDesk", prog_1_method_29_code, 3, (some .int), .code y_D_begunSessions prog_1_method_29_code 3 (some .int) :: sdB0, { frames := 0, cells := 0, slots := 0, locals := 0 }, 0, 0)
section
variable {l : Launch} {D : va_G} {dA : Nat → ClassId} {b n : Nat} {ad : Nat → Nat} {L : Nat → sdL} {sc : Option (Nat × Nat × (Nat → Int32))}
def k_D_begunSessions_24 (Q : Int32 → sdM → Prop) (k4 : sdM → Int32 → Int32 → Prop) (M : sdM) (x1 : Int32) (x2 : Int32) : Prop := k4 M x1 (x2 + 1)
set_option maxHeartbeats 1000000 in
theorem t_D_begunSessions_24 (hA : sd_ad b n ad) (hT : l.stackTraces = false) (hD : isD n L dA) {Q : Int32 → sdM → Prop} {k4 : sdM → Int32 → Int32 → Prop} (hk4 : ∀ (M : sdM) (x1 : Int32) (x2 : Int32), k4 M x1 x2 → sdW l (sdE0 sc) Y_D_begunSessions D (sd_tys dA) b n ad L ad (sd_H D (sdE0 sc).1 n ad L) (sd_qi Q) sd_xf 4 [(0, .ref 0), (1, .int x1), (2, .int x2)] [] M 0 0) (M : sdM) (x1 : Int32) (x2 : Int32) (hw : k_D_begunSessions_24 Q k4 M x1 x2) : sdW l (sdE0 sc) Y_D_begunSessions D (sd_tys dA) b n ad L ad (sd_H D (sdE0 sc).1 n ad L) (sd_qi Q) sd_xf 24 [(0, .ref 0), (1, .int x1), (2, .int x2)] [] M 0 0 := by
  unfold k_D_begunSessions_24 at hw
  refine x_iinc 2 2 [(2, .int (x2 + 1)), (0, .ref 0), (1, .int x1)] d_D_begunSessions_24 rfl (congrArg (HAdd.hAdd x2) (show Int32.ofInt 1 = 1 by decide)) (by decide) rfl ?_
  refine x_goto 4 d_D_begunSessions_27 rfl ?_
  refine x_sub [1, 2, 0] [(0, .ref 0), (1, .int x1), (2, .int (x2 + 1))] rfl ?_
  exact hk4 M x1 (x2 + 1) hw
def h_D_begunSessions_4 (Q : Int32 → sdM → Prop) : Nat → sdM → Int32 → Int32 → Prop
  | 0, _, _, _ => False
  | N + 1, M, x1, x2 => ((3 : Int32) ≤ x2 → Q x1 M) ∧ (¬ (3 : Int32) ≤ x2 → vp_in x2 3 ∧ ((M (83 + 11 * x2.toNatClampNeg) 0) = 0 → k_D_begunSessions_24 Q (fun M x1 x2 => h_D_begunSessions_4 Q N M x1 x2) M x1 x2) ∧ (¬ (M (83 + 11 * x2.toNatClampNeg) 0) = 0 → k_D_begunSessions_24 Q (fun M x1 x2 => h_D_begunSessions_4 Q N M x1 x2) M (x1 + 1) x2))
set_option maxHeartbeats 1000000 in
theorem t_D_begunSessions_4 (hA : sd_ad b n ad) (hT : l.stackTraces = false) (hD : isD n L dA) {Q : Int32 → sdM → Prop} (N : Nat) : ∀ (M : sdM) (x1 : Int32) (x2 : Int32), h_D_begunSessions_4 Q N M x1 x2 → sdW l (sdE0 sc) Y_D_begunSessions D (sd_tys dA) b n ad L ad (sd_H D (sdE0 sc).1 n ad L) (sd_qi Q) sd_xf 4 [(0, .ref 0), (1, .int x1), (2, .int x2)] [] M 0 0 := by
  induction N with
  | zero => intro M x1 x2 hw; exact hw.elim
  | succ N ih =>
    intro M x1 x2 hw
    rw [h_D_begunSessions_4] at hw
    refine x_iload_n 2 2 d_D_begunSessions_4 rfl rfl ?_
    refine x_iconst (v := 3) d_D_begunSessions_5 (by decide) ?_
    refine x_icmp_ge 30 d_D_begunSessions_6 rfl (fun hc => ?_) (fun hc => ?_)
    · have hw := hw.1 hc
      refine x_iload_n 1 1 d_D_begunSessions_30 rfl rfl ?_
      exact x_iret d_D_begunSessions_31 rfl (fun _ h => h) ⟨_, rfl, hw⟩
    · have hw := hw.2 hc
      refine x_aload_n 0 0 d_D_begunSessions_9 rfl rfl ?_
      refine x_getr 5 41 d_D_begunSessions_10 hD.1 hD.2.1 rfl rfl (by decide) lay_D (List.mem_cons_of_mem _ q258) rfl ?_
      refine x_iload_n 2 2 d_D_begunSessions_13 rfl rfl ?_
      obtain ⟨hi2, hw⟩ := hw
      refine x_aald (83 + 11 * x2.toNatClampNeg) d_D_begunSessions_14 hD.sessions.1 hD.sessions.2 (t0 := 6) rfl hi2 rfl ?_
      refine x_geti 0 d_D_begunSessions_15 (hD.sessionsAt hi2).1 (hD.sessionsAt hi2).2.1 rfl rfl (by decide) lay_N (List.mem_cons_of_mem _ q259) rfl ?_
      refine x_if_eq 24 d_D_begunSessions_18 rfl (fun hc => ?_) (fun hc => ?_)
      · have hw := hw.1 hc
        exact t_D_begunSessions_24 hA hT hD (fun M x1 x2  hw => ih M x1 x2 hw) M x1 x2 hw
      · have hw := hw.2 hc
        refine x_iinc 1 1 [(1, .int (x1 + 1)), (0, .ref 0), (2, .int x2)] d_D_begunSessions_21 rfl (congrArg (HAdd.hAdd x1) (show Int32.ofInt 1 = 1 by decide)) (by decide) rfl ?_
        refine x_sub [1, 0, 2] [(0, .ref 0), (1, .int (x1 + 1)), (2, .int x2)] rfl ?_
        exact t_D_begunSessions_24 hA hT hD (fun M x1 x2  hw => ih M x1 x2 hw) M (x1 + 1) x2 hw
def w_D_begunSessions (M : sdM) (Q : Int32 → sdM → Prop) : Prop := ∃ N9 : Nat, h_D_begunSessions_4 Q N9 M (0 : Int32) (0 : Int32)
set_option maxHeartbeats 1000000 in
theorem c_D_begunSessions (hA : sd_ad b n ad) (hT : l.stackTraces = false) (hD : isD n L dA) {Q : Int32 → sdM → Prop} {M : sdM} (hw : w_D_begunSessions M Q) : sd_Cn l (sdE0 sc) y_D_begunSessions Y_D_begunSessions.2.2.2.2.1 Y_D_begunSessions.2.2.2.2.2.1 0 0 D (sd_tys dA) b n ad L M [.ref 0] (sd_qi Q) sd_xf := by
  refine sd_enter (Y := Y_D_begunSessions) rfl rfl rfl (Nat.le_of_ble_eq_true rfl) ?_
  show sdW l (sdE0 sc) Y_D_begunSessions D (sd_tys dA) b n ad L ad (sd_H D (sdE0 sc).1 n ad L) (sd_qi Q) sd_xf 0 [(0, .ref 0)] [] M 0 0
  unfold w_D_begunSessions at hw
  refine x_iconst (v := 0) d_D_begunSessions_0 (by decide) ?_
  refine x_istore_n 1 [(1, .int (0 : Int32)), (0, .ref 0)] d_D_begunSessions_1 rfl (by decide) rfl ?_
  refine x_iconst (v := 0) d_D_begunSessions_2 (by decide) ?_
  refine x_istore_n 2 [(2, .int (0 : Int32)), (1, .int (0 : Int32)), (0, .ref 0)] d_D_begunSessions_3 rfl (by decide) rfl ?_
  refine x_sub [2, 1, 0] [(0, .ref 0), (1, .int (0 : Int32)), (2, .int (0 : Int32))] rfl ?_
  obtain ⟨N9, hw⟩ := hw
  exact t_D_begunSessions_4 hA hT hD N9 M (0 : Int32) (0 : Int32) hw
end
theorem q334 : (.methodLink "SettingsDesk" 146 ⟨"SettingsDesk", "requireReady", "()V"⟩ : Cond) ∈ sdB0 := sd_tb3 88 rfl rfl
theorem q335 : (.instanceMethod ⟨"SettingsDesk", "requireReady", "()V"⟩ : Cond) ∈ sdB0 := sd_tb3 90 rfl rfl
theorem q336 : (.selects "SettingsDesk" ⟨"SettingsDesk", "requireReady", "()V"⟩ ⟨"SettingsDesk", "requireReady", "()V"⟩ : Cond) ∈ sdB0 := sd_tbp (q := (⟨"SettingsDesk", "requireReady", "()V"⟩, 12)) (List.mem_of_getElem? (i := 6) rfl)
theorem q337 : (.methodLink "SettingsDesk" 149 ⟨"SettingsDesk", "requireSession", "(I)V"⟩ : Cond) ∈ sdB0 := sd_tb3 93 rfl rfl
theorem q338 : (.instanceMethod ⟨"SettingsDesk", "requireSession", "(I)V"⟩ : Cond) ∈ sdB0 := sd_tb3 95 rfl rfl
theorem q339 : (.selects "SettingsDesk" ⟨"SettingsDesk", "requireSession", "(I)V"⟩ ⟨"SettingsDesk", "requireSession", "(I)V"⟩ : Cond) ∈ sdB0 := sd_tbp (q := (⟨"SettingsDesk", "requireSession", "(I)V"⟩, 12)) (List.mem_of_getElem? (i := 7) rfl)
theorem q340 : (.methodLink "SettingsDesk" 155 ⟨"SettingsDesk$Session", "takeOver", "(LSettingsDesk$Settings;LSettingsDesk$Settings;)V"⟩ : Cond) ∈ sdB0 := sd_tb3 98 rfl rfl
theorem q341 : (.code ⟨"SettingsDesk$Session", "takeOver", "(LSettingsDesk$Settings;LSettingsDesk$Settings;)V"⟩ prog_8_method_2_code 3 none : Cond) ∈ sdB0 := sd_tb3 101 rfl rfl
theorem q342 : (.instanceMethod ⟨"SettingsDesk$Session", "takeOver", "(LSettingsDesk$Settings;LSettingsDesk$Settings;)V"⟩ : Cond) ∈ sdB0 := sd_tb3 99 rfl rfl
theorem q343 : (.selects "SettingsDesk$Session" ⟨"SettingsDesk$Session", "takeOver", "(LSettingsDesk$Settings;LSettingsDesk$Settings;)V"⟩ ⟨"SettingsDesk$Session", "takeOver", "(LSettingsDesk$Settings;LSettingsDesk$Settings;)V"⟩ : Cond) ∈ sdB0 := sd_tb3 100 rfl rfl
theorem q344 : (.initialized "SettingsDesk$Session" : Cond) ∈ sdB0 := sd_tb1 7 rfl rfl
theorem q345 : (.methodLink "SettingsDesk" 159 ⟨"SettingsDesk", "begunSessions", "()I"⟩ : Cond) ∈ sdB0 := sd_tb3 103 rfl rfl
theorem q346 : (.code ⟨"SettingsDesk", "begunSessions", "()I"⟩ prog_1_method_29_code 3 (some .int) : Cond) ∈ sdB0 := sd_tb3 106 rfl rfl
theorem q347 : (.instanceMethod ⟨"SettingsDesk", "begunSessions", "()I"⟩ : Cond) ∈ sdB0 := sd_tb3 105 rfl rfl
theorem q348 : (.selects "SettingsDesk" ⟨"SettingsDesk", "begunSessions", "()I"⟩ ⟨"SettingsDesk", "begunSessions", "()I"⟩ : Cond) ∈ sdB0 := sd_tbp (q := (⟨"SettingsDesk", "begunSessions", "()I"⟩, 12)) (List.mem_of_getElem? (i := 8) rfl)
abbrev y_D_begin : MethodName := ⟨"SettingsDesk", "begin", "(I)I"⟩
theorem d_D_begin_0 : decode prog_1_method_7_code 0 = .ok (.aload_n 0, 1) := by decide +kernel
theorem d_D_begin_1 : decode prog_1_method_7_code 1 = .ok (.invokevirtual 146, 3) := by decide +kernel
theorem d_D_begin_4 : decode prog_1_method_7_code 4 = .ok (.aload_n 0, 1) := by decide +kernel
theorem d_D_begin_5 : decode prog_1_method_7_code 5 = .ok (.iload_n 1, 1) := by decide +kernel
theorem d_D_begin_6 : decode prog_1_method_7_code 6 = .ok (.invokevirtual 149, 3) := by decide +kernel
theorem d_D_begin_9 : decode prog_1_method_7_code 9 = .ok (.aload_n 0, 1) := by decide +kernel
theorem d_D_begin_10 : decode prog_1_method_7_code 10 = .ok (.getfield 35, 3) := by decide +kernel
theorem d_D_begin_13 : decode prog_1_method_7_code 13 = .ok (.iload_n 1, 1) := by decide +kernel
theorem d_D_begin_14 : decode prog_1_method_7_code 14 = .ok (.aaload, 1) := by decide +kernel
theorem d_D_begin_15 : decode prog_1_method_7_code 15 = .ok (.iconst 1, 1) := by decide +kernel
theorem d_D_begin_16 : decode prog_1_method_7_code 16 = .ok (.putfield 152, 3) := by decide +kernel
theorem d_D_begin_19 : decode prog_1_method_7_code 19 = .ok (.aload_n 0, 1) := by decide +kernel
theorem d_D_begin_20 : decode prog_1_method_7_code 20 = .ok (.getfield 35, 3) := by decide +kernel
theorem d_D_begin_23 : decode prog_1_method_7_code 23 = .ok (.iload_n 1, 1) := by decide +kernel
theorem d_D_begin_24 : decode prog_1_method_7_code 24 = .ok (.aaload, 1) := by decide +kernel
theorem d_D_begin_25 : decode prog_1_method_7_code 25 = .ok (.aload_n 0, 1) := by decide +kernel
theorem d_D_begin_26 : decode prog_1_method_7_code 26 = .ok (.getfield 19, 3) := by decide +kernel
theorem d_D_begin_29 : decode prog_1_method_7_code 29 = .ok (.aload_n 0, 1) := by decide +kernel
theorem d_D_begin_30 : decode prog_1_method_7_code 30 = .ok (.getfield 19, 3) := by decide +kernel
theorem d_D_begin_33 : decode prog_1_method_7_code 33 = .ok (.invokevirtual 155, 3) := by decide +kernel
theorem d_D_begin_36 : decode prog_1_method_7_code 36 = .ok (.aload_n 0, 1) := by decide +kernel
theorem d_D_begin_37 : decode prog_1_method_7_code 37 = .ok (.invokevirtual 159, 3) := by decide +kernel
theorem d_D_begin_40 : decode prog_1_method_7_code 40 = .ok (.ireturn, 1) := by decide +kernel
def Y_D_begin : sdY := ("SettingsDesk", prog_1_method_7_code, 2, (some .int), .code y_D_begin prog_1_method_7_code 2 (some .int) :: sdB0, { frames := 7, cells := 2, slots := 12, locals := 103 }, 2, 12)
theorem cw_D_begin_D_requireReady_146 : sd_cwV Y_D_begin Y_D_requireReady y_D_requireReady 146 0 "SettingsDesk" := ⟨sd_goodV q334 q335 q336 q264 q332, ⟨_, rfl⟩, ⟨rfl, rfl, rfl, rfl⟩, ⟨rfl, by decide, by decide, by decide +kernel⟩, ⟨by decide, by decide⟩⟩
theorem cw_D_begin_D_requireSession_149 : sd_cwV Y_D_begin Y_D_requireSession y_D_requireSession 149 1 "SettingsDesk" := ⟨sd_goodV q337 q338 q339 q264 q333, ⟨_, rfl⟩, ⟨rfl, rfl, rfl, rfl⟩, ⟨rfl, by decide, by decide, by decide +kernel⟩, ⟨by decide, by decide⟩⟩
theorem cw_D_begin_N_takeOver_155 : sd_cwV Y_D_begin Y_N_takeOver y_N_takeOver 155 2 "SettingsDesk$Session" := ⟨sd_goodV q340 q342 q343 q344 q341, ⟨_, rfl⟩, ⟨rfl, rfl, rfl, rfl⟩, ⟨rfl, by decide, by decide, by decide +kernel⟩, ⟨by decide, by decide⟩⟩
theorem cw_D_begin_D_begunSessions_159 : sd_cwV Y_D_begin Y_D_begunSessions y_D_begunSessions 159 0 "SettingsDesk" := ⟨sd_goodV q345 q347 q348 q264 q346, ⟨_, rfl⟩, ⟨rfl, rfl, rfl, rfl⟩, ⟨rfl, by decide, by decide, by decide +kernel⟩, ⟨by decide, by decide⟩⟩
section
variable {l : Launch} {D : va_G} {dA : Nat → ClassId} {b n : Nat} {ad : Nat → Nat} {L : Nat → sdL} {sc : Option (Nat × Nat × (Nat → Int32))}
def w_D_begin (M : sdM) (a1 : Int32) (Q : Int32 → sdM → Prop) (X : String → sdM → Prop) : Prop := w_D_requireReady M (fun M11 => w_D_requireSession M11 a1 (fun M12 => vp_in a1 3 ∧ sdB (1 : Int32) ∧ ∀ M14 : sdM, M14 = sd_s M12 (83 + 11 * a1.toNatClampNeg) 0 (1 : Int32) → vp_in a1 3 ∧ w_N_takeOver (83 + 11 * a1.toNatClampNeg) M14 25 25 (fun M18 => w_D_begunSessions M18 (fun r20 M19 => Q r20 M19))) X) X
set_option maxHeartbeats 1000000 in
theorem c_D_begin {a1 : Int32} (hA : sd_ad b n ad) (hT : l.stackTraces = false) (hD : isD n L dA) {Q : Int32 → sdM → Prop} {X : String → sdM → Prop} {M : sdM} (hw : w_D_begin M a1 Q X) : sd_Cn l (sdE0 sc) y_D_begin Y_D_begin.2.2.2.2.1 Y_D_begin.2.2.2.2.2.1 2 12 D (sd_tys dA) b n ad L M [.ref 0, .int a1] (sd_qi Q) X := by
  refine sd_enter (Y := Y_D_begin) rfl rfl rfl (Nat.le_of_ble_eq_true rfl) ?_
  show sdW l (sdE0 sc) Y_D_begin D (sd_tys dA) b n ad L ad (sd_H D (sdE0 sc).1 n ad L) (sd_qi Q) X 0 [(0, .ref 0), (1, .int a1)] [] M 2 12
  unfold w_D_begin at hw
  refine x_aload_n 0 0 d_D_begin_0 rfl rfl ?_
  refine x_callVv (As := []) (t := 0) (rest := []) (rc := 1) (rs := 6) (c_D_requireReady hA hT hD hw) cw_D_begin_D_requireReady_146 hD.1 hD.2.1 rfl d_D_begin_1 rfl rfl (Nat.le_of_ble_eq_true rfl) (fun _ _ h => h) (fun _ _ h => h) (fun M11 hw => ?_)
  refine x_aload_n 0 0 d_D_begin_4 rfl rfl ?_
  refine x_iload_n 1 1 d_D_begin_5 rfl rfl ?_
  refine x_callVv (As := [.int a1]) (t := 0) (rest := []) (rc := 0) (rs := 0) (c_D_requireSession hA hT hD hw) cw_D_begin_D_requireSession_149 hD.1 hD.2.1 rfl d_D_begin_6 rfl rfl (Nat.le_of_ble_eq_true rfl) (fun _ _ h => h) (fun _ _ h => h) (fun M12 hw => ?_)
  refine x_aload_n 0 0 d_D_begin_9 rfl rfl ?_
  refine x_getr 5 41 d_D_begin_10 hD.1 hD.2.1 rfl rfl (by decide) lay_D (List.mem_cons_of_mem _ q258) rfl ?_
  refine x_iload_n 1 1 d_D_begin_13 rfl rfl ?_
  obtain ⟨hi13, hw⟩ := hw
  refine x_aald (83 + 11 * a1.toNatClampNeg) d_D_begin_14 hD.sessions.1 hD.sessions.2 (t0 := 6) rfl hi13 rfl ?_
  refine x_iconst (v := 1) d_D_begin_15 (by decide) ?_
  obtain ⟨hb16, hw⟩ := hw
  refine x_puti 0 (ty := .boolean) hA d_D_begin_16 (hD.sessionsAt hi13).1 (hD.sessionsAt hi13).2.1 rfl rfl (by decide) lay_N (List.mem_cons_of_mem _ q259) rfl ty_N ty_N_ok nm_N rfl (by decide +kernel) (sdB_n hb16) (sdB_f hb16) (fun M14 e15 => ?_)
  have hw := hw M14 e15
  clear e15
  refine x_aload_n 0 0 d_D_begin_19 rfl rfl ?_
  refine x_getr 5 41 d_D_begin_20 hD.1 hD.2.1 rfl rfl (by decide) lay_D (List.mem_cons_of_mem _ q258) rfl ?_
  refine x_iload_n 1 1 d_D_begin_23 rfl rfl ?_
  obtain ⟨hi17, hw⟩ := hw
  refine x_aald (83 + 11 * a1.toNatClampNeg) d_D_begin_24 hD.sessions.1 hD.sessions.2 (t0 := 6) rfl hi17 rfl ?_
  refine x_aload_n 0 0 d_D_begin_25 rfl rfl ?_
  refine x_getr 1 25 d_D_begin_26 hD.1 hD.2.1 rfl rfl (by decide) lay_D (List.mem_cons_of_mem _ q243) rfl ?_
  refine x_aload_n 0 0 d_D_begin_29 rfl rfl ?_
  refine x_getr 1 25 d_D_begin_30 hD.1 hD.2.1 rfl rfl (by decide) lay_D (List.mem_cons_of_mem _ q243) rfl ?_
  refine x_callVv (As := [.ref 25, .ref 25]) (t := (83 + 11 * a1.toNatClampNeg)) (rest := []) (rc := 0) (rs := 0) (c_N_takeOver hA hT (hD.sessionsAt hi17) hD.running hD.running hw) cw_D_begin_N_takeOver_155 (hD.sessionsAt hi17).1 (hD.sessionsAt hi17).2.1 rfl d_D_begin_33 rfl rfl (Nat.le_of_ble_eq_true rfl) (fun _ _ h => h.elim) (fun _ _ h => h) (fun M18 hw => ?_)
  refine x_aload_n 0 0 d_D_begin_36 rfl rfl ?_
  refine x_callVi (As := []) (t := 0) (rest := []) (rc := 0) (rs := 0) (c_D_begunSessions hA hT hD hw) cw_D_begin_D_begunSessions_159 hD.1 hD.2.1 rfl d_D_begin_37 rfl rfl (Nat.le_of_ble_eq_true rfl) (fun _ _ h => h.elim) (fun _ _ h => h) (fun r20 M19 hw => ?_)
  exact x_iret d_D_begin_40 rfl (fun _ h => h) ⟨_, rfl, hw⟩
end
theorem q349 : (.code ⟨"SettingsDesk", "requireBegun", "(I)V"⟩ prog_1_method_27_code 2 none : Cond) ∈ sdB0 := sd_tb3 118 rfl rfl
abbrev y_D_requireBegun : MethodName := ⟨"SettingsDesk", "requireBegun", "(I)V"⟩
theorem d_D_requireBegun_0 : decode prog_1_method_27_code 0 = .ok (.aload_n 0, 1) := by decide +kernel
theorem d_D_requireBegun_1 : decode prog_1_method_27_code 1 = .ok (.getfield 35, 3) := by decide +kernel
theorem d_D_requireBegun_4 : decode prog_1_method_27_code 4 = .ok (.iload_n 1, 1) := by decide +kernel
theorem d_D_requireBegun_5 : decode prog_1_method_27_code 5 = .ok (.aaload, 1) := by decide +kernel
theorem d_D_requireBegun_6 : decode prog_1_method_27_code 6 = .ok (.getfield 152, 3) := by decide +kernel
theorem d_D_requireBegun_9 : decode prog_1_method_27_code 9 = .ok (.ifCond .ne (14), 3) := by decide +kernel
theorem d_D_requireBegun_12 : decode prog_1_method_27_code 12 = .ok (.new 70, 3) := by decide +kernel
theorem d_D_requireBegun_15 : decode prog_1_method_27_code 15 = .ok (.dup, 1) := by decide +kernel
theorem d_D_requireBegun_16 : decode prog_1_method_27_code 16 = .ok (.ldc_w 308, 3) := by decide +kernel
theorem d_D_requireBegun_19 : decode prog_1_method_27_code 19 = .ok (.invokespecial 74, 3) := by decide +kernel
theorem d_D_requireBegun_22 : decode prog_1_method_27_code 22 = .ok (.athrow, 1) := by decide +kernel
theorem d_D_requireBegun_23 : decode prog_1_method_27_code 23 = .ok (.return_, 1) := by decide +kernel
def Y_D_requireBegun : sdY := ("SettingsDesk", prog_1_method_27_code, 2, none, .code y_D_requireBegun prog_1_method_27_code 2 none :: sdB0, { frames := 6, cells := 1, slots := 6, locals := 82 }, 1, 6)
section
variable {l : Launch} {D : va_G} {dA : Nat → ClassId} {b n : Nat} {ad : Nat → Nat} {L : Nat → sdL} {sc : Option (Nat × Nat × (Nat → Int32))}
def w_D_requireBegun (M : sdM) (a1 : Int32) (Q : sdM → Prop) (X : String → sdM → Prop) : Prop := vp_in a1 3 ∧ (¬ (M (83 + 11 * a1.toNatClampNeg) 0) = 0 → Q M) ∧ ((M (83 + 11 * a1.toNatClampNeg) 0) = 0 → X "java/lang/IllegalStateException" M)
set_option maxHeartbeats 1000000 in
theorem c_D_requireBegun {a1 : Int32} (hA : sd_ad b n ad) (hT : l.stackTraces = false) (hD : isD n L dA) {Q : sdM → Prop} {X : String → sdM → Prop} {M : sdM} (hw : w_D_requireBegun M a1 Q X) : sd_Cn l (sdE0 sc) y_D_requireBegun Y_D_requireBegun.2.2.2.2.1 Y_D_requireBegun.2.2.2.2.2.1 1 6 D (sd_tys dA) b n ad L M [.ref 0, .int a1] (sd_qv Q) X := by
  refine sd_enter (Y := Y_D_requireBegun) rfl rfl rfl (Nat.le_of_ble_eq_true rfl) ?_
  show sdW l (sdE0 sc) Y_D_requireBegun D (sd_tys dA) b n ad L ad (sd_H D (sdE0 sc).1 n ad L) (sd_qv Q) X 0 [(0, .ref 0), (1, .int a1)] [] M 1 6
  unfold w_D_requireBegun at hw
  refine x_aload_n 0 0 d_D_requireBegun_0 rfl rfl ?_
  refine x_getr 5 41 d_D_requireBegun_1 hD.1 hD.2.1 rfl rfl (by decide) lay_D (List.mem_cons_of_mem _ q258) rfl ?_
  refine x_iload_n 1 1 d_D_requireBegun_4 rfl rfl ?_
  obtain ⟨hi2, hw⟩ := hw
  refine x_aald (83 + 11 * a1.toNatClampNeg) d_D_requireBegun_5 hD.sessions.1 hD.sessions.2 (t0 := 6) rfl hi2 rfl ?_
  refine x_geti 0 d_D_requireBegun_6 (hD.sessionsAt hi2).1 (hD.sessionsAt hi2).2.1 rfl rfl (by decide) lay_N (List.mem_cons_of_mem _ q259) rfl ?_
  refine x_if_ne 23 d_D_requireBegun_9 rfl (fun hc => ?_) (fun hc => ?_)
  · have hw := hw.1 hc
    exact x_vret d_D_requireBegun_23 rfl (fun _ h => h) ⟨rfl, hw⟩
  · have hw := hw.2 hc
    exact x_throwS (names := sdExN) (is := 308) (ic := 74) (rc := 0) (rs := 0) hT fit_ISE fit_N (sd_goodB q349) (List.mem_cons_of_mem _ q280) (List.mem_cons_of_mem _ q281) (List.mem_cons_of_mem _ q282) (List.mem_of_getElem? (i := 10) rfl) oa_ISE d_D_requireBegun_12 d_D_requireBegun_15 (Or.inr ⟨d_D_requireBegun_16, rfl⟩) d_D_requireBegun_19 d_D_requireBegun_22 (by decide) (Nat.le_of_ble_eq_true rfl) rfl rfl (fun _ _ h => h) hw
end
theorem q350 : (.fieldLink "SettingsDesk" 168 "SettingsDesk$Session" "candidate" "LSettingsDesk$Settings;" : Cond) ∈ sdB0 := sd_tb1 190 rfl rfl
theorem q351 : (.code ⟨"SettingsDesk", "entry", "(IIIZ)Z"⟩ prog_1_method_8_code 7 (some .boolean) : Cond) ∈ sdB0 := sd_tb3 114 rfl rfl
theorem q352 : (.classLink "SettingsDesk" 181 "java/lang/UnsupportedOperationException" : Cond) ∈ sdB0 := sd_tb3 130 rfl rfl
theorem q353 : (.initialized "java/lang/UnsupportedOperationException" : Cond) ∈ sdB0 := sd_tb1 17 rfl rfl
theorem q354 : (.instantiable "java/lang/UnsupportedOperationException" 6 : Cond) ∈ sdB0 := sd_tb3 131 rfl rfl
theorem q355 : (.methodLink "SettingsDesk" 163 ⟨"SettingsDesk", "requireBegun", "(I)V"⟩ : Cond) ∈ sdB0 := sd_tb3 115 rfl rfl
theorem q356 : (.instanceMethod ⟨"SettingsDesk", "requireBegun", "(I)V"⟩ : Cond) ∈ sdB0 := sd_tb3 117 rfl rfl
theorem q357 : (.selects "SettingsDesk" ⟨"SettingsDesk", "requireBegun", "(I)V"⟩ ⟨"SettingsDesk", "requireBegun", "(I)V"⟩ : Cond) ∈ sdB0 := sd_tbp (q := (⟨"SettingsDesk", "requireBegun", "(I)V"⟩, 12)) (List.mem_of_getElem? (i := 9) rfl)
theorem q358 : (.methodLink "SettingsDesk" 171 ⟨"SettingsDesk$Settings", "rowOf", "(II)I"⟩ : Cond) ∈ sdB0 := sd_tb3 121 rfl rfl
theorem q359 : (.methodLink "SettingsDesk" 186 ⟨"SettingsDesk$Settings", "addEntry", "(II)I"⟩ : Cond) ∈ sdB0 := sd_tb3 146 rfl rfl
theorem q360 : (.methodLink "SettingsDesk" 175 ⟨"SettingsDesk$Settings", "removeEntry", "(II)V"⟩ : Cond) ∈ sdB0 := sd_tb3 122 rfl rfl
theorem q361 : (.code ⟨"SettingsDesk$Settings", "removeEntry", "(II)V"⟩ prog_9_method_11_code 4 none : Cond) ∈ sdB0 := sd_tb3 125 rfl rfl
theorem q362 : (.instanceMethod ⟨"SettingsDesk$Settings", "removeEntry", "(II)V"⟩ : Cond) ∈ sdB0 := sd_tb3 123 rfl rfl
theorem q363 : (.selects "SettingsDesk$Settings" ⟨"SettingsDesk$Settings", "removeEntry", "(II)V"⟩ ⟨"SettingsDesk$Settings", "removeEntry", "(II)V"⟩ : Cond) ∈ sdB0 := sd_tb3 124 rfl rfl
abbrev y_D_entry : MethodName := ⟨"SettingsDesk", "entry", "(IIIZ)Z"⟩
theorem d_D_entry_0 : decode prog_1_method_8_code 0 = .ok (.aload_n 0, 1) := by decide +kernel
theorem d_D_entry_1 : decode prog_1_method_8_code 1 = .ok (.invokevirtual 146, 3) := by decide +kernel
theorem d_D_entry_4 : decode prog_1_method_8_code 4 = .ok (.aload_n 0, 1) := by decide +kernel
theorem d_D_entry_5 : decode prog_1_method_8_code 5 = .ok (.iload_n 1, 1) := by decide +kernel
theorem d_D_entry_6 : decode prog_1_method_8_code 6 = .ok (.invokevirtual 149, 3) := by decide +kernel
theorem d_D_entry_9 : decode prog_1_method_8_code 9 = .ok (.aload_n 0, 1) := by decide +kernel
theorem d_D_entry_10 : decode prog_1_method_8_code 10 = .ok (.iload_n 2, 1) := by decide +kernel
theorem d_D_entry_11 : decode prog_1_method_8_code 11 = .ok (.invokevirtual 77, 3) := by decide +kernel
theorem d_D_entry_14 : decode prog_1_method_8_code 14 = .ok (.aload_n 0, 1) := by decide +kernel
theorem d_D_entry_15 : decode prog_1_method_8_code 15 = .ok (.iload_n 1, 1) := by decide +kernel
theorem d_D_entry_16 : decode prog_1_method_8_code 16 = .ok (.invokevirtual 163, 3) := by decide +kernel
theorem d_D_entry_19 : decode prog_1_method_8_code 19 = .ok (.iload_n 2, 1) := by decide +kernel
theorem d_D_entry_20 : decode prog_1_method_8_code 20 = .ok (.ifCond .eq (14), 3) := by decide +kernel
theorem d_D_entry_23 : decode prog_1_method_8_code 23 = .ok (.iload_n 3, 1) := by decide +kernel
theorem d_D_entry_24 : decode prog_1_method_8_code 24 = .ok (.iconst 1, 1) := by decide +kernel
theorem d_D_entry_25 : decode prog_1_method_8_code 25 = .ok (.if_icmp .lt (9), 3) := by decide +kernel
theorem d_D_entry_28 : decode prog_1_method_8_code 28 = .ok (.iload_n 3, 1) := by decide +kernel
theorem d_D_entry_29 : decode prog_1_method_8_code 29 = .ok (.bipush (100), 2) := by decide +kernel
theorem d_D_entry_31 : decode prog_1_method_8_code 31 = .ok (.if_icmp .le (13), 3) := by decide +kernel
theorem d_D_entry_34 : decode prog_1_method_8_code 34 = .ok (.new 91, 3) := by decide +kernel
theorem d_D_entry_37 : decode prog_1_method_8_code 37 = .ok (.dup, 1) := by decide +kernel
theorem d_D_entry_38 : decode prog_1_method_8_code 38 = .ok (.ldc 166, 2) := by decide +kernel
theorem d_D_entry_40 : decode prog_1_method_8_code 40 = .ok (.invokespecial 95, 3) := by decide +kernel
theorem d_D_entry_43 : decode prog_1_method_8_code 43 = .ok (.athrow, 1) := by decide +kernel
theorem d_D_entry_44 : decode prog_1_method_8_code 44 = .ok (.aload_n 0, 1) := by decide +kernel
theorem d_D_entry_45 : decode prog_1_method_8_code 45 = .ok (.getfield 35, 3) := by decide +kernel
theorem d_D_entry_48 : decode prog_1_method_8_code 48 = .ok (.iload_n 1, 1) := by decide +kernel
theorem d_D_entry_49 : decode prog_1_method_8_code 49 = .ok (.aaload, 1) := by decide +kernel
theorem d_D_entry_50 : decode prog_1_method_8_code 50 = .ok (.getfield 168, 3) := by decide +kernel
theorem d_D_entry_53 : decode prog_1_method_8_code 53 = .ok (.astore 5, 2) := by decide +kernel
theorem d_D_entry_55 : decode prog_1_method_8_code 55 = .ok (.aload 5, 2) := by decide +kernel
theorem d_D_entry_57 : decode prog_1_method_8_code 57 = .ok (.iload_n 2, 1) := by decide +kernel
theorem d_D_entry_58 : decode prog_1_method_8_code 58 = .ok (.iload_n 3, 1) := by decide +kernel
theorem d_D_entry_59 : decode prog_1_method_8_code 59 = .ok (.invokevirtual 171, 3) := by decide +kernel
theorem d_D_entry_62 : decode prog_1_method_8_code 62 = .ok (.istore 6, 2) := by decide +kernel
theorem d_D_entry_64 : decode prog_1_method_8_code 64 = .ok (.iload 4, 2) := by decide +kernel
theorem d_D_entry_66 : decode prog_1_method_8_code 66 = .ok (.iload 6, 2) := by decide +kernel
theorem d_D_entry_68 : decode prog_1_method_8_code 68 = .ok (.iconst (-1), 1) := by decide +kernel
theorem d_D_entry_69 : decode prog_1_method_8_code 69 = .ok (.if_icmp .eq (7), 3) := by decide +kernel
theorem d_D_entry_72 : decode prog_1_method_8_code 72 = .ok (.iconst 1, 1) := by decide +kernel
theorem d_D_entry_73 : decode prog_1_method_8_code 73 = .ok (.goto (4), 3) := by decide +kernel
theorem d_D_entry_76 : decode prog_1_method_8_code 76 = .ok (.iconst 0, 1) := by decide +kernel
theorem d_D_entry_77 : decode prog_1_method_8_code 77 = .ok (.if_icmp .ne (5), 3) := by decide +kernel
theorem d_D_entry_80 : decode prog_1_method_8_code 80 = .ok (.iconst 0, 1) := by decide +kernel
theorem d_D_entry_81 : decode prog_1_method_8_code 81 = .ok (.ireturn, 1) := by decide +kernel
theorem d_D_entry_82 : decode prog_1_method_8_code 82 = .ok (.iload 4, 2) := by decide +kernel
theorem d_D_entry_84 : decode prog_1_method_8_code 84 = .ok (.ifCond .ne (13), 3) := by decide +kernel
theorem d_D_entry_87 : decode prog_1_method_8_code 87 = .ok (.aload 5, 2) := by decide +kernel
theorem d_D_entry_89 : decode prog_1_method_8_code 89 = .ok (.iload_n 2, 1) := by decide +kernel
theorem d_D_entry_90 : decode prog_1_method_8_code 90 = .ok (.iload 6, 2) := by decide +kernel
theorem d_D_entry_92 : decode prog_1_method_8_code 92 = .ok (.invokevirtual 175, 3) := by decide +kernel
theorem d_D_entry_95 : decode prog_1_method_8_code 95 = .ok (.iconst 1, 1) := by decide +kernel
theorem d_D_entry_96 : decode prog_1_method_8_code 96 = .ok (.ireturn, 1) := by decide +kernel
theorem d_D_entry_97 : decode prog_1_method_8_code 97 = .ok (.aload 5, 2) := by decide +kernel
theorem d_D_entry_99 : decode prog_1_method_8_code 99 = .ok (.getfield 178, 3) := by decide +kernel
theorem d_D_entry_102 : decode prog_1_method_8_code 102 = .ok (.iload_n 2, 1) := by decide +kernel
theorem d_D_entry_103 : decode prog_1_method_8_code 103 = .ok (.iaload, 1) := by decide +kernel
theorem d_D_entry_104 : decode prog_1_method_8_code 104 = .ok (.bipush (6), 2) := by decide +kernel
theorem d_D_entry_106 : decode prog_1_method_8_code 106 = .ok (.if_icmp .lt (13), 3) := by decide +kernel
theorem d_D_entry_109 : decode prog_1_method_8_code 109 = .ok (.new 181, 3) := by decide +kernel
theorem d_D_entry_112 : decode prog_1_method_8_code 112 = .ok (.dup, 1) := by decide +kernel
theorem d_D_entry_113 : decode prog_1_method_8_code 113 = .ok (.ldc 183, 2) := by decide +kernel
theorem d_D_entry_115 : decode prog_1_method_8_code 115 = .ok (.invokespecial 185, 3) := by decide +kernel
theorem d_D_entry_118 : decode prog_1_method_8_code 118 = .ok (.athrow, 1) := by decide +kernel
theorem d_D_entry_119 : decode prog_1_method_8_code 119 = .ok (.aload 5, 2) := by decide +kernel
theorem d_D_entry_121 : decode prog_1_method_8_code 121 = .ok (.iload_n 2, 1) := by decide +kernel
theorem d_D_entry_122 : decode prog_1_method_8_code 122 = .ok (.iload_n 3, 1) := by decide +kernel
theorem d_D_entry_123 : decode prog_1_method_8_code 123 = .ok (.invokevirtual 186, 3) := by decide +kernel
theorem d_D_entry_126 : decode prog_1_method_8_code 126 = .ok (.pop, 1) := by decide +kernel
theorem d_D_entry_127 : decode prog_1_method_8_code 127 = .ok (.iconst 1, 1) := by decide +kernel
theorem d_D_entry_128 : decode prog_1_method_8_code 128 = .ok (.ireturn, 1) := by decide +kernel
def Y_D_entry : sdY := ("SettingsDesk", prog_1_method_8_code, 7, (some .boolean), .code y_D_entry prog_1_method_8_code 7 (some .boolean) :: sdB0, { frames := 7, cells := 5, slots := 30, locals := 103 }, 5, 30)
theorem cw_D_entry_D_requireReady_146 : sd_cwV Y_D_entry Y_D_requireReady y_D_requireReady 146 0 "SettingsDesk" := ⟨sd_goodV q334 q335 q336 q264 q332, ⟨_, rfl⟩, ⟨rfl, rfl, rfl, rfl⟩, ⟨rfl, by decide, by decide, by decide +kernel⟩, ⟨by decide, by decide⟩⟩
theorem cw_D_entry_D_requireSession_149 : sd_cwV Y_D_entry Y_D_requireSession y_D_requireSession 149 1 "SettingsDesk" := ⟨sd_goodV q337 q338 q339 q264 q333, ⟨_, rfl⟩, ⟨rfl, rfl, rfl, rfl⟩, ⟨rfl, by decide, by decide, by decide +kernel⟩, ⟨by decide, by decide⟩⟩
theorem cw_D_entry_D_requireList_77 : sd_cwV Y_D_entry Y_D_requireList y_D_requireList 77 1 "SettingsDesk" := ⟨sd_goodV q297 q298 q299 q264 q287, ⟨_, rfl⟩, ⟨rfl, rfl, rfl, rfl⟩, ⟨rfl, by decide, by decide, by decide +kernel⟩, ⟨by decide, by decide⟩⟩
theorem cw_D_entry_D_requireBegun_163 : sd_cwV Y_D_entry Y_D_requireBegun y_D_requireBegun 163 1 "SettingsDesk" := ⟨sd_goodV q355 q356 q357 q264 q349, ⟨_, rfl⟩, ⟨rfl, rfl, rfl, rfl⟩, ⟨rfl, by decide, by decide, by decide +kernel⟩, ⟨by decide, by decide⟩⟩
theorem cw_D_entry_S_rowOf_171 : sd_cwV Y_D_entry Y_S_rowOf y_S_rowOf 171 2 "SettingsDesk$Settings" := ⟨sd_goodV q358 q121 q122 q7 q120, ⟨_, rfl⟩, ⟨rfl, rfl, rfl, rfl⟩, ⟨rfl, by decide, by decide, by decide +kernel⟩, ⟨by decide, by decide⟩⟩
theorem cw_D_entry_S_addEntry_186 : sd_cwV Y_D_entry Y_S_addEntry y_S_addEntry 186 2 "SettingsDesk$Settings" := ⟨sd_goodV q359 q103 q104 q7 q102, ⟨_, rfl⟩, ⟨rfl, rfl, rfl, rfl⟩, ⟨rfl, by decide, by decide, by decide +kernel⟩, ⟨by decide, by decide⟩⟩
theorem cw_D_entry_S_removeEntry_175 : sd_cwV Y_D_entry Y_S_removeEntry y_S_removeEntry 175 2 "SettingsDesk$Settings" := ⟨sd_goodV q360 q362 q363 q7 q361, ⟨_, rfl⟩, ⟨rfl, rfl, rfl, rfl⟩, ⟨rfl, by decide, by decide, by decide +kernel⟩, ⟨by decide, by decide⟩⟩
section
variable {l : Launch} {D : va_G} {dA : Nat → ClassId} {b n : Nat} {ad : Nat → Nat} {L : Nat → sdL} {sc : Option (Nat × Nat × (Nat → Int32))}
def k_D_entry_77 (Q : Int32 → sdM → Prop) (X : String → sdM → Prop) (M : sdM) (x2 : Int32) (x3 : Int32) (x4 : Int32) (o5 : Nat) (x6 : Int32) (s0 : Int32) (s1 : Int32) : Prop := (¬ s0 = s1 → (¬ x4 = 0 → vp_in x2 4 ∧ ((M (o5 + 1) x2.toNatClampNeg) < (6 : Int32) → w_S_addEntry o5 M x2 x3 (fun r14 M13 => sdB (1 : Int32) ∧ Q (1 : Int32) M13)) ∧ (¬ (M (o5 + 1) x2.toNatClampNeg) < (6 : Int32) → X "java/lang/UnsupportedOperationException" M)) ∧ (x4 = 0 → w_S_removeEntry o5 M x2 x6 (fun M15 => sdB (1 : Int32) ∧ Q (1 : Int32) M15))) ∧ (s0 = s1 → sdB (0 : Int32) ∧ Q (0 : Int32) M)
set_option maxHeartbeats 1000000 in
theorem t_D_entry_77 (hA : sd_ad b n ad) (hT : l.stackTraces = false) (hD : isD n L dA) {Q : Int32 → sdM → Prop} {X : String → sdM → Prop} (M : sdM) (x2 : Int32) (x3 : Int32) (x4 : Int32) (o5 : Nat) (x6 : Int32) (s0 : Int32) (s1 : Int32) (ho5 : isS n L dA o5) (hw : k_D_entry_77 Q X M x2 x3 x4 o5 x6 s0 s1) : sdW l (sdE0 sc) Y_D_entry D (sd_tys dA) b n ad L ad (sd_H D (sdE0 sc).1 n ad L) (sd_qi Q) X 77 [(2, .int x2), (3, .int x3), (4, .int x4), (5, .ref o5), (6, .int x6)] [.int s1, .int s0] M 1 6 := by
  unfold k_D_entry_77 at hw
  refine x_icmp_ne 82 d_D_entry_77 rfl (fun hc => ?_) (fun hc => ?_)
  · have hw := hw.1 hc
    refine x_iload 4 2 d_D_entry_82 rfl ?_
    refine x_if_ne 97 d_D_entry_84 rfl (fun hc => ?_) (fun hc => ?_)
    · have hw := hw.1 hc
      refine x_aload 5 3 d_D_entry_97 rfl ?_
      refine x_getr 0 (o5 + 1) d_D_entry_99 ho5.1 ho5.2.1 rfl rfl (by decide) lay_S (List.mem_cons_of_mem _ q273) rfl ?_
      refine x_iload_n 2 0 d_D_entry_102 rfl rfl ?_
      obtain ⟨hi12, hw⟩ := hw
      refine x_iald d_D_entry_103 ho5.counts.1 ho5.counts.2 rfl hi12 ?_
      refine x_bipush (v := 6) d_D_entry_104 (by decide) ?_
      refine x_icmp_lt 119 d_D_entry_106 rfl (fun hc => ?_) (fun hc => ?_)
      · have hw := hw.1 hc
        refine x_aload 5 3 d_D_entry_119 rfl ?_
        refine x_iload_n 2 0 d_D_entry_121 rfl rfl ?_
        refine x_iload_n 3 1 d_D_entry_122 rfl rfl ?_
        refine x_callVi (As := [.int x2, .int x3]) (t := o5) (rest := []) (rc := 1) (rs := 6) (c_S_addEntry hA hT ho5 hw) cw_D_entry_S_addEntry_186 ho5.1 ho5.2.1 rfl d_D_entry_123 rfl rfl (Nat.le_of_ble_eq_true rfl) (fun _ _ h => h.elim) (fun _ _ h => h) (fun r14 M13 hw => ?_)
        refine x_pop d_D_entry_126 rfl ?_
        refine x_iconst (v := 1) d_D_entry_127 (by decide) ?_
        exact x_zret d_D_entry_128 rfl (sdB_n hw.1) (fun _ h => h) ⟨_, rfl, hw.2⟩
      · have hw := hw.2 hc
        exact x_throwS (names := sdExN) (is := 183) (ic := 185) (rc := 0) (rs := 0) hT fit_UOE fit_N (sd_goodB q351) (List.mem_cons_of_mem _ q352) (List.mem_cons_of_mem _ q353) (List.mem_cons_of_mem _ q354) (List.mem_of_getElem? (i := 12) rfl) oa_UOE d_D_entry_109 d_D_entry_112 (Or.inl ⟨d_D_entry_113, rfl⟩) d_D_entry_115 d_D_entry_118 (by decide) (Nat.le_of_ble_eq_true rfl) rfl rfl (fun _ _ h => h) hw
    · have hw := hw.2 hc
      refine x_aload 5 3 d_D_entry_87 rfl ?_
      refine x_iload_n 2 0 d_D_entry_89 rfl rfl ?_
      refine x_iload 6 4 d_D_entry_90 rfl ?_
      refine x_callVv (As := [.int x2, .int x6]) (t := o5) (rest := []) (rc := 1) (rs := 6) (c_S_removeEntry hA hT ho5 hw) cw_D_entry_S_removeEntry_175 ho5.1 ho5.2.1 rfl d_D_entry_92 rfl rfl (Nat.le_of_ble_eq_true rfl) (fun _ _ h => h.elim) (fun _ _ h => h) (fun M15 hw => ?_)
      refine x_iconst (v := 1) d_D_entry_95 (by decide) ?_
      exact x_zret d_D_entry_96 rfl (sdB_n hw.1) (fun _ h => h) ⟨_, rfl, hw.2⟩
  · have hw := hw.2 hc
    refine x_iconst (v := 0) d_D_entry_80 (by decide) ?_
    exact x_zret d_D_entry_81 rfl (sdB_n hw.1) (fun _ h => h) ⟨_, rfl, hw.2⟩
def k_D_entry_34 (Q : Int32 → sdM → Prop) (X : String → sdM → Prop) (M : sdM) : Prop := X "java/lang/IllegalArgumentException" M
set_option maxHeartbeats 1000000 in
theorem t_D_entry_34 (hA : sd_ad b n ad) (hT : l.stackTraces = false) (hD : isD n L dA) {Q : Int32 → sdM → Prop} {X : String → sdM → Prop} (M : sdM) (hw : k_D_entry_34 Q X M ) : sdW l (sdE0 sc) Y_D_entry D (sd_tys dA) b n ad L ad (sd_H D (sdE0 sc).1 n ad L) (sd_qi Q) X 34 [] [] M 1 6 := by
  unfold k_D_entry_34 at hw
  exact x_throwS (names := sdExN) (is := 166) (ic := 95) (rc := 0) (rs := 0) hT fit_IAE fit_N (sd_goodB q351) (List.mem_cons_of_mem _ q294) (List.mem_cons_of_mem _ q295) (List.mem_cons_of_mem _ q296) (List.mem_of_getElem? (i := 11) rfl) oa_IAE d_D_entry_34 d_D_entry_37 (Or.inl ⟨d_D_entry_38, rfl⟩) d_D_entry_40 d_D_entry_43 (by decide) (Nat.le_of_ble_eq_true rfl) rfl rfl (fun _ _ h => h) hw
def w_D_entry (M : sdM) (a1 : Int32) (a2 : Int32) (a3 : Int32) (a4 : Int32) (Q : Int32 → sdM → Prop) (X : String → sdM → Prop) : Prop := w_D_requireReady M (fun M16 => w_D_requireSession M16 a1 (fun M17 => w_D_requireList M17 a2 (fun M18 => w_D_requireBegun M18 a1 (fun M19 => (a2 = 0 → k_D_entry_34 Q X M19) ∧ (¬ a2 = 0 → (a3 < (1 : Int32) → k_D_entry_34 Q X M19) ∧ (¬ a3 < (1 : Int32) → (a3 ≤ (100 : Int32) → vp_in a1 3 ∧ w_S_rowOf ((83 + 11 * a1.toNatClampNeg) + 1) M19 a2 a3 (fun r22 M21 => (r22 = (-1 : Int32) → k_D_entry_77 Q X M21 a2 a3 a4 ((83 + 11 * a1.toNatClampNeg) + 1) r22 a4 (0 : Int32)) ∧ (¬ r22 = (-1 : Int32) → k_D_entry_77 Q X M21 a2 a3 a4 ((83 + 11 * a1.toNatClampNeg) + 1) r22 a4 (1 : Int32)))) ∧ (¬ a3 ≤ (100 : Int32) → k_D_entry_34 Q X M19)))) X) X) X) X
set_option maxHeartbeats 1000000 in
theorem c_D_entry {a1 : Int32} {a2 : Int32} {a3 : Int32} {a4 : Int32} (hA : sd_ad b n ad) (hT : l.stackTraces = false) (hD : isD n L dA) {Q : Int32 → sdM → Prop} {X : String → sdM → Prop} {M : sdM} (hw : w_D_entry M a1 a2 a3 a4 Q X) : sd_Cn l (sdE0 sc) y_D_entry Y_D_entry.2.2.2.2.1 Y_D_entry.2.2.2.2.2.1 5 30 D (sd_tys dA) b n ad L M [.ref 0, .int a1, .int a2, .int a3, .int a4] (sd_qi Q) X := by
  refine sd_enter (Y := Y_D_entry) rfl rfl rfl (Nat.le_of_ble_eq_true rfl) ?_
  show sdW l (sdE0 sc) Y_D_entry D (sd_tys dA) b n ad L ad (sd_H D (sdE0 sc).1 n ad L) (sd_qi Q) X 0 [(0, .ref 0), (1, .int a1), (2, .int a2), (3, .int a3), (4, .int a4)] [] M 5 30
  unfold w_D_entry at hw
  refine x_aload_n 0 0 d_D_entry_0 rfl rfl ?_
  refine x_callVv (As := []) (t := 0) (rest := []) (rc := 4) (rs := 24) (c_D_requireReady hA hT hD hw) cw_D_entry_D_requireReady_146 hD.1 hD.2.1 rfl d_D_entry_1 rfl rfl (Nat.le_of_ble_eq_true rfl) (fun _ _ h => h) (fun _ _ h => h) (fun M16 hw => ?_)
  refine x_aload_n 0 0 d_D_entry_4 rfl rfl ?_
  refine x_iload_n 1 1 d_D_entry_5 rfl rfl ?_
  refine x_callVv (As := [.int a1]) (t := 0) (rest := []) (rc := 3) (rs := 18) (c_D_requireSession hA hT hD hw) cw_D_entry_D_requireSession_149 hD.1 hD.2.1 rfl d_D_entry_6 rfl rfl (Nat.le_of_ble_eq_true rfl) (fun _ _ h => h) (fun _ _ h => h) (fun M17 hw => ?_)
  refine x_aload_n 0 0 d_D_entry_9 rfl rfl ?_
  refine x_iload_n 2 2 d_D_entry_10 rfl rfl ?_
  refine x_callVv (As := [.int a2]) (t := 0) (rest := []) (rc := 2) (rs := 12) (c_D_requireList hA hT hD hw) cw_D_entry_D_requireList_77 hD.1 hD.2.1 rfl d_D_entry_11 rfl rfl (Nat.le_of_ble_eq_true rfl) (fun _ _ h => h) (fun _ _ h => h) (fun M18 hw => ?_)
  refine x_aload_n 0 0 d_D_entry_14 rfl rfl ?_
  refine x_iload_n 1 1 d_D_entry_15 rfl rfl ?_
  refine x_callVv (As := [.int a1]) (t := 0) (rest := []) (rc := 1) (rs := 6) (c_D_requireBegun hA hT hD hw) cw_D_entry_D_requireBegun_163 hD.1 hD.2.1 rfl d_D_entry_16 rfl rfl (Nat.le_of_ble_eq_true rfl) (fun _ _ h => h) (fun _ _ h => h) (fun M19 hw => ?_)
  refine x_iload_n 2 2 d_D_entry_19 rfl rfl ?_
  refine x_if_eq 34 d_D_entry_20 rfl (fun hc => ?_) (fun hc => ?_)
  · have hw := hw.1 hc
    refine x_sub [] [] rfl ?_
    exact t_D_entry_34 hA hT hD M19 hw
  · have hw := hw.2 hc
    refine x_iload_n 3 3 d_D_entry_23 rfl rfl ?_
    refine x_iconst (v := 1) d_D_entry_24 (by decide) ?_
    refine x_icmp_lt 34 d_D_entry_25 rfl (fun hc => ?_) (fun hc => ?_)
    · have hw := hw.1 hc
      refine x_sub [] [] rfl ?_
      exact t_D_entry_34 hA hT hD M19 hw
    · have hw := hw.2 hc
      refine x_iload_n 3 3 d_D_entry_28 rfl rfl ?_
      refine x_bipush (v := 100) d_D_entry_29 (by decide) ?_
      refine x_icmp_le 44 d_D_entry_31 rfl (fun hc => ?_) (fun hc => ?_)
      · have hw := hw.1 hc
        refine x_aload_n 0 0 d_D_entry_44 rfl rfl ?_
        refine x_getr 5 41 d_D_entry_45 hD.1 hD.2.1 rfl rfl (by decide) lay_D (List.mem_cons_of_mem _ q258) rfl ?_
        refine x_iload_n 1 1 d_D_entry_48 rfl rfl ?_
        obtain ⟨hi20, hw⟩ := hw
        refine x_aald (83 + 11 * a1.toNatClampNeg) d_D_entry_49 hD.sessions.1 hD.sessions.2 (t0 := 6) rfl hi20 rfl ?_
        refine x_getr 1 ((83 + 11 * a1.toNatClampNeg) + 1) d_D_entry_50 (hD.sessionsAt hi20).1 (hD.sessionsAt hi20).2.1 rfl rfl (by decide) lay_N (List.mem_cons_of_mem _ q350) rfl ?_
        refine x_astore 5 [(5, .ref ((83 + 11 * a1.toNatClampNeg) + 1)), (0, .ref 0), (1, .int a1), (2, .int a2), (3, .int a3), (4, .int a4)] d_D_entry_53 (by decide) rfl ?_
        refine x_aload 5 0 d_D_entry_55 rfl ?_
        refine x_iload_n 2 3 d_D_entry_57 rfl rfl ?_
        refine x_iload_n 3 4 d_D_entry_58 rfl rfl ?_
        refine x_callVi (As := [.int a2, .int a3]) (t := ((83 + 11 * a1.toNatClampNeg) + 1)) (rest := []) (rc := 1) (rs := 6) (c_S_rowOf hA hT (hD.sessionsAt hi20).candidate hw) cw_D_entry_S_rowOf_171 ((hD.sessionsAt hi20).candidate).1 ((hD.sessionsAt hi20).candidate).2.1 rfl d_D_entry_59 rfl rfl (Nat.le_of_ble_eq_true rfl) (fun _ _ h => h.elim) (fun _ _ h => h) (fun r22 M21 hw => ?_)
        refine x_istore 6 [(6, .int r22), (5, .ref ((83 + 11 * a1.toNatClampNeg) + 1)), (0, .ref 0), (1, .int a1), (2, .int a2), (3, .int a3), (4, .int a4)] d_D_entry_62 (by decide) rfl ?_
        refine x_iload 4 6 d_D_entry_64 rfl ?_
        refine x_iload 6 0 d_D_entry_66 rfl ?_
        refine x_iconst (v := (-1)) d_D_entry_68 (by decide) ?_
        refine x_icmp_eq 76 d_D_entry_69 rfl (fun hc => ?_) (fun hc => ?_)
        · have hw := hw.1 hc
          refine x_iconst (v := 0) d_D_entry_76 (by decide) ?_
          refine x_sub [4, 5, 6, 1, 0] [(2, .int a2), (3, .int a3), (4, .int a4), (5, .ref ((83 + 11 * a1.toNatClampNeg) + 1)), (6, .int r22)] rfl ?_
          exact t_D_entry_77 hA hT hD M21 a2 a3 a4 ((83 + 11 * a1.toNatClampNeg) + 1) r22 a4 (0 : Int32) (hD.sessionsAt hi20).candidate hw
        · have hw := hw.2 hc
          refine x_iconst (v := 1) d_D_entry_72 (by decide) ?_
          refine x_goto 77 d_D_entry_73 rfl ?_
          refine x_sub [4, 5, 6, 1, 0] [(2, .int a2), (3, .int a3), (4, .int a4), (5, .ref ((83 + 11 * a1.toNatClampNeg) + 1)), (6, .int r22)] rfl ?_
          exact t_D_entry_77 hA hT hD M21 a2 a3 a4 ((83 + 11 * a1.toNatClampNeg) + 1) r22 a4 (1 : Int32) (hD.sessionsAt hi20).candidate hw
      · have hw := hw.2 hc
        refine x_sub [] [] rfl ?_
        exact t_D_entry_34 hA hT hD M19 hw
end
theorem q364 : (.code ⟨"SettingsDesk", "requireCandidateRow", "(IIII)I"⟩ prog_1_method_28_code 6 (some .int) : Cond) ∈ sdB0 := sd_tb3 164 rfl rfl
abbrev y_D_requireCandidateRow : MethodName := ⟨"SettingsDesk", "requireCandidateRow", "(IIII)I"⟩
theorem d_D_requireCandidateRow_0 : decode prog_1_method_28_code 0 = .ok (.aload_n 0, 1) := by decide +kernel
theorem d_D_requireCandidateRow_1 : decode prog_1_method_28_code 1 = .ok (.invokevirtual 146, 3) := by decide +kernel
theorem d_D_requireCandidateRow_4 : decode prog_1_method_28_code 4 = .ok (.aload_n 0, 1) := by decide +kernel
theorem d_D_requireCandidateRow_5 : decode prog_1_method_28_code 5 = .ok (.iload_n 1, 1) := by decide +kernel
theorem d_D_requireCandidateRow_6 : decode prog_1_method_28_code 6 = .ok (.invokevirtual 149, 3) := by decide +kernel
theorem d_D_requireCandidateRow_9 : decode prog_1_method_28_code 9 = .ok (.aload_n 0, 1) := by decide +kernel
theorem d_D_requireCandidateRow_10 : decode prog_1_method_28_code 10 = .ok (.iload_n 2, 1) := by decide +kernel
theorem d_D_requireCandidateRow_11 : decode prog_1_method_28_code 11 = .ok (.iload 4, 2) := by decide +kernel
theorem d_D_requireCandidateRow_13 : decode prog_1_method_28_code 13 = .ok (.invokevirtual 100, 3) := by decide +kernel
theorem d_D_requireCandidateRow_16 : decode prog_1_method_28_code 16 = .ok (.aload_n 0, 1) := by decide +kernel
theorem d_D_requireCandidateRow_17 : decode prog_1_method_28_code 17 = .ok (.iload_n 1, 1) := by decide +kernel
theorem d_D_requireCandidateRow_18 : decode prog_1_method_28_code 18 = .ok (.invokevirtual 163, 3) := by decide +kernel
theorem d_D_requireCandidateRow_21 : decode prog_1_method_28_code 21 = .ok (.aload_n 0, 1) := by decide +kernel
theorem d_D_requireCandidateRow_22 : decode prog_1_method_28_code 22 = .ok (.getfield 35, 3) := by decide +kernel
theorem d_D_requireCandidateRow_25 : decode prog_1_method_28_code 25 = .ok (.iload_n 1, 1) := by decide +kernel
theorem d_D_requireCandidateRow_26 : decode prog_1_method_28_code 26 = .ok (.aaload, 1) := by decide +kernel
theorem d_D_requireCandidateRow_27 : decode prog_1_method_28_code 27 = .ok (.getfield 168, 3) := by decide +kernel
theorem d_D_requireCandidateRow_30 : decode prog_1_method_28_code 30 = .ok (.iload_n 2, 1) := by decide +kernel
theorem d_D_requireCandidateRow_31 : decode prog_1_method_28_code 31 = .ok (.iload_n 3, 1) := by decide +kernel
theorem d_D_requireCandidateRow_32 : decode prog_1_method_28_code 32 = .ok (.invokevirtual 171, 3) := by decide +kernel
theorem d_D_requireCandidateRow_35 : decode prog_1_method_28_code 35 = .ok (.istore 5, 2) := by decide +kernel
theorem d_D_requireCandidateRow_37 : decode prog_1_method_28_code 37 = .ok (.iload 5, 2) := by decide +kernel
theorem d_D_requireCandidateRow_39 : decode prog_1_method_28_code 39 = .ok (.iconst (-1), 1) := by decide +kernel
theorem d_D_requireCandidateRow_40 : decode prog_1_method_28_code 40 = .ok (.if_icmp .ne (14), 3) := by decide +kernel
theorem d_D_requireCandidateRow_43 : decode prog_1_method_28_code 43 = .ok (.new 70, 3) := by decide +kernel
theorem d_D_requireCandidateRow_46 : decode prog_1_method_28_code 46 = .ok (.dup, 1) := by decide +kernel
theorem d_D_requireCandidateRow_47 : decode prog_1_method_28_code 47 = .ok (.ldc_w 310, 3) := by decide +kernel
theorem d_D_requireCandidateRow_50 : decode prog_1_method_28_code 50 = .ok (.invokespecial 74, 3) := by decide +kernel
theorem d_D_requireCandidateRow_53 : decode prog_1_method_28_code 53 = .ok (.athrow, 1) := by decide +kernel
theorem d_D_requireCandidateRow_54 : decode prog_1_method_28_code 54 = .ok (.iload 5, 2) := by decide +kernel
theorem d_D_requireCandidateRow_56 : decode prog_1_method_28_code 56 = .ok (.ireturn, 1) := by decide +kernel
def Y_D_requireCandidateRow : sdY := ("SettingsDesk", prog_1_method_28_code, 6, (some .int), .code y_D_requireCandidateRow prog_1_method_28_code 6 (some .int) :: sdB0, { frames := 7, cells := 5, slots := 30, locals := 104 }, 5, 30)
theorem cw_D_requireCandidateRow_D_requireReady_146 : sd_cwV Y_D_requireCandidateRow Y_D_requireReady y_D_requireReady 146 0 "SettingsDesk" := ⟨sd_goodV q334 q335 q336 q264 q332, ⟨_, rfl⟩, ⟨rfl, rfl, rfl, rfl⟩, ⟨rfl, by decide, by decide, by decide +kernel⟩, ⟨by decide, by decide⟩⟩
theorem cw_D_requireCandidateRow_D_requireSession_149 : sd_cwV Y_D_requireCandidateRow Y_D_requireSession y_D_requireSession 149 1 "SettingsDesk" := ⟨sd_goodV q337 q338 q339 q264 q333, ⟨_, rfl⟩, ⟨rfl, rfl, rfl, rfl⟩, ⟨rfl, by decide, by decide, by decide +kernel⟩, ⟨by decide, by decide⟩⟩
theorem cw_D_requireCandidateRow_D_requireLeaf_100 : sd_cwV Y_D_requireCandidateRow Y_D_requireLeaf y_D_requireLeaf 100 2 "SettingsDesk" := ⟨sd_goodV q317 q318 q319 q264 q308, ⟨_, rfl⟩, ⟨rfl, rfl, rfl, rfl⟩, ⟨rfl, by decide, by decide, by decide +kernel⟩, ⟨by decide, by decide⟩⟩
theorem cw_D_requireCandidateRow_D_requireBegun_163 : sd_cwV Y_D_requireCandidateRow Y_D_requireBegun y_D_requireBegun 163 1 "SettingsDesk" := ⟨sd_goodV q355 q356 q357 q264 q349, ⟨_, rfl⟩, ⟨rfl, rfl, rfl, rfl⟩, ⟨rfl, by decide, by decide, by decide +kernel⟩, ⟨by decide, by decide⟩⟩
theorem cw_D_requireCandidateRow_S_rowOf_171 : sd_cwV Y_D_requireCandidateRow Y_S_rowOf y_S_rowOf 171 2 "SettingsDesk$Settings" := ⟨sd_goodV q358 q121 q122 q7 q120, ⟨_, rfl⟩, ⟨rfl, rfl, rfl, rfl⟩, ⟨rfl, by decide, by decide, by decide +kernel⟩, ⟨by decide, by decide⟩⟩
section
variable {l : Launch} {D : va_G} {dA : Nat → ClassId} {b n : Nat} {ad : Nat → Nat} {L : Nat → sdL} {sc : Option (Nat × Nat × (Nat → Int32))}
def w_D_requireCandidateRow (M : sdM) (a1 : Int32) (a2 : Int32) (a3 : Int32) (a4 : Int32) (Q : Int32 → sdM → Prop) (X : String → sdM → Prop) : Prop := w_D_requireReady M (fun M8 => w_D_requireSession M8 a1 (fun M9 => w_D_requireLeaf M9 a2 a4 (fun M10 => w_D_requireBegun M10 a1 (fun M11 => vp_in a1 3 ∧ w_S_rowOf ((83 + 11 * a1.toNatClampNeg) + 1) M11 a2 a3 (fun r14 M13 => (¬ r14 = (-1 : Int32) → Q r14 M13) ∧ (r14 = (-1 : Int32) → X "java/lang/IllegalStateException" M13))) X) X) X) X
set_option maxHeartbeats 1000000 in
theorem c_D_requireCandidateRow {a1 : Int32} {a2 : Int32} {a3 : Int32} {a4 : Int32} (hA : sd_ad b n ad) (hT : l.stackTraces = false) (hD : isD n L dA) {Q : Int32 → sdM → Prop} {X : String → sdM → Prop} {M : sdM} (hw : w_D_requireCandidateRow M a1 a2 a3 a4 Q X) : sd_Cn l (sdE0 sc) y_D_requireCandidateRow Y_D_requireCandidateRow.2.2.2.2.1 Y_D_requireCandidateRow.2.2.2.2.2.1 5 30 D (sd_tys dA) b n ad L M [.ref 0, .int a1, .int a2, .int a3, .int a4] (sd_qi Q) X := by
  refine sd_enter (Y := Y_D_requireCandidateRow) rfl rfl rfl (Nat.le_of_ble_eq_true rfl) ?_
  show sdW l (sdE0 sc) Y_D_requireCandidateRow D (sd_tys dA) b n ad L ad (sd_H D (sdE0 sc).1 n ad L) (sd_qi Q) X 0 [(0, .ref 0), (1, .int a1), (2, .int a2), (3, .int a3), (4, .int a4)] [] M 5 30
  unfold w_D_requireCandidateRow at hw
  refine x_aload_n 0 0 d_D_requireCandidateRow_0 rfl rfl ?_
  refine x_callVv (As := []) (t := 0) (rest := []) (rc := 4) (rs := 24) (c_D_requireReady hA hT hD hw) cw_D_requireCandidateRow_D_requireReady_146 hD.1 hD.2.1 rfl d_D_requireCandidateRow_1 rfl rfl (Nat.le_of_ble_eq_true rfl) (fun _ _ h => h) (fun _ _ h => h) (fun M8 hw => ?_)
  refine x_aload_n 0 0 d_D_requireCandidateRow_4 rfl rfl ?_
  refine x_iload_n 1 1 d_D_requireCandidateRow_5 rfl rfl ?_
  refine x_callVv (As := [.int a1]) (t := 0) (rest := []) (rc := 3) (rs := 18) (c_D_requireSession hA hT hD hw) cw_D_requireCandidateRow_D_requireSession_149 hD.1 hD.2.1 rfl d_D_requireCandidateRow_6 rfl rfl (Nat.le_of_ble_eq_true rfl) (fun _ _ h => h) (fun _ _ h => h) (fun M9 hw => ?_)
  refine x_aload_n 0 0 d_D_requireCandidateRow_9 rfl rfl ?_
  refine x_iload_n 2 2 d_D_requireCandidateRow_10 rfl rfl ?_
  refine x_iload 4 4 d_D_requireCandidateRow_11 rfl ?_
  refine x_callVv (As := [.int a2, .int a4]) (t := 0) (rest := []) (rc := 2) (rs := 12) (c_D_requireLeaf hA hT hD hw) cw_D_requireCandidateRow_D_requireLeaf_100 hD.1 hD.2.1 rfl d_D_requireCandidateRow_13 rfl rfl (Nat.le_of_ble_eq_true rfl) (fun _ _ h => h) (fun _ _ h => h) (fun M10 hw => ?_)
  refine x_aload_n 0 0 d_D_requireCandidateRow_16 rfl rfl ?_
  refine x_iload_n 1 1 d_D_requireCandidateRow_17 rfl rfl ?_
  refine x_callVv (As := [.int a1]) (t := 0) (rest := []) (rc := 1) (rs := 6) (c_D_requireBegun hA hT hD hw) cw_D_requireCandidateRow_D_requireBegun_163 hD.1 hD.2.1 rfl d_D_requireCandidateRow_18 rfl rfl (Nat.le_of_ble_eq_true rfl) (fun _ _ h => h) (fun _ _ h => h) (fun M11 hw => ?_)
  refine x_aload_n 0 0 d_D_requireCandidateRow_21 rfl rfl ?_
  refine x_getr 5 41 d_D_requireCandidateRow_22 hD.1 hD.2.1 rfl rfl (by decide) lay_D (List.mem_cons_of_mem _ q258) rfl ?_
  refine x_iload_n 1 1 d_D_requireCandidateRow_25 rfl rfl ?_
  obtain ⟨hi12, hw⟩ := hw
  refine x_aald (83 + 11 * a1.toNatClampNeg) d_D_requireCandidateRow_26 hD.sessions.1 hD.sessions.2 (t0 := 6) rfl hi12 rfl ?_
  refine x_getr 1 ((83 + 11 * a1.toNatClampNeg) + 1) d_D_requireCandidateRow_27 (hD.sessionsAt hi12).1 (hD.sessionsAt hi12).2.1 rfl rfl (by decide) lay_N (List.mem_cons_of_mem _ q350) rfl ?_
  refine x_iload_n 2 2 d_D_requireCandidateRow_30 rfl rfl ?_
  refine x_iload_n 3 3 d_D_requireCandidateRow_31 rfl rfl ?_
  refine x_callVi (As := [.int a2, .int a3]) (t := ((83 + 11 * a1.toNatClampNeg) + 1)) (rest := []) (rc := 1) (rs := 6) (c_S_rowOf hA hT (hD.sessionsAt hi12).candidate hw) cw_D_requireCandidateRow_S_rowOf_171 ((hD.sessionsAt hi12).candidate).1 ((hD.sessionsAt hi12).candidate).2.1 rfl d_D_requireCandidateRow_32 rfl rfl (Nat.le_of_ble_eq_true rfl) (fun _ _ h => h.elim) (fun _ _ h => h) (fun r14 M13 hw => ?_)
  refine x_istore 5 [(5, .int r14), (0, .ref 0), (1, .int a1), (2, .int a2), (3, .int a3), (4, .int a4)] d_D_requireCandidateRow_35 (by decide) rfl ?_
  refine x_iload 5 0 d_D_requireCandidateRow_37 rfl ?_
  refine x_iconst (v := (-1)) d_D_requireCandidateRow_39 (by decide) ?_
  refine x_icmp_ne 54 d_D_requireCandidateRow_40 rfl (fun hc => ?_) (fun hc => ?_)
  · have hw := hw.1 hc
    refine x_iload 5 0 d_D_requireCandidateRow_54 rfl ?_
    exact x_iret d_D_requireCandidateRow_56 rfl (fun _ h => h) ⟨_, rfl, hw⟩
  · have hw := hw.2 hc
    exact x_throwS (names := sdExN) (is := 310) (ic := 74) (rc := 0) (rs := 0) hT fit_ISE fit_N (sd_goodB q364) (List.mem_cons_of_mem _ q280) (List.mem_cons_of_mem _ q281) (List.mem_cons_of_mem _ q282) (List.mem_of_getElem? (i := 13) rfl) oa_ISE d_D_requireCandidateRow_43 d_D_requireCandidateRow_46 (Or.inr ⟨d_D_requireCandidateRow_47, rfl⟩) d_D_requireCandidateRow_50 d_D_requireCandidateRow_53 (by decide) (Nat.le_of_ble_eq_true rfl) rfl rfl (fun _ _ h => h) hw
end
theorem q365 : (.code ⟨"SettingsDesk", "set", "(IIIII)V"⟩ prog_1_method_9_code 7 none : Cond) ∈ sdB0 := sd_tb3 160 rfl rfl
theorem q366 : (.methodLink "SettingsDesk" 189 ⟨"SettingsDesk", "requireCandidateRow", "(IIII)I"⟩ : Cond) ∈ sdB0 := sd_tb3 161 rfl rfl
theorem q367 : (.instanceMethod ⟨"SettingsDesk", "requireCandidateRow", "(IIII)I"⟩ : Cond) ∈ sdB0 := sd_tb3 163 rfl rfl
theorem q368 : (.selects "SettingsDesk" ⟨"SettingsDesk", "requireCandidateRow", "(IIII)I"⟩ ⟨"SettingsDesk", "requireCandidateRow", "(IIII)I"⟩ : Cond) ∈ sdB0 := sd_tbp (q := (⟨"SettingsDesk", "requireCandidateRow", "(IIII)I"⟩, 12)) (List.mem_of_getElem? (i := 10) rfl)
theorem q369 : (.methodLink "SettingsDesk" 195 ⟨"SettingsDesk$Settings", "give", "(III)V"⟩ : Cond) ∈ sdB0 := sd_tb3 167 rfl rfl
abbrev y_D_set : MethodName := ⟨"SettingsDesk", "set", "(IIIII)V"⟩
theorem d_D_set_0 : decode prog_1_method_9_code 0 = .ok (.aload_n 0, 1) := by decide +kernel
theorem d_D_set_1 : decode prog_1_method_9_code 1 = .ok (.iload_n 1, 1) := by decide +kernel
theorem d_D_set_2 : decode prog_1_method_9_code 2 = .ok (.iload_n 2, 1) := by decide +kernel
theorem d_D_set_3 : decode prog_1_method_9_code 3 = .ok (.iload_n 3, 1) := by decide +kernel
theorem d_D_set_4 : decode prog_1_method_9_code 4 = .ok (.iload 4, 2) := by decide +kernel
theorem d_D_set_6 : decode prog_1_method_9_code 6 = .ok (.invokevirtual 189, 3) := by decide +kernel
theorem d_D_set_9 : decode prog_1_method_9_code 9 = .ok (.istore 6, 2) := by decide +kernel
theorem d_D_set_11 : decode prog_1_method_9_code 11 = .ok (.aload_n 0, 1) := by decide +kernel
theorem d_D_set_12 : decode prog_1_method_9_code 12 = .ok (.getfield 12, 3) := by decide +kernel
theorem d_D_set_15 : decode prog_1_method_9_code 15 = .ok (.iload_n 2, 1) := by decide +kernel
theorem d_D_set_16 : decode prog_1_method_9_code 16 = .ok (.iload 4, 2) := by decide +kernel
theorem d_D_set_18 : decode prog_1_method_9_code 18 = .ok (.invokevirtual 104, 3) := by decide +kernel
theorem d_D_set_21 : decode prog_1_method_9_code 21 = .ok (.iload 5, 2) := by decide +kernel
theorem d_D_set_23 : decode prog_1_method_9_code 23 = .ok (.invokevirtual 113, 3) := by decide +kernel
theorem d_D_set_26 : decode prog_1_method_9_code 26 = .ok (.ifCond .ne (13), 3) := by decide +kernel
theorem d_D_set_29 : decode prog_1_method_9_code 29 = .ok (.new 91, 3) := by decide +kernel
theorem d_D_set_32 : decode prog_1_method_9_code 32 = .ok (.dup, 1) := by decide +kernel
theorem d_D_set_33 : decode prog_1_method_9_code 33 = .ok (.ldc 193, 2) := by decide +kernel
theorem d_D_set_35 : decode prog_1_method_9_code 35 = .ok (.invokespecial 95, 3) := by decide +kernel
theorem d_D_set_38 : decode prog_1_method_9_code 38 = .ok (.athrow, 1) := by decide +kernel
theorem d_D_set_39 : decode prog_1_method_9_code 39 = .ok (.aload_n 0, 1) := by decide +kernel
theorem d_D_set_40 : decode prog_1_method_9_code 40 = .ok (.getfield 35, 3) := by decide +kernel
theorem d_D_set_43 : decode prog_1_method_9_code 43 = .ok (.iload_n 1, 1) := by decide +kernel
theorem d_D_set_44 : decode prog_1_method_9_code 44 = .ok (.aaload, 1) := by decide +kernel
theorem d_D_set_45 : decode prog_1_method_9_code 45 = .ok (.getfield 168, 3) := by decide +kernel
theorem d_D_set_48 : decode prog_1_method_9_code 48 = .ok (.iload 6, 2) := by decide +kernel
theorem d_D_set_50 : decode prog_1_method_9_code 50 = .ok (.iload 4, 2) := by decide +kernel
theorem d_D_set_52 : decode prog_1_method_9_code 52 = .ok (.iload 5, 2) := by decide +kernel
theorem d_D_set_54 : decode prog_1_method_9_code 54 = .ok (.invokevirtual 195, 3) := by decide +kernel
theorem d_D_set_57 : decode prog_1_method_9_code 57 = .ok (.return_, 1) := by decide +kernel
def Y_D_set : sdY := ("SettingsDesk", prog_1_method_9_code, 7, none, .code y_D_set prog_1_method_9_code 7 none :: sdB0, { frames := 8, cells := 6, slots := 36, locals := 129 }, 6, 36)
theorem cw_D_set_D_requireCandidateRow_189 : sd_cwV Y_D_set Y_D_requireCandidateRow y_D_requireCandidateRow 189 4 "SettingsDesk" := ⟨sd_goodV q366 q367 q368 q264 q364, ⟨_, rfl⟩, ⟨rfl, rfl, rfl, rfl⟩, ⟨rfl, by decide, by decide, by decide +kernel⟩, ⟨by decide, by decide⟩⟩
theorem cw_D_set_C_leafAt_104 : sd_cwV Y_D_set Y_C_leafAt y_C_leafAt 104 2 "SettingsDesk$Schema" := ⟨sd_goodV q320 q78 q79 q68 q77, ⟨_, rfl⟩, ⟨rfl, rfl, rfl, rfl⟩, ⟨rfl, by decide, by decide, by decide +kernel⟩, ⟨by decide, by decide⟩⟩
theorem cw_D_set_F_takes_113 : sd_cwV Y_D_set Y_F_takes y_F_takes 113 1 "SettingsDesk$Leaf" := ⟨sd_goodV q321 q323 q324 q325 q322, ⟨_, rfl⟩, ⟨rfl, rfl, rfl, rfl⟩, ⟨rfl, by decide, by decide, by decide +kernel⟩, ⟨by decide, by decide⟩⟩
theorem cw_D_set_S_give_195 : sd_cwV Y_D_set Y_S_give y_S_give 195 3 "SettingsDesk$Settings" := ⟨sd_goodV q369 q61 q62 q7 q60, ⟨_, rfl⟩, ⟨rfl, rfl, rfl, rfl⟩, ⟨rfl, by decide, by decide, by decide +kernel⟩, ⟨by decide, by decide⟩⟩
section
variable {l : Launch} {D : va_G} {dA : Nat → ClassId} {b n : Nat} {ad : Nat → Nat} {L : Nat → sdL} {sc : Option (Nat × Nat × (Nat → Int32))}
def w_D_set (M : sdM) (a1 : Int32) (a2 : Int32) (a3 : Int32) (a4 : Int32) (a5 : Int32) (Q : sdM → Prop) (X : String → sdM → Prop) : Prop := w_D_requireCandidateRow M a1 a2 a3 a4 (fun r11 M10 => w_C_leafAt M10 a2 a4 (fun t13 M12 => w_F_takes t13 M12 a5 (fun r16 M15 => (¬ r16 = 0 → vp_in a1 3 ∧ w_S_give ((83 + 11 * a1.toNatClampNeg) + 1) M15 r11 a4 a5 (fun M18 => Q M18)) ∧ (r16 = 0 → X "java/lang/IllegalArgumentException" M15)))) X
set_option maxHeartbeats 1000000 in
theorem c_D_set {a1 : Int32} {a2 : Int32} {a3 : Int32} {a4 : Int32} {a5 : Int32} (hA : sd_ad b n ad) (hT : l.stackTraces = false) (hD : isD n L dA) {Q : sdM → Prop} {X : String → sdM → Prop} {M : sdM} (hw : w_D_set M a1 a2 a3 a4 a5 Q X) : sd_Cn l (sdE0 sc) y_D_set Y_D_set.2.2.2.2.1 Y_D_set.2.2.2.2.2.1 6 36 D (sd_tys dA) b n ad L M [.ref 0, .int a1, .int a2, .int a3, .int a4, .int a5] (sd_qv Q) X := by
  refine sd_enter (Y := Y_D_set) rfl rfl rfl (Nat.le_of_ble_eq_true rfl) ?_
  show sdW l (sdE0 sc) Y_D_set D (sd_tys dA) b n ad L ad (sd_H D (sdE0 sc).1 n ad L) (sd_qv Q) X 0 [(0, .ref 0), (1, .int a1), (2, .int a2), (3, .int a3), (4, .int a4), (5, .int a5)] [] M 6 36
  unfold w_D_set at hw
  refine x_aload_n 0 0 d_D_set_0 rfl rfl ?_
  refine x_iload_n 1 1 d_D_set_1 rfl rfl ?_
  refine x_iload_n 2 2 d_D_set_2 rfl rfl ?_
  refine x_iload_n 3 3 d_D_set_3 rfl rfl ?_
  refine x_iload 4 4 d_D_set_4 rfl ?_
  refine x_callVi (As := [.int a1, .int a2, .int a3, .int a4]) (t := 0) (rest := []) (rc := 1) (rs := 6) (c_D_requireCandidateRow hA hT hD hw) cw_D_set_D_requireCandidateRow_189 hD.1 hD.2.1 rfl d_D_set_6 rfl rfl (Nat.le_of_ble_eq_true rfl) (fun _ _ h => h) (fun _ _ h => h) (fun r11 M10 hw => ?_)
  refine x_istore 6 [(6, .int r11), (0, .ref 0), (1, .int a1), (2, .int a2), (3, .int a3), (4, .int a4), (5, .int a5)] d_D_set_9 (by decide) rfl ?_
  refine x_aload_n 0 1 d_D_set_11 rfl rfl ?_
  refine x_getr 0 1 d_D_set_12 hD.1 hD.2.1 rfl rfl (by decide) lay_D (List.mem_cons_of_mem _ q271) rfl ?_
  refine x_iload_n 2 3 d_D_set_15 rfl rfl ?_
  refine x_iload 4 5 d_D_set_16 rfl ?_
  refine x_callVr (As := [.int a2, .int a4]) (t := 1) (rest := []) (rc := 1) (rs := 6) (c_C_leafAt hA hT hD.schema hw) cw_D_set_C_leafAt_104 hD.schema.1 hD.schema.2.1 rfl d_D_set_18 rfl rfl (Nat.le_of_ble_eq_true rfl) (fun _ _ h => h.elim) (fun _ _ h => h) (fun t13 M12 ht14 hw => ?_)
  refine x_iload 5 6 d_D_set_21 rfl ?_
  refine x_callVi (As := [.int a5]) (t := t13) (rest := []) (rc := 1) (rs := 6) (c_F_takes hA hT ht14 hw) cw_D_set_F_takes_113 ht14.1 ht14.2 rfl d_D_set_23 rfl rfl (Nat.le_of_ble_eq_true rfl) (fun _ _ h => h.elim) (fun _ _ h => h) (fun r16 M15 hw => ?_)
  refine x_if_ne 39 d_D_set_26 rfl (fun hc => ?_) (fun hc => ?_)
  · have hw := hw.1 hc
    refine x_aload_n 0 1 d_D_set_39 rfl rfl ?_
    refine x_getr 5 41 d_D_set_40 hD.1 hD.2.1 rfl rfl (by decide) lay_D (List.mem_cons_of_mem _ q258) rfl ?_
    refine x_iload_n 1 2 d_D_set_43 rfl rfl ?_
    obtain ⟨hi17, hw⟩ := hw
    refine x_aald (83 + 11 * a1.toNatClampNeg) d_D_set_44 hD.sessions.1 hD.sessions.2 (t0 := 6) rfl hi17 rfl ?_
    refine x_getr 1 ((83 + 11 * a1.toNatClampNeg) + 1) d_D_set_45 (hD.sessionsAt hi17).1 (hD.sessionsAt hi17).2.1 rfl rfl (by decide) lay_N (List.mem_cons_of_mem _ q350) rfl ?_
    refine x_iload 6 0 d_D_set_48 rfl ?_
    refine x_iload 4 5 d_D_set_50 rfl ?_
    refine x_iload 5 6 d_D_set_52 rfl ?_
    refine x_callVv (As := [.int r11, .int a4, .int a5]) (t := ((83 + 11 * a1.toNatClampNeg) + 1)) (rest := []) (rc := 1) (rs := 6) (c_S_give hA hT (hD.sessionsAt hi17).candidate hw) cw_D_set_S_give_195 ((hD.sessionsAt hi17).candidate).1 ((hD.sessionsAt hi17).candidate).2.1 rfl d_D_set_54 rfl rfl (Nat.le_of_ble_eq_true rfl) (fun _ _ h => h.elim) (fun _ _ h => h) (fun M18 hw => ?_)
    exact x_vret d_D_set_57 rfl (fun _ h => h) ⟨rfl, hw⟩
  · have hw := hw.2 hc
    exact x_throwS (names := sdExN) (is := 193) (ic := 95) (rc := 0) (rs := 0) hT fit_IAE fit_N (sd_goodB q365) (List.mem_cons_of_mem _ q294) (List.mem_cons_of_mem _ q295) (List.mem_cons_of_mem _ q296) (List.mem_of_getElem? (i := 14) rfl) oa_IAE d_D_set_29 d_D_set_32 (Or.inl ⟨d_D_set_33, rfl⟩) d_D_set_35 d_D_set_38 (by decide) (Nat.le_of_ble_eq_true rfl) rfl rfl (fun _ _ h => h) hw
end
theorem q370 : (.methodLink "SettingsDesk" 199 ⟨"SettingsDesk$Settings", "isGiven", "(II)Z"⟩ : Cond) ∈ sdB0 := sd_tb3 178 rfl rfl
theorem q371 : (.methodLink "SettingsDesk" 203 ⟨"SettingsDesk$Settings", "drop", "(II)V"⟩ : Cond) ∈ sdB0 := sd_tb3 179 rfl rfl
abbrev y_D_unset : MethodName := ⟨"SettingsDesk", "unset", "(IIII)Z"⟩
theorem d_D_unset_0 : decode prog_1_method_10_code 0 = .ok (.aload_n 0, 1) := by decide +kernel
theorem d_D_unset_1 : decode prog_1_method_10_code 1 = .ok (.iload_n 1, 1) := by decide +kernel
theorem d_D_unset_2 : decode prog_1_method_10_code 2 = .ok (.iload_n 2, 1) := by decide +kernel
theorem d_D_unset_3 : decode prog_1_method_10_code 3 = .ok (.iload_n 3, 1) := by decide +kernel
theorem d_D_unset_4 : decode prog_1_method_10_code 4 = .ok (.iload 4, 2) := by decide +kernel
theorem d_D_unset_6 : decode prog_1_method_10_code 6 = .ok (.invokevirtual 189, 3) := by decide +kernel
theorem d_D_unset_9 : decode prog_1_method_10_code 9 = .ok (.istore 5, 2) := by decide +kernel
theorem d_D_unset_11 : decode prog_1_method_10_code 11 = .ok (.aload_n 0, 1) := by decide +kernel
theorem d_D_unset_12 : decode prog_1_method_10_code 12 = .ok (.getfield 35, 3) := by decide +kernel
theorem d_D_unset_15 : decode prog_1_method_10_code 15 = .ok (.iload_n 1, 1) := by decide +kernel
theorem d_D_unset_16 : decode prog_1_method_10_code 16 = .ok (.aaload, 1) := by decide +kernel
theorem d_D_unset_17 : decode prog_1_method_10_code 17 = .ok (.getfield 168, 3) := by decide +kernel
theorem d_D_unset_20 : decode prog_1_method_10_code 20 = .ok (.astore 6, 2) := by decide +kernel
theorem d_D_unset_22 : decode prog_1_method_10_code 22 = .ok (.aload 6, 2) := by decide +kernel
theorem d_D_unset_24 : decode prog_1_method_10_code 24 = .ok (.iload 5, 2) := by decide +kernel
theorem d_D_unset_26 : decode prog_1_method_10_code 26 = .ok (.iload 4, 2) := by decide +kernel
theorem d_D_unset_28 : decode prog_1_method_10_code 28 = .ok (.invokevirtual 199, 3) := by decide +kernel
theorem d_D_unset_31 : decode prog_1_method_10_code 31 = .ok (.istore 7, 2) := by decide +kernel
theorem d_D_unset_33 : decode prog_1_method_10_code 33 = .ok (.aload 6, 2) := by decide +kernel
theorem d_D_unset_35 : decode prog_1_method_10_code 35 = .ok (.iload 5, 2) := by decide +kernel
theorem d_D_unset_37 : decode prog_1_method_10_code 37 = .ok (.iload 4, 2) := by decide +kernel
theorem d_D_unset_39 : decode prog_1_method_10_code 39 = .ok (.invokevirtual 203, 3) := by decide +kernel
theorem d_D_unset_42 : decode prog_1_method_10_code 42 = .ok (.iload 7, 2) := by decide +kernel
theorem d_D_unset_44 : decode prog_1_method_10_code 44 = .ok (.ireturn, 1) := by decide +kernel
def Y_D_unset : sdY := ("SettingsDesk", prog_1_method_10_code, 8, (some .boolean), .code y_D_unset prog_1_method_10_code 8 (some .boolean) :: sdB0, { frames := 8, cells := 5, slots := 30, locals := 129 }, 5, 30)
theorem cw_D_unset_D_requireCandidateRow_189 : sd_cwV Y_D_unset Y_D_requireCandidateRow y_D_requireCandidateRow 189 4 "SettingsDesk" := ⟨sd_goodV q366 q367 q368 q264 q364, ⟨_, rfl⟩, ⟨rfl, rfl, rfl, rfl⟩, ⟨rfl, by decide, by decide, by decide +kernel⟩, ⟨by decide, by decide⟩⟩
theorem cw_D_unset_S_isGiven_199 : sd_cwV Y_D_unset Y_S_isGiven y_S_isGiven 199 2 "SettingsDesk$Settings" := ⟨sd_goodV q370 q5 q6 q7 q4, ⟨_, rfl⟩, ⟨rfl, rfl, rfl, rfl⟩, ⟨rfl, by decide, by decide, by decide +kernel⟩, ⟨by decide, by decide⟩⟩
theorem cw_D_unset_S_drop_203 : sd_cwV Y_D_unset Y_S_drop y_S_drop 203 2 "SettingsDesk$Settings" := ⟨sd_goodV q371 q45 q46 q7 q44, ⟨_, rfl⟩, ⟨rfl, rfl, rfl, rfl⟩, ⟨rfl, by decide, by decide, by decide +kernel⟩, ⟨by decide, by decide⟩⟩
section
variable {l : Launch} {D : va_G} {dA : Nat → ClassId} {b n : Nat} {ad : Nat → Nat} {L : Nat → sdL} {sc : Option (Nat × Nat × (Nat → Int32))}
def w_D_unset (M : sdM) (a1 : Int32) (a2 : Int32) (a3 : Int32) (a4 : Int32) (Q : Int32 → sdM → Prop) (X : String → sdM → Prop) : Prop := w_D_requireCandidateRow M a1 a2 a3 a4 (fun r8 M7 => vp_in a1 3 ∧ w_S_isGiven ((83 + 11 * a1.toNatClampNeg) + 1) M7 r8 a4 (fun r11 M10 => w_S_drop ((83 + 11 * a1.toNatClampNeg) + 1) M10 r8 a4 (fun M12 => sdB r11 ∧ Q r11 M12))) X
set_option maxHeartbeats 1000000 in
theorem c_D_unset {a1 : Int32} {a2 : Int32} {a3 : Int32} {a4 : Int32} (hA : sd_ad b n ad) (hT : l.stackTraces = false) (hD : isD n L dA) {Q : Int32 → sdM → Prop} {X : String → sdM → Prop} {M : sdM} (hw : w_D_unset M a1 a2 a3 a4 Q X) : sd_Cn l (sdE0 sc) y_D_unset Y_D_unset.2.2.2.2.1 Y_D_unset.2.2.2.2.2.1 5 30 D (sd_tys dA) b n ad L M [.ref 0, .int a1, .int a2, .int a3, .int a4] (sd_qi Q) X := by
  refine sd_enter (Y := Y_D_unset) rfl rfl rfl (Nat.le_of_ble_eq_true rfl) ?_
  show sdW l (sdE0 sc) Y_D_unset D (sd_tys dA) b n ad L ad (sd_H D (sdE0 sc).1 n ad L) (sd_qi Q) X 0 [(0, .ref 0), (1, .int a1), (2, .int a2), (3, .int a3), (4, .int a4)] [] M 5 30
  unfold w_D_unset at hw
  refine x_aload_n 0 0 d_D_unset_0 rfl rfl ?_
  refine x_iload_n 1 1 d_D_unset_1 rfl rfl ?_
  refine x_iload_n 2 2 d_D_unset_2 rfl rfl ?_
  refine x_iload_n 3 3 d_D_unset_3 rfl rfl ?_
  refine x_iload 4 4 d_D_unset_4 rfl ?_
  refine x_callVi (As := [.int a1, .int a2, .int a3, .int a4]) (t := 0) (rest := []) (rc := 0) (rs := 0) (c_D_requireCandidateRow hA hT hD hw) cw_D_unset_D_requireCandidateRow_189 hD.1 hD.2.1 rfl d_D_unset_6 rfl rfl (Nat.le_of_ble_eq_true rfl) (fun _ _ h => h) (fun _ _ h => h) (fun r8 M7 hw => ?_)
  refine x_istore 5 [(5, .int r8), (0, .ref 0), (1, .int a1), (2, .int a2), (3, .int a3), (4, .int a4)] d_D_unset_9 (by decide) rfl ?_
  refine x_aload_n 0 1 d_D_unset_11 rfl rfl ?_
  refine x_getr 5 41 d_D_unset_12 hD.1 hD.2.1 rfl rfl (by decide) lay_D (List.mem_cons_of_mem _ q258) rfl ?_
  refine x_iload_n 1 2 d_D_unset_15 rfl rfl ?_
  obtain ⟨hi9, hw⟩ := hw
  refine x_aald (83 + 11 * a1.toNatClampNeg) d_D_unset_16 hD.sessions.1 hD.sessions.2 (t0 := 6) rfl hi9 rfl ?_
  refine x_getr 1 ((83 + 11 * a1.toNatClampNeg) + 1) d_D_unset_17 (hD.sessionsAt hi9).1 (hD.sessionsAt hi9).2.1 rfl rfl (by decide) lay_N (List.mem_cons_of_mem _ q350) rfl ?_
  refine x_astore 6 [(6, .ref ((83 + 11 * a1.toNatClampNeg) + 1)), (5, .int r8), (0, .ref 0), (1, .int a1), (2, .int a2), (3, .int a3), (4, .int a4)] d_D_unset_20 (by decide) rfl ?_
  refine x_aload 6 0 d_D_unset_22 rfl ?_
  refine x_iload 5 1 d_D_unset_24 rfl ?_
  refine x_iload 4 6 d_D_unset_26 rfl ?_
  refine x_callVi (As := [.int r8, .int a4]) (t := ((83 + 11 * a1.toNatClampNeg) + 1)) (rest := []) (rc := 0) (rs := 0) (c_S_isGiven hA hT (hD.sessionsAt hi9).candidate hw) cw_D_unset_S_isGiven_199 ((hD.sessionsAt hi9).candidate).1 ((hD.sessionsAt hi9).candidate).2.1 rfl d_D_unset_28 rfl rfl (Nat.le_of_ble_eq_true rfl) (fun _ _ h => h.elim) (fun _ _ h => h) (fun r11 M10 hw => ?_)
  refine x_istore 7 [(7, .int r11), (6, .ref ((83 + 11 * a1.toNatClampNeg) + 1)), (5, .int r8), (0, .ref 0), (1, .int a1), (2, .int a2), (3, .int a3), (4, .int a4)] d_D_unset_31 (by decide) rfl ?_
  refine x_aload 6 1 d_D_unset_33 rfl ?_
  refine x_iload 5 2 d_D_unset_35 rfl ?_
  refine x_iload 4 7 d_D_unset_37 rfl ?_
  refine x_callVv (As := [.int r8, .int a4]) (t := ((83 + 11 * a1.toNatClampNeg) + 1)) (rest := []) (rc := 0) (rs := 0) (c_S_drop hA hT (hD.sessionsAt hi9).candidate hw) cw_D_unset_S_drop_203 ((hD.sessionsAt hi9).candidate).1 ((hD.sessionsAt hi9).candidate).2.1 rfl d_D_unset_39 rfl rfl (Nat.le_of_ble_eq_true rfl) (fun _ _ h => h.elim) (fun _ _ h => h) (fun M12 hw => ?_)
  refine x_iload 7 0 d_D_unset_42 rfl ?_
  exact x_zret d_D_unset_44 rfl (sdB_n hw.1) (fun _ h => h) ⟨_, rfl, hw.2⟩
end
abbrev y_D_settingsOf : MethodName := ⟨"SettingsDesk", "settingsOf", "(I)LSettingsDesk$Settings;"⟩
theorem d_D_settingsOf_0 : decode prog_1_method_30_code 0 = .ok (.iload_n 1, 1) := by decide +kernel
theorem d_D_settingsOf_1 : decode prog_1_method_30_code 1 = .ok (.iconst 3, 1) := by decide +kernel
theorem d_D_settingsOf_2 : decode prog_1_method_30_code 2 = .ok (.if_icmp .ne (8), 3) := by decide +kernel
theorem d_D_settingsOf_5 : decode prog_1_method_30_code 5 = .ok (.aload_n 0, 1) := by decide +kernel
theorem d_D_settingsOf_6 : decode prog_1_method_30_code 6 = .ok (.getfield 19, 3) := by decide +kernel
theorem d_D_settingsOf_9 : decode prog_1_method_30_code 9 = .ok (.areturn, 1) := by decide +kernel
theorem d_D_settingsOf_10 : decode prog_1_method_30_code 10 = .ok (.iload_n 1, 1) := by decide +kernel
theorem d_D_settingsOf_11 : decode prog_1_method_30_code 11 = .ok (.iconst 4, 1) := by decide +kernel
theorem d_D_settingsOf_12 : decode prog_1_method_30_code 12 = .ok (.if_icmp .ne (10), 3) := by decide +kernel
theorem d_D_settingsOf_15 : decode prog_1_method_30_code 15 = .ok (.aload_n 0, 1) := by decide +kernel
theorem d_D_settingsOf_16 : decode prog_1_method_30_code 16 = .ok (.getfield 23, 3) := by decide +kernel
theorem d_D_settingsOf_19 : decode prog_1_method_30_code 19 = .ok (.goto (12), 3) := by decide +kernel
theorem d_D_settingsOf_22 : decode prog_1_method_30_code 22 = .ok (.aload_n 0, 1) := by decide +kernel
theorem d_D_settingsOf_23 : decode prog_1_method_30_code 23 = .ok (.getfield 35, 3) := by decide +kernel
theorem d_D_settingsOf_26 : decode prog_1_method_30_code 26 = .ok (.iload_n 1, 1) := by decide +kernel
theorem d_D_settingsOf_27 : decode prog_1_method_30_code 27 = .ok (.aaload, 1) := by decide +kernel
theorem d_D_settingsOf_28 : decode prog_1_method_30_code 28 = .ok (.getfield 168, 3) := by decide +kernel
theorem d_D_settingsOf_31 : decode prog_1_method_30_code 31 = .ok (.areturn, 1) := by decide +kernel
def Y_D_settingsOf : sdY := ("SettingsDesk", prog_1_method_30_code, 2, (some (.object "SettingsDesk$Settings")), .code y_D_settingsOf prog_1_method_30_code 2 (some (.object "SettingsDesk$Settings")) :: sdB0, { frames := 0, cells := 0, slots := 0, locals := 0 }, 0, 0)
section
variable {l : Launch} {D : va_G} {dA : Nat → ClassId} {b n : Nat} {ad : Nat → Nat} {L : Nat → sdL} {sc : Option (Nat × Nat × (Nat → Int32))}
def k_D_settingsOf_31 (Q : Nat → sdM → Prop) (M : sdM) (u0 : Nat) : Prop := Q u0 M
set_option maxHeartbeats 1000000 in
theorem t_D_settingsOf_31 (hA : sd_ad b n ad) (hT : l.stackTraces = false) (hD : isD n L dA) {Q : Nat → sdM → Prop} (M : sdM) (u0 : Nat) (hu0 : isS n L dA u0) (hw : k_D_settingsOf_31 Q M u0) : sdW l (sdE0 sc) Y_D_settingsOf D (sd_tys dA) b n ad L ad (sd_H D (sdE0 sc).1 n ad L) (sd_qr (fun t => isS n L dA t) Q) sd_xf 31 [] [.ref u0] M 0 0 := by
  unfold k_D_settingsOf_31 at hw
  exact x_aret d_D_settingsOf_31 rfl rfl (fun _ h => h) ⟨_, rfl, hu0, hw⟩
def w_D_settingsOf (M : sdM) (a1 : Int32) (Q : Nat → sdM → Prop) : Prop := (¬ a1 = (3 : Int32) → (¬ a1 = (4 : Int32) → vp_in a1 3 ∧ k_D_settingsOf_31 Q M ((83 + 11 * a1.toNatClampNeg) + 1)) ∧ (a1 = (4 : Int32) → k_D_settingsOf_31 Q M 30)) ∧ (a1 = (3 : Int32) → Q 25 M)
set_option maxHeartbeats 1000000 in
theorem c_D_settingsOf {a1 : Int32} (hA : sd_ad b n ad) (hT : l.stackTraces = false) (hD : isD n L dA) {Q : Nat → sdM → Prop} {M : sdM} (hw : w_D_settingsOf M a1 Q) : sd_Cn l (sdE0 sc) y_D_settingsOf Y_D_settingsOf.2.2.2.2.1 Y_D_settingsOf.2.2.2.2.2.1 0 0 D (sd_tys dA) b n ad L M [.ref 0, .int a1] (sd_qr (fun t => isS n L dA t) Q) sd_xf := by
  refine sd_enter (Y := Y_D_settingsOf) rfl rfl rfl (Nat.le_of_ble_eq_true rfl) ?_
  show sdW l (sdE0 sc) Y_D_settingsOf D (sd_tys dA) b n ad L ad (sd_H D (sdE0 sc).1 n ad L) (sd_qr (fun t => isS n L dA t) Q) sd_xf 0 [(0, .ref 0), (1, .int a1)] [] M 0 0
  unfold w_D_settingsOf at hw
  refine x_iload_n 1 1 d_D_settingsOf_0 rfl rfl ?_
  refine x_iconst (v := 3) d_D_settingsOf_1 (by decide) ?_
  refine x_icmp_ne 10 d_D_settingsOf_2 rfl (fun hc => ?_) (fun hc => ?_)
  · have hw := hw.1 hc
    refine x_iload_n 1 1 d_D_settingsOf_10 rfl rfl ?_
    refine x_iconst (v := 4) d_D_settingsOf_11 (by decide) ?_
    refine x_icmp_ne 22 d_D_settingsOf_12 rfl (fun hc => ?_) (fun hc => ?_)
    · have hw := hw.1 hc
      refine x_aload_n 0 0 d_D_settingsOf_22 rfl rfl ?_
      refine x_getr 5 41 d_D_settingsOf_23 hD.1 hD.2.1 rfl rfl (by decide) lay_D (List.mem_cons_of_mem _ q258) rfl ?_
      refine x_iload_n 1 1 d_D_settingsOf_26 rfl rfl ?_
      obtain ⟨hi2, hw⟩ := hw
      refine x_aald (83 + 11 * a1.toNatClampNeg) d_D_settingsOf_27 hD.sessions.1 hD.sessions.2 (t0 := 6) rfl hi2 rfl ?_
      refine x_getr 1 ((83 + 11 * a1.toNatClampNeg) + 1) d_D_settingsOf_28 (hD.sessionsAt hi2).1 (hD.sessionsAt hi2).2.1 rfl rfl (by decide) lay_N (List.mem_cons_of_mem _ q350) rfl ?_
      refine x_sub [] [] rfl ?_
      exact t_D_settingsOf_31 hA hT hD M ((83 + 11 * a1.toNatClampNeg) + 1) (hD.sessionsAt hi2).candidate hw
    · have hw := hw.2 hc
      refine x_aload_n 0 0 d_D_settingsOf_15 rfl rfl ?_
      refine x_getr 2 30 d_D_settingsOf_16 hD.1 hD.2.1 rfl rfl (by decide) lay_D (List.mem_cons_of_mem _ q255) rfl ?_
      refine x_goto 31 d_D_settingsOf_19 rfl ?_
      refine x_sub [] [] rfl ?_
      exact t_D_settingsOf_31 hA hT hD M 30 hD.saved hw
  · have hw := hw.2 hc
    refine x_aload_n 0 0 d_D_settingsOf_5 rfl rfl ?_
    refine x_getr 1 25 d_D_settingsOf_6 hD.1 hD.2.1 rfl rfl (by decide) lay_D (List.mem_cons_of_mem _ q243) rfl ?_
    exact x_aret d_D_settingsOf_9 rfl rfl (fun _ h => h) ⟨_, rfl, hD.running, hw⟩
end
theorem q372 : (.code ⟨"SettingsDesk", "get", "(IIII)I"⟩ prog_1_method_11_code 8 (some .int) : Cond) ∈ sdB0 := sd_tb3 186 rfl rfl
theorem q373 : (.methodLink "SettingsDesk" 211 ⟨"SettingsDesk", "settingsOf", "(I)LSettingsDesk$Settings;"⟩ : Cond) ∈ sdB0 := sd_tb3 188 rfl rfl
theorem q374 : (.code ⟨"SettingsDesk", "settingsOf", "(I)LSettingsDesk$Settings;"⟩ prog_1_method_30_code 2 (some (.object "SettingsDesk$Settings")) : Cond) ∈ sdB0 := sd_tb3 191 rfl rfl
theorem q375 : (.instanceMethod ⟨"SettingsDesk", "settingsOf", "(I)LSettingsDesk$Settings;"⟩ : Cond) ∈ sdB0 := sd_tb3 190 rfl rfl
theorem q376 : (.selects "SettingsDesk" ⟨"SettingsDesk", "settingsOf", "(I)LSettingsDesk$Settings;"⟩ ⟨"SettingsDesk", "settingsOf", "(I)LSettingsDesk$Settings;"⟩ : Cond) ∈ sdB0 := sd_tbp (q := (⟨"SettingsDesk", "settingsOf", "(I)LSettingsDesk$Settings;"⟩, 12)) (List.mem_of_getElem? (i := 11) rfl)
theorem q377 : (.methodLink "SettingsDesk" 215 ⟨"SettingsDesk$Settings", "isNothing", "(IILSettingsDesk$Leaf;)Z"⟩ : Cond) ∈ sdB0 := sd_tb3 192 rfl rfl
theorem q378 : (.methodLink "SettingsDesk" 221 ⟨"SettingsDesk$Settings", "whatIs", "(IILSettingsDesk$Leaf;)I"⟩ : Cond) ∈ sdB0 := sd_tb3 194 rfl rfl
abbrev y_D_get : MethodName := ⟨"SettingsDesk", "get", "(IIII)I"⟩
theorem d_D_get_0 : decode prog_1_method_11_code 0 = .ok (.aload_n 0, 1) := by decide +kernel
theorem d_D_get_1 : decode prog_1_method_11_code 1 = .ok (.invokevirtual 146, 3) := by decide +kernel
theorem d_D_get_4 : decode prog_1_method_11_code 4 = .ok (.iload_n 1, 1) := by decide +kernel
theorem d_D_get_5 : decode prog_1_method_11_code 5 = .ok (.ifCond .lt (8), 3) := by decide +kernel
theorem d_D_get_8 : decode prog_1_method_11_code 8 = .ok (.iload_n 1, 1) := by decide +kernel
theorem d_D_get_9 : decode prog_1_method_11_code 9 = .ok (.iconst 4, 1) := by decide +kernel
theorem d_D_get_10 : decode prog_1_method_11_code 10 = .ok (.if_icmp .le (13), 3) := by decide +kernel
theorem d_D_get_13 : decode prog_1_method_11_code 13 = .ok (.new 206, 3) := by decide +kernel
theorem d_D_get_16 : decode prog_1_method_11_code 16 = .ok (.dup, 1) := by decide +kernel
theorem d_D_get_17 : decode prog_1_method_11_code 17 = .ok (.ldc 208, 2) := by decide +kernel
theorem d_D_get_19 : decode prog_1_method_11_code 19 = .ok (.invokespecial 210, 3) := by decide +kernel
theorem d_D_get_22 : decode prog_1_method_11_code 22 = .ok (.athrow, 1) := by decide +kernel
theorem d_D_get_23 : decode prog_1_method_11_code 23 = .ok (.aload_n 0, 1) := by decide +kernel
theorem d_D_get_24 : decode prog_1_method_11_code 24 = .ok (.iload_n 2, 1) := by decide +kernel
theorem d_D_get_25 : decode prog_1_method_11_code 25 = .ok (.iload 4, 2) := by decide +kernel
theorem d_D_get_27 : decode prog_1_method_11_code 27 = .ok (.invokevirtual 100, 3) := by decide +kernel
theorem d_D_get_30 : decode prog_1_method_11_code 30 = .ok (.iload_n 1, 1) := by decide +kernel
theorem d_D_get_31 : decode prog_1_method_11_code 31 = .ok (.iconst 3, 1) := by decide +kernel
theorem d_D_get_32 : decode prog_1_method_11_code 32 = .ok (.if_icmp .ge (8), 3) := by decide +kernel
theorem d_D_get_35 : decode prog_1_method_11_code 35 = .ok (.aload_n 0, 1) := by decide +kernel
theorem d_D_get_36 : decode prog_1_method_11_code 36 = .ok (.iload_n 1, 1) := by decide +kernel
theorem d_D_get_37 : decode prog_1_method_11_code 37 = .ok (.invokevirtual 163, 3) := by decide +kernel
theorem d_D_get_40 : decode prog_1_method_11_code 40 = .ok (.aload_n 0, 1) := by decide +kernel
theorem d_D_get_41 : decode prog_1_method_11_code 41 = .ok (.iload_n 1, 1) := by decide +kernel
theorem d_D_get_42 : decode prog_1_method_11_code 42 = .ok (.invokevirtual 211, 3) := by decide +kernel
theorem d_D_get_45 : decode prog_1_method_11_code 45 = .ok (.astore 5, 2) := by decide +kernel
theorem d_D_get_47 : decode prog_1_method_11_code 47 = .ok (.aload 5, 2) := by decide +kernel
theorem d_D_get_49 : decode prog_1_method_11_code 49 = .ok (.iload_n 2, 1) := by decide +kernel
theorem d_D_get_50 : decode prog_1_method_11_code 50 = .ok (.iload_n 3, 1) := by decide +kernel
theorem d_D_get_51 : decode prog_1_method_11_code 51 = .ok (.invokevirtual 171, 3) := by decide +kernel
theorem d_D_get_54 : decode prog_1_method_11_code 54 = .ok (.istore 6, 2) := by decide +kernel
theorem d_D_get_56 : decode prog_1_method_11_code 56 = .ok (.aload_n 0, 1) := by decide +kernel
theorem d_D_get_57 : decode prog_1_method_11_code 57 = .ok (.getfield 12, 3) := by decide +kernel
theorem d_D_get_60 : decode prog_1_method_11_code 60 = .ok (.iload_n 2, 1) := by decide +kernel
theorem d_D_get_61 : decode prog_1_method_11_code 61 = .ok (.iload 4, 2) := by decide +kernel
theorem d_D_get_63 : decode prog_1_method_11_code 63 = .ok (.invokevirtual 104, 3) := by decide +kernel
theorem d_D_get_66 : decode prog_1_method_11_code 66 = .ok (.astore 7, 2) := by decide +kernel
theorem d_D_get_68 : decode prog_1_method_11_code 68 = .ok (.iload 6, 2) := by decide +kernel
theorem d_D_get_70 : decode prog_1_method_11_code 70 = .ok (.iconst (-1), 1) := by decide +kernel
theorem d_D_get_71 : decode prog_1_method_11_code 71 = .ok (.if_icmp .eq (17), 3) := by decide +kernel
theorem d_D_get_74 : decode prog_1_method_11_code 74 = .ok (.aload 5, 2) := by decide +kernel
theorem d_D_get_76 : decode prog_1_method_11_code 76 = .ok (.iload 6, 2) := by decide +kernel
theorem d_D_get_78 : decode prog_1_method_11_code 78 = .ok (.iload 4, 2) := by decide +kernel
theorem d_D_get_80 : decode prog_1_method_11_code 80 = .ok (.aload 7, 2) := by decide +kernel
theorem d_D_get_82 : decode prog_1_method_11_code 82 = .ok (.invokevirtual 215, 3) := by decide +kernel
theorem d_D_get_85 : decode prog_1_method_11_code 85 = .ok (.ifCond .eq (13), 3) := by decide +kernel
theorem d_D_get_88 : decode prog_1_method_11_code 88 = .ok (.new 181, 3) := by decide +kernel
theorem d_D_get_91 : decode prog_1_method_11_code 91 = .ok (.dup, 1) := by decide +kernel
theorem d_D_get_92 : decode prog_1_method_11_code 92 = .ok (.ldc 219, 2) := by decide +kernel
theorem d_D_get_94 : decode prog_1_method_11_code 94 = .ok (.invokespecial 185, 3) := by decide +kernel
theorem d_D_get_97 : decode prog_1_method_11_code 97 = .ok (.athrow, 1) := by decide +kernel
theorem d_D_get_98 : decode prog_1_method_11_code 98 = .ok (.aload 5, 2) := by decide +kernel
theorem d_D_get_100 : decode prog_1_method_11_code 100 = .ok (.iload 6, 2) := by decide +kernel
theorem d_D_get_102 : decode prog_1_method_11_code 102 = .ok (.iload 4, 2) := by decide +kernel
theorem d_D_get_104 : decode prog_1_method_11_code 104 = .ok (.aload 7, 2) := by decide +kernel
theorem d_D_get_106 : decode prog_1_method_11_code 106 = .ok (.invokevirtual 221, 3) := by decide +kernel
theorem d_D_get_109 : decode prog_1_method_11_code 109 = .ok (.ireturn, 1) := by decide +kernel
def Y_D_get : sdY := ("SettingsDesk", prog_1_method_11_code, 8, (some .int), .code y_D_get prog_1_method_11_code 8 (some .int) :: sdB0, { frames := 7, cells := 4, slots := 24, locals := 104 }, 4, 24)
theorem cw_D_get_D_requireReady_146 : sd_cwV Y_D_get Y_D_requireReady y_D_requireReady 146 0 "SettingsDesk" := ⟨sd_goodV q334 q335 q336 q264 q332, ⟨_, rfl⟩, ⟨rfl, rfl, rfl, rfl⟩, ⟨rfl, by decide, by decide, by decide +kernel⟩, ⟨by decide, by decide⟩⟩
theorem cw_D_get_D_requireLeaf_100 : sd_cwV Y_D_get Y_D_requireLeaf y_D_requireLeaf 100 2 "SettingsDesk" := ⟨sd_goodV q317 q318 q319 q264 q308, ⟨_, rfl⟩, ⟨rfl, rfl, rfl, rfl⟩, ⟨rfl, by decide, by decide, by decide +kernel⟩, ⟨by decide, by decide⟩⟩
theorem cw_D_get_D_requireBegun_163 : sd_cwV Y_D_get Y_D_requireBegun y_D_requireBegun 163 1 "SettingsDesk" := ⟨sd_goodV q355 q356 q357 q264 q349, ⟨_, rfl⟩, ⟨rfl, rfl, rfl, rfl⟩, ⟨rfl, by decide, by decide, by decide +kernel⟩, ⟨by decide, by decide⟩⟩
theorem cw_D_get_D_settingsOf_211 : sd_cwV Y_D_get Y_D_settingsOf y_D_settingsOf 211 1 "SettingsDesk" := ⟨sd_goodV q373 q375 q376 q264 q374, ⟨_, rfl⟩, ⟨rfl, rfl, rfl, rfl⟩, ⟨rfl, by decide, by decide, by decide +kernel⟩, ⟨by decide, by decide⟩⟩
theorem cw_D_get_S_rowOf_171 : sd_cwV Y_D_get Y_S_rowOf y_S_rowOf 171 2 "SettingsDesk$Settings" := ⟨sd_goodV q358 q121 q122 q7 q120, ⟨_, rfl⟩, ⟨rfl, rfl, rfl, rfl⟩, ⟨rfl, by decide, by decide, by decide +kernel⟩, ⟨by decide, by decide⟩⟩
theorem cw_D_get_C_leafAt_104 : sd_cwV Y_D_get Y_C_leafAt y_C_leafAt 104 2 "SettingsDesk$Schema" := ⟨sd_goodV q320 q78 q79 q68 q77, ⟨_, rfl⟩, ⟨rfl, rfl, rfl, rfl⟩, ⟨rfl, by decide, by decide, by decide +kernel⟩, ⟨by decide, by decide⟩⟩
theorem cw_D_get_S_isNothing_215 : sd_cwV Y_D_get Y_S_isNothing y_S_isNothing 215 3 "SettingsDesk$Settings" := ⟨sd_goodV q377 q182 q183 q7 q181, ⟨_, rfl⟩, ⟨rfl, rfl, rfl, rfl⟩, ⟨rfl, by decide, by decide, by decide +kernel⟩, ⟨by decide, by decide⟩⟩
theorem cw_D_get_S_whatIs_221 : sd_cwV Y_D_get Y_S_whatIs y_S_whatIs 221 3 "SettingsDesk$Settings" := ⟨sd_goodV q378 q199 q200 q7 q198, ⟨_, rfl⟩, ⟨rfl, rfl, rfl, rfl⟩, ⟨rfl, by decide, by decide, by decide +kernel⟩, ⟨by decide, by decide⟩⟩
section
variable {l : Launch} {D : va_G} {dA : Nat → ClassId} {b n : Nat} {ad : Nat → Nat} {L : Nat → sdL} {sc : Option (Nat × Nat × (Nat → Int32))}
def k_D_get_88 (Q : Int32 → sdM → Prop) (X : String → sdM → Prop) (M : sdM) : Prop := X "java/lang/UnsupportedOperationException" M
set_option maxHeartbeats 1000000 in
theorem t_D_get_88 (hA : sd_ad b n ad) (hT : l.stackTraces = false) (hD : isD n L dA) {Q : Int32 → sdM → Prop} {X : String → sdM → Prop} (M : sdM) (hw : k_D_get_88 Q X M ) : sdW l (sdE0 sc) Y_D_get D (sd_tys dA) b n ad L ad (sd_H D (sdE0 sc).1 n ad L) (sd_qi Q) X 88 [] [] M 1 6 := by
  unfold k_D_get_88 at hw
  exact x_throwS (names := sdExN) (is := 219) (ic := 185) (rc := 0) (rs := 0) hT fit_UOE fit_N (sd_goodB q372) (List.mem_cons_of_mem _ q352) (List.mem_cons_of_mem _ q353) (List.mem_cons_of_mem _ q354) (List.mem_of_getElem? (i := 16) rfl) oa_UOE d_D_get_88 d_D_get_91 (Or.inl ⟨d_D_get_92, rfl⟩) d_D_get_94 d_D_get_97 (by decide) (Nat.le_of_ble_eq_true rfl) rfl rfl (fun _ _ h => h) hw
def k_D_get_40 (Q : Int32 → sdM → Prop) (X : String → sdM → Prop) (M : sdM) (x1 : Int32) (x2 : Int32) (x3 : Int32) (x4 : Int32) : Prop := w_D_settingsOf M x1 (fun t29 M28 => w_S_rowOf t29 M28 x2 x3 (fun r32 M31 => w_C_leafAt M31 x2 x4 (fun t34 M33 => (r32 = (-1 : Int32) → k_D_get_88 Q X M33) ∧ (¬ r32 = (-1 : Int32) → w_S_isNothing t29 M33 r32 x4 t34 (fun r37 M36 => (r37 = 0 → w_S_whatIs t29 M36 r32 x4 t34 (fun r39 M38 => Q r39 M38)) ∧ (¬ r37 = 0 → k_D_get_88 Q X M36))))))
set_option maxHeartbeats 1000000 in
theorem t_D_get_40 (hA : sd_ad b n ad) (hT : l.stackTraces = false) (hD : isD n L dA) {Q : Int32 → sdM → Prop} {X : String → sdM → Prop} (M : sdM) (x1 : Int32) (x2 : Int32) (x3 : Int32) (x4 : Int32) (hw : k_D_get_40 Q X M x1 x2 x3 x4) : sdW l (sdE0 sc) Y_D_get D (sd_tys dA) b n ad L ad (sd_H D (sdE0 sc).1 n ad L) (sd_qi Q) X 40 [(0, .ref 0), (1, .int x1), (2, .int x2), (3, .int x3), (4, .int x4)] [] M 1 6 := by
  unfold k_D_get_40 at hw
  refine x_aload_n 0 0 d_D_get_40 rfl rfl ?_
  refine x_iload_n 1 1 d_D_get_41 rfl rfl ?_
  refine x_callVr (As := [.int x1]) (t := 0) (rest := []) (rc := 1) (rs := 6) (c_D_settingsOf hA hT hD hw) cw_D_get_D_settingsOf_211 hD.1 hD.2.1 rfl d_D_get_42 rfl rfl (Nat.le_of_ble_eq_true rfl) (fun _ _ h => h.elim) (fun _ _ h => h) (fun t29 M28 ht30 hw => ?_)
  refine x_astore 5 [(5, .ref t29), (0, .ref 0), (1, .int x1), (2, .int x2), (3, .int x3), (4, .int x4)] d_D_get_45 (by decide) rfl ?_
  refine x_aload 5 0 d_D_get_47 rfl ?_
  refine x_iload_n 2 3 d_D_get_49 rfl rfl ?_
  refine x_iload_n 3 4 d_D_get_50 rfl rfl ?_
  refine x_callVi (As := [.int x2, .int x3]) (t := t29) (rest := []) (rc := 1) (rs := 6) (c_S_rowOf hA hT ht30 hw) cw_D_get_S_rowOf_171 ht30.1 ht30.2.1 rfl d_D_get_51 rfl rfl (Nat.le_of_ble_eq_true rfl) (fun _ _ h => h.elim) (fun _ _ h => h) (fun r32 M31 hw => ?_)
  refine x_istore 6 [(6, .int r32), (5, .ref t29), (0, .ref 0), (1, .int x1), (2, .int x2), (3, .int x3), (4, .int x4)] d_D_get_54 (by decide) rfl ?_
  refine x_aload_n 0 2 d_D_get_56 rfl rfl ?_
  refine x_getr 0 1 d_D_get_57 hD.1 hD.2.1 rfl rfl (by decide) lay_D (List.mem_cons_of_mem _ q271) rfl ?_
  refine x_iload_n 2 4 d_D_get_60 rfl rfl ?_
  refine x_iload 4 6 d_D_get_61 rfl ?_
  refine x_callVr (As := [.int x2, .int x4]) (t := 1) (rest := []) (rc := 1) (rs := 6) (c_C_leafAt hA hT hD.schema hw) cw_D_get_C_leafAt_104 hD.schema.1 hD.schema.2.1 rfl d_D_get_63 rfl rfl (Nat.le_of_ble_eq_true rfl) (fun _ _ h => h.elim) (fun _ _ h => h) (fun t34 M33 ht35 hw => ?_)
  refine x_astore 7 [(7, .ref t34), (6, .int r32), (5, .ref t29), (0, .ref 0), (1, .int x1), (2, .int x2), (3, .int x3), (4, .int x4)] d_D_get_66 (by decide) rfl ?_
  refine x_iload 6 1 d_D_get_68 rfl ?_
  refine x_iconst (v := (-1)) d_D_get_70 (by decide) ?_
  refine x_icmp_eq 88 d_D_get_71 rfl (fun hc => ?_) (fun hc => ?_)
  · have hw := hw.1 hc
    refine x_sub [] [] rfl ?_
    exact t_D_get_88 hA hT hD M33 hw
  · have hw := hw.2 hc
    refine x_aload 5 2 d_D_get_74 rfl ?_
    refine x_iload 6 1 d_D_get_76 rfl ?_
    refine x_iload 4 7 d_D_get_78 rfl ?_
    refine x_aload 7 0 d_D_get_80 rfl ?_
    refine x_callVi (As := [.int r32, .int x4, .ref t34]) (t := t29) (rest := []) (rc := 1) (rs := 6) (c_S_isNothing hA hT ht30 ht35 hw) cw_D_get_S_isNothing_215 ht30.1 ht30.2.1 rfl d_D_get_82 rfl rfl (Nat.le_of_ble_eq_true rfl) (fun _ _ h => h.elim) (fun _ _ h => h) (fun r37 M36 hw => ?_)
    refine x_if_eq 98 d_D_get_85 rfl (fun hc => ?_) (fun hc => ?_)
    · have hw := hw.1 hc
      refine x_aload 5 2 d_D_get_98 rfl ?_
      refine x_iload 6 1 d_D_get_100 rfl ?_
      refine x_iload 4 7 d_D_get_102 rfl ?_
      refine x_aload 7 0 d_D_get_104 rfl ?_
      refine x_callVi (As := [.int r32, .int x4, .ref t34]) (t := t29) (rest := []) (rc := 1) (rs := 6) (c_S_whatIs hA hT ht30 ht35 hw) cw_D_get_S_whatIs_221 ht30.1 ht30.2.1 rfl d_D_get_106 rfl rfl (Nat.le_of_ble_eq_true rfl) (fun _ _ h => h.elim) (fun _ _ h => h) (fun r39 M38 hw => ?_)
      exact x_iret d_D_get_109 rfl (fun _ h => h) ⟨_, rfl, hw⟩
    · have hw := hw.2 hc
      refine x_sub [] [] rfl ?_
      exact t_D_get_88 hA hT hD M36 hw
def k_D_get_13 (Q : Int32 → sdM → Prop) (X : String → sdM → Prop) (M : sdM) : Prop := X "java/lang/IndexOutOfBoundsException" M
set_option maxHeartbeats 1000000 in
theorem t_D_get_13 (hA : sd_ad b n ad) (hT : l.stackTraces = false) (hD : isD n L dA) {Q : Int32 → sdM → Prop} {X : String → sdM → Prop} (M : sdM) (hw : k_D_get_13 Q X M ) : sdW l (sdE0 sc) Y_D_get D (sd_tys dA) b n ad L ad (sd_H D (sdE0 sc).1 n ad L) (sd_qi Q) X 13 [] [] M 3 18 := by
  unfold k_D_get_13 at hw
  exact x_throwS (names := sdExN) (is := 208) (ic := 210) (rc := 2) (rs := 12) hT fit_IOB fit_N (sd_goodB q372) (List.mem_cons_of_mem _ q288) (List.mem_cons_of_mem _ q289) (List.mem_cons_of_mem _ q290) (List.mem_of_getElem? (i := 15) rfl) oa_IOB d_D_get_13 d_D_get_16 (Or.inl ⟨d_D_get_17, rfl⟩) d_D_get_19 d_D_get_22 (by decide) (Nat.le_of_ble_eq_true rfl) rfl rfl (fun _ _ h => h) hw
def w_D_get (M : sdM) (a1 : Int32) (a2 : Int32) (a3 : Int32) (a4 : Int32) (Q : Int32 → sdM → Prop) (X : String → sdM → Prop) : Prop := w_D_requireReady M (fun M40 => (a1 < 0 → k_D_get_13 Q X M40) ∧ (¬ a1 < 0 → (a1 ≤ (4 : Int32) → w_D_requireLeaf M40 a2 a4 (fun M41 => ((3 : Int32) ≤ a1 → k_D_get_40 Q X M41 a1 a2 a3 a4) ∧ (¬ (3 : Int32) ≤ a1 → w_D_requireBegun M41 a1 (fun M42 => k_D_get_40 Q X M42 a1 a2 a3 a4) X)) X) ∧ (¬ a1 ≤ (4 : Int32) → k_D_get_13 Q X M40))) X
set_option maxHeartbeats 1000000 in
theorem c_D_get {a1 : Int32} {a2 : Int32} {a3 : Int32} {a4 : Int32} (hA : sd_ad b n ad) (hT : l.stackTraces = false) (hD : isD n L dA) {Q : Int32 → sdM → Prop} {X : String → sdM → Prop} {M : sdM} (hw : w_D_get M a1 a2 a3 a4 Q X) : sd_Cn l (sdE0 sc) y_D_get Y_D_get.2.2.2.2.1 Y_D_get.2.2.2.2.2.1 4 24 D (sd_tys dA) b n ad L M [.ref 0, .int a1, .int a2, .int a3, .int a4] (sd_qi Q) X := by
  refine sd_enter (Y := Y_D_get) rfl rfl rfl (Nat.le_of_ble_eq_true rfl) ?_
  show sdW l (sdE0 sc) Y_D_get D (sd_tys dA) b n ad L ad (sd_H D (sdE0 sc).1 n ad L) (sd_qi Q) X 0 [(0, .ref 0), (1, .int a1), (2, .int a2), (3, .int a3), (4, .int a4)] [] M 4 24
  unfold w_D_get at hw
  refine x_aload_n 0 0 d_D_get_0 rfl rfl ?_
  refine x_callVv (As := []) (t := 0) (rest := []) (rc := 3) (rs := 18) (c_D_requireReady hA hT hD hw) cw_D_get_D_requireReady_146 hD.1 hD.2.1 rfl d_D_get_1 rfl rfl (Nat.le_of_ble_eq_true rfl) (fun _ _ h => h) (fun _ _ h => h) (fun M40 hw => ?_)
  refine x_iload_n 1 1 d_D_get_4 rfl rfl ?_
  refine x_if_lt 13 d_D_get_5 rfl (fun hc => ?_) (fun hc => ?_)
  · have hw := hw.1 hc
    refine x_sub [] [] rfl ?_
    exact t_D_get_13 hA hT hD M40 hw
  · have hw := hw.2 hc
    refine x_iload_n 1 1 d_D_get_8 rfl rfl ?_
    refine x_iconst (v := 4) d_D_get_9 (by decide) ?_
    refine x_icmp_le 23 d_D_get_10 rfl (fun hc => ?_) (fun hc => ?_)
    · have hw := hw.1 hc
      refine x_aload_n 0 0 d_D_get_23 rfl rfl ?_
      refine x_iload_n 2 2 d_D_get_24 rfl rfl ?_
      refine x_iload 4 4 d_D_get_25 rfl ?_
      refine x_callVv (As := [.int a2, .int a4]) (t := 0) (rest := []) (rc := 2) (rs := 12) (c_D_requireLeaf hA hT hD hw) cw_D_get_D_requireLeaf_100 hD.1 hD.2.1 rfl d_D_get_27 rfl rfl (Nat.le_of_ble_eq_true rfl) (fun _ _ h => h) (fun _ _ h => h) (fun M41 hw => ?_)
      refine x_iload_n 1 1 d_D_get_30 rfl rfl ?_
      refine x_iconst (v := 3) d_D_get_31 (by decide) ?_
      refine x_icmp_ge 40 d_D_get_32 rfl (fun hc => ?_) (fun hc => ?_)
      · have hw := hw.1 hc
        refine x_wide 1 6 (by decide) (by decide) ?_
        exact t_D_get_40 hA hT hD M41 a1 a2 a3 a4 hw
      · have hw := hw.2 hc
        refine x_aload_n 0 0 d_D_get_35 rfl rfl ?_
        refine x_iload_n 1 1 d_D_get_36 rfl rfl ?_
        refine x_callVv (As := [.int a1]) (t := 0) (rest := []) (rc := 1) (rs := 6) (c_D_requireBegun hA hT hD hw) cw_D_get_D_requireBegun_163 hD.1 hD.2.1 rfl d_D_get_37 rfl rfl (Nat.le_of_ble_eq_true rfl) (fun _ _ h => h) (fun _ _ h => h) (fun M42 hw => ?_)
        exact t_D_get_40 hA hT hD M42 a1 a2 a3 a4 hw
    · have hw := hw.2 hc
      refine x_sub [] [] rfl ?_
      exact t_D_get_13 hA hT hD M40 hw
end
abbrev y_D_lock : MethodName := ⟨"SettingsDesk", "lock", "(IZ)Z"⟩
theorem d_D_lock_0 : decode prog_1_method_12_code 0 = .ok (.aload_n 0, 1) := by decide +kernel
theorem d_D_lock_1 : decode prog_1_method_12_code 1 = .ok (.invokevirtual 146, 3) := by decide +kernel
theorem d_D_lock_4 : decode prog_1_method_12_code 4 = .ok (.aload_n 0, 1) := by decide +kernel
theorem d_D_lock_5 : decode prog_1_method_12_code 5 = .ok (.iload_n 1, 1) := by decide +kernel
theorem d_D_lock_6 : decode prog_1_method_12_code 6 = .ok (.invokevirtual 149, 3) := by decide +kernel
theorem d_D_lock_9 : decode prog_1_method_12_code 9 = .ok (.aload_n 0, 1) := by decide +kernel
theorem d_D_lock_10 : decode prog_1_method_12_code 10 = .ok (.iload_n 1, 1) := by decide +kernel
theorem d_D_lock_11 : decode prog_1_method_12_code 11 = .ok (.invokevirtual 163, 3) := by decide +kernel
theorem d_D_lock_14 : decode prog_1_method_12_code 14 = .ok (.iload_n 2, 1) := by decide +kernel
theorem d_D_lock_15 : decode prog_1_method_12_code 15 = .ok (.ifCond .eq (19), 3) := by decide +kernel
theorem d_D_lock_18 : decode prog_1_method_12_code 18 = .ok (.aload_n 0, 1) := by decide +kernel
theorem d_D_lock_19 : decode prog_1_method_12_code 19 = .ok (.getfield 53, 3) := by decide +kernel
theorem d_D_lock_22 : decode prog_1_method_12_code 22 = .ok (.iconst (-1), 1) := by decide +kernel
theorem d_D_lock_23 : decode prog_1_method_12_code 23 = .ok (.if_icmp .ne (11), 3) := by decide +kernel
theorem d_D_lock_26 : decode prog_1_method_12_code 26 = .ok (.aload_n 0, 1) := by decide +kernel
theorem d_D_lock_27 : decode prog_1_method_12_code 27 = .ok (.iload_n 1, 1) := by decide +kernel
theorem d_D_lock_28 : decode prog_1_method_12_code 28 = .ok (.putfield 53, 3) := by decide +kernel
theorem d_D_lock_31 : decode prog_1_method_12_code 31 = .ok (.goto (20), 3) := by decide +kernel
theorem d_D_lock_34 : decode prog_1_method_12_code 34 = .ok (.iload_n 2, 1) := by decide +kernel
theorem d_D_lock_35 : decode prog_1_method_12_code 35 = .ok (.ifCond .ne (16), 3) := by decide +kernel
theorem d_D_lock_38 : decode prog_1_method_12_code 38 = .ok (.aload_n 0, 1) := by decide +kernel
theorem d_D_lock_39 : decode prog_1_method_12_code 39 = .ok (.getfield 53, 3) := by decide +kernel
theorem d_D_lock_42 : decode prog_1_method_12_code 42 = .ok (.iload_n 1, 1) := by decide +kernel
theorem d_D_lock_43 : decode prog_1_method_12_code 43 = .ok (.if_icmp .ne (8), 3) := by decide +kernel
theorem d_D_lock_46 : decode prog_1_method_12_code 46 = .ok (.aload_n 0, 1) := by decide +kernel
theorem d_D_lock_47 : decode prog_1_method_12_code 47 = .ok (.iconst (-1), 1) := by decide +kernel
theorem d_D_lock_48 : decode prog_1_method_12_code 48 = .ok (.putfield 53, 3) := by decide +kernel
theorem d_D_lock_51 : decode prog_1_method_12_code 51 = .ok (.aload_n 0, 1) := by decide +kernel
theorem d_D_lock_52 : decode prog_1_method_12_code 52 = .ok (.getfield 53, 3) := by decide +kernel
theorem d_D_lock_55 : decode prog_1_method_12_code 55 = .ok (.iload_n 1, 1) := by decide +kernel
theorem d_D_lock_56 : decode prog_1_method_12_code 56 = .ok (.if_icmp .ne (7), 3) := by decide +kernel
theorem d_D_lock_59 : decode prog_1_method_12_code 59 = .ok (.iconst 1, 1) := by decide +kernel
theorem d_D_lock_60 : decode prog_1_method_12_code 60 = .ok (.goto (4), 3) := by decide +kernel
theorem d_D_lock_63 : decode prog_1_method_12_code 63 = .ok (.iconst 0, 1) := by decide +kernel
theorem d_D_lock_64 : decode prog_1_method_12_code 64 = .ok (.ireturn, 1) := by decide +kernel
def Y_D_lock : sdY := ("SettingsDesk", prog_1_method_12_code, 3, (some .boolean), .code y_D_lock prog_1_method_12_code 3 (some .boolean) :: sdB0, { frames := 7, cells := 3, slots := 18, locals := 103 }, 3, 18)
theorem cw_D_lock_D_requireReady_146 : sd_cwV Y_D_lock Y_D_requireReady y_D_requireReady 146 0 "SettingsDesk" := ⟨sd_goodV q334 q335 q336 q264 q332, ⟨_, rfl⟩, ⟨rfl, rfl, rfl, rfl⟩, ⟨rfl, by decide, by decide, by decide +kernel⟩, ⟨by decide, by decide⟩⟩
theorem cw_D_lock_D_requireSession_149 : sd_cwV Y_D_lock Y_D_requireSession y_D_requireSession 149 1 "SettingsDesk" := ⟨sd_goodV q337 q338 q339 q264 q333, ⟨_, rfl⟩, ⟨rfl, rfl, rfl, rfl⟩, ⟨rfl, by decide, by decide, by decide +kernel⟩, ⟨by decide, by decide⟩⟩
theorem cw_D_lock_D_requireBegun_163 : sd_cwV Y_D_lock Y_D_requireBegun y_D_requireBegun 163 1 "SettingsDesk" := ⟨sd_goodV q355 q356 q357 q264 q349, ⟨_, rfl⟩, ⟨rfl, rfl, rfl, rfl⟩, ⟨rfl, by decide, by decide, by decide +kernel⟩, ⟨by decide, by decide⟩⟩
section
variable {l : Launch} {D : va_G} {dA : Nat → ClassId} {b n : Nat} {ad : Nat → Nat} {L : Nat → sdL} {sc : Option (Nat × Nat × (Nat → Int32))}
def k_D_lock_64 (Q : Int32 → sdM → Prop) (X : String → sdM → Prop) (M : sdM) (s0 : Int32) : Prop := sdB s0 ∧ Q s0 M
set_option maxHeartbeats 1000000 in
theorem t_D_lock_64 (hA : sd_ad b n ad) (hT : l.stackTraces = false) (hD : isD n L dA) {Q : Int32 → sdM → Prop} {X : String → sdM → Prop} (M : sdM) (s0 : Int32) (hw : k_D_lock_64 Q X M s0) : sdW l (sdE0 sc) Y_D_lock D (sd_tys dA) b n ad L ad (sd_H D (sdE0 sc).1 n ad L) (sd_qi Q) X 64 [] [.int s0] M 0 0 := by
  unfold k_D_lock_64 at hw
  exact x_zret d_D_lock_64 rfl (sdB_n hw.1) (fun _ h => h) ⟨_, rfl, hw.2⟩
def k_D_lock_51 (Q : Int32 → sdM → Prop) (X : String → sdM → Prop) (M : sdM) (x1 : Int32) : Prop := (¬ (M 0 9) = x1 → k_D_lock_64 Q X M (0 : Int32)) ∧ ((M 0 9) = x1 → k_D_lock_64 Q X M (1 : Int32))
set_option maxHeartbeats 1000000 in
theorem t_D_lock_51 (hA : sd_ad b n ad) (hT : l.stackTraces = false) (hD : isD n L dA) {Q : Int32 → sdM → Prop} {X : String → sdM → Prop} (M : sdM) (x1 : Int32) (hw : k_D_lock_51 Q X M x1) : sdW l (sdE0 sc) Y_D_lock D (sd_tys dA) b n ad L ad (sd_H D (sdE0 sc).1 n ad L) (sd_qi Q) X 51 [(0, .ref 0), (1, .int x1)] [] M 0 0 := by
  unfold k_D_lock_51 at hw
  refine x_aload_n 0 0 d_D_lock_51 rfl rfl ?_
  refine x_geti 9 d_D_lock_52 hD.1 hD.2.1 rfl rfl (by decide) lay_D (List.mem_cons_of_mem _ q256) rfl ?_
  refine x_iload_n 1 1 d_D_lock_55 rfl rfl ?_
  refine x_icmp_ne 63 d_D_lock_56 rfl (fun hc => ?_) (fun hc => ?_)
  · have hw := hw.1 hc
    refine x_iconst (v := 0) d_D_lock_63 (by decide) ?_
    refine x_sub [] [] rfl ?_
    exact t_D_lock_64 hA hT hD M (0 : Int32) hw
  · have hw := hw.2 hc
    refine x_iconst (v := 1) d_D_lock_59 (by decide) ?_
    refine x_goto 64 d_D_lock_60 rfl ?_
    refine x_sub [] [] rfl ?_
    exact t_D_lock_64 hA hT hD M (1 : Int32) hw
def k_D_lock_34 (Q : Int32 → sdM → Prop) (X : String → sdM → Prop) (M : sdM) (x1 : Int32) (x2 : Int32) : Prop := (¬ x2 = 0 → k_D_lock_51 Q X M x1) ∧ (x2 = 0 → (¬ (M 0 9) = x1 → k_D_lock_51 Q X M x1) ∧ ((M 0 9) = x1 → ∀ M8 : sdM, M8 = sd_s M 0 9 (-1 : Int32) → k_D_lock_51 Q X M8 x1))
set_option maxHeartbeats 1000000 in
theorem t_D_lock_34 (hA : sd_ad b n ad) (hT : l.stackTraces = false) (hD : isD n L dA) {Q : Int32 → sdM → Prop} {X : String → sdM → Prop} (M : sdM) (x1 : Int32) (x2 : Int32) (hw : k_D_lock_34 Q X M x1 x2) : sdW l (sdE0 sc) Y_D_lock D (sd_tys dA) b n ad L ad (sd_H D (sdE0 sc).1 n ad L) (sd_qi Q) X 34 [(0, .ref 0), (1, .int x1), (2, .int x2)] [] M 0 0 := by
  unfold k_D_lock_34 at hw
  refine x_iload_n 2 2 d_D_lock_34 rfl rfl ?_
  refine x_if_ne 51 d_D_lock_35 rfl (fun hc => ?_) (fun hc => ?_)
  · have hw := hw.1 hc
    refine x_sub [0, 1] [(0, .ref 0), (1, .int x1)] rfl ?_
    exact t_D_lock_51 hA hT hD M x1 hw
  · have hw := hw.2 hc
    refine x_aload_n 0 0 d_D_lock_38 rfl rfl ?_
    refine x_geti 9 d_D_lock_39 hD.1 hD.2.1 rfl rfl (by decide) lay_D (List.mem_cons_of_mem _ q256) rfl ?_
    refine x_iload_n 1 1 d_D_lock_42 rfl rfl ?_
    refine x_icmp_ne 51 d_D_lock_43 rfl (fun hc => ?_) (fun hc => ?_)
    · have hw := hw.1 hc
      refine x_sub [0, 1] [(0, .ref 0), (1, .int x1)] rfl ?_
      exact t_D_lock_51 hA hT hD M x1 hw
    · have hw := hw.2 hc
      refine x_aload_n 0 0 d_D_lock_46 rfl rfl ?_
      refine x_iconst (v := (-1)) d_D_lock_47 (by decide) ?_
      refine x_puti 9 (ty := .int) hA d_D_lock_48 hD.1 hD.2.1 rfl rfl (by decide) lay_D (List.mem_cons_of_mem _ q256) rfl ty_D ty_D_ok nm_D rfl (by decide +kernel) rfl rfl (fun M8 e9 => ?_)
      have hw := hw M8 e9
      clear e9
      refine x_sub [0, 1] [(0, .ref 0), (1, .int x1)] rfl ?_
      exact t_D_lock_51 hA hT hD M8 x1 hw
def w_D_lock (M : sdM) (a1 : Int32) (a2 : Int32) (Q : Int32 → sdM → Prop) (X : String → sdM → Prop) : Prop := w_D_requireReady M (fun M10 => w_D_requireSession M10 a1 (fun M11 => w_D_requireBegun M11 a1 (fun M12 => (a2 = 0 → k_D_lock_34 Q X M12 a1 a2) ∧ (¬ a2 = 0 → (¬ (M12 0 9) = (-1 : Int32) → k_D_lock_34 Q X M12 a1 a2) ∧ ((M12 0 9) = (-1 : Int32) → ∀ M13 : sdM, M13 = sd_s M12 0 9 a1 → k_D_lock_51 Q X M13 a1))) X) X) X
set_option maxHeartbeats 1000000 in
theorem c_D_lock {a1 : Int32} {a2 : Int32} (hA : sd_ad b n ad) (hT : l.stackTraces = false) (hD : isD n L dA) {Q : Int32 → sdM → Prop} {X : String → sdM → Prop} {M : sdM} (hw : w_D_lock M a1 a2 Q X) : sd_Cn l (sdE0 sc) y_D_lock Y_D_lock.2.2.2.2.1 Y_D_lock.2.2.2.2.2.1 3 18 D (sd_tys dA) b n ad L M [.ref 0, .int a1, .int a2] (sd_qi Q) X := by
  refine sd_enter (Y := Y_D_lock) rfl rfl rfl (Nat.le_of_ble_eq_true rfl) ?_
  show sdW l (sdE0 sc) Y_D_lock D (sd_tys dA) b n ad L ad (sd_H D (sdE0 sc).1 n ad L) (sd_qi Q) X 0 [(0, .ref 0), (1, .int a1), (2, .int a2)] [] M 3 18
  unfold w_D_lock at hw
  refine x_aload_n 0 0 d_D_lock_0 rfl rfl ?_
  refine x_callVv (As := []) (t := 0) (rest := []) (rc := 2) (rs := 12) (c_D_requireReady hA hT hD hw) cw_D_lock_D_requireReady_146 hD.1 hD.2.1 rfl d_D_lock_1 rfl rfl (Nat.le_of_ble_eq_true rfl) (fun _ _ h => h) (fun _ _ h => h) (fun M10 hw => ?_)
  refine x_aload_n 0 0 d_D_lock_4 rfl rfl ?_
  refine x_iload_n 1 1 d_D_lock_5 rfl rfl ?_
  refine x_callVv (As := [.int a1]) (t := 0) (rest := []) (rc := 1) (rs := 6) (c_D_requireSession hA hT hD hw) cw_D_lock_D_requireSession_149 hD.1 hD.2.1 rfl d_D_lock_6 rfl rfl (Nat.le_of_ble_eq_true rfl) (fun _ _ h => h) (fun _ _ h => h) (fun M11 hw => ?_)
  refine x_aload_n 0 0 d_D_lock_9 rfl rfl ?_
  refine x_iload_n 1 1 d_D_lock_10 rfl rfl ?_
  refine x_callVv (As := [.int a1]) (t := 0) (rest := []) (rc := 0) (rs := 0) (c_D_requireBegun hA hT hD hw) cw_D_lock_D_requireBegun_163 hD.1 hD.2.1 rfl d_D_lock_11 rfl rfl (Nat.le_of_ble_eq_true rfl) (fun _ _ h => h) (fun _ _ h => h) (fun M12 hw => ?_)
  refine x_iload_n 2 2 d_D_lock_14 rfl rfl ?_
  refine x_if_eq 34 d_D_lock_15 rfl (fun hc => ?_) (fun hc => ?_)
  · have hw := hw.1 hc
    exact t_D_lock_34 hA hT hD M12 a1 a2 hw
  · have hw := hw.2 hc
    refine x_aload_n 0 0 d_D_lock_18 rfl rfl ?_
    refine x_geti 9 d_D_lock_19 hD.1 hD.2.1 rfl rfl (by decide) lay_D (List.mem_cons_of_mem _ q256) rfl ?_
    refine x_iconst (v := (-1)) d_D_lock_22 (by decide) ?_
    refine x_icmp_ne 34 d_D_lock_23 rfl (fun hc => ?_) (fun hc => ?_)
    · have hw := hw.1 hc
      exact t_D_lock_34 hA hT hD M12 a1 a2 hw
    · have hw := hw.2 hc
      refine x_aload_n 0 0 d_D_lock_26 rfl rfl ?_
      refine x_iload_n 1 1 d_D_lock_27 rfl rfl ?_
      refine x_puti 9 (ty := .int) hA d_D_lock_28 hD.1 hD.2.1 rfl rfl (by decide) lay_D (List.mem_cons_of_mem _ q256) rfl ty_D ty_D_ok nm_D rfl (by decide +kernel) rfl rfl (fun M13 e14 => ?_)
      have hw := hw M13 e14
      clear e14
      refine x_goto 51 d_D_lock_31 rfl ?_
      refine x_sub [0, 1] [(0, .ref 0), (1, .int a1)] rfl ?_
      exact t_D_lock_51 hA hT hD M13 a1 hw
end
abbrev y_D_confirm : MethodName := ⟨"SettingsDesk", "confirm", "()Z"⟩
theorem d_D_confirm_0 : decode prog_1_method_14_code 0 = .ok (.aload_n 0, 1) := by decide +kernel
theorem d_D_confirm_1 : decode prog_1_method_14_code 1 = .ok (.invokevirtual 146, 3) := by decide +kernel
theorem d_D_confirm_4 : decode prog_1_method_14_code 4 = .ok (.aload_n 0, 1) := by decide +kernel
theorem d_D_confirm_5 : decode prog_1_method_14_code 5 = .ok (.getfield 50, 3) := by decide +kernel
theorem d_D_confirm_8 : decode prog_1_method_14_code 8 = .ok (.ifCond .le (7), 3) := by decide +kernel
theorem d_D_confirm_11 : decode prog_1_method_14_code 11 = .ok (.iconst 1, 1) := by decide +kernel
theorem d_D_confirm_12 : decode prog_1_method_14_code 12 = .ok (.goto (4), 3) := by decide +kernel
theorem d_D_confirm_15 : decode prog_1_method_14_code 15 = .ok (.iconst 0, 1) := by decide +kernel
theorem d_D_confirm_16 : decode prog_1_method_14_code 16 = .ok (.istore_n 1, 1) := by decide +kernel
theorem d_D_confirm_17 : decode prog_1_method_14_code 17 = .ok (.aload_n 0, 1) := by decide +kernel
theorem d_D_confirm_18 : decode prog_1_method_14_code 18 = .ok (.iconst 0, 1) := by decide +kernel
theorem d_D_confirm_19 : decode prog_1_method_14_code 19 = .ok (.putfield 50, 3) := by decide +kernel
theorem d_D_confirm_22 : decode prog_1_method_14_code 22 = .ok (.iload_n 1, 1) := by decide +kernel
theorem d_D_confirm_23 : decode prog_1_method_14_code 23 = .ok (.ireturn, 1) := by decide +kernel
def Y_D_confirm : sdY := ("SettingsDesk", prog_1_method_14_code, 2, (some .boolean), .code y_D_confirm prog_1_method_14_code 2 (some .boolean) :: sdB0, { frames := 7, cells := 1, slots := 6, locals := 102 }, 1, 6)
theorem cw_D_confirm_D_requireReady_146 : sd_cwV Y_D_confirm Y_D_requireReady y_D_requireReady 146 0 "SettingsDesk" := ⟨sd_goodV q334 q335 q336 q264 q332, ⟨_, rfl⟩, ⟨rfl, rfl, rfl, rfl⟩, ⟨rfl, by decide, by decide, by decide +kernel⟩, ⟨by decide, by decide⟩⟩
section
variable {l : Launch} {D : va_G} {dA : Nat → ClassId} {b n : Nat} {ad : Nat → Nat} {L : Nat → sdL} {sc : Option (Nat × Nat × (Nat → Int32))}
def k_D_confirm_16 (Q : Int32 → sdM → Prop) (X : String → sdM → Prop) (M : sdM) (s0 : Int32) : Prop := ∀ M4 : sdM, M4 = sd_s M 0 8 (0 : Int32) → sdB s0 ∧ Q s0 M4
set_option maxHeartbeats 1000000 in
theorem t_D_confirm_16 (hA : sd_ad b n ad) (hT : l.stackTraces = false) (hD : isD n L dA) {Q : Int32 → sdM → Prop} {X : String → sdM → Prop} (M : sdM) (s0 : Int32) (hw : k_D_confirm_16 Q X M s0) : sdW l (sdE0 sc) Y_D_confirm D (sd_tys dA) b n ad L ad (sd_H D (sdE0 sc).1 n ad L) (sd_qi Q) X 16 [(0, .ref 0)] [.int s0] M 0 0 := by
  unfold k_D_confirm_16 at hw
  refine x_istore_n 1 [(1, .int s0), (0, .ref 0)] d_D_confirm_16 rfl (by decide) rfl ?_
  refine x_aload_n 0 1 d_D_confirm_17 rfl rfl ?_
  refine x_iconst (v := 0) d_D_confirm_18 (by decide) ?_
  refine x_puti 8 (ty := .int) hA d_D_confirm_19 hD.1 hD.2.1 rfl rfl (by decide) lay_D (List.mem_cons_of_mem _ q257) rfl ty_D ty_D_ok nm_D rfl (by decide +kernel) rfl rfl (fun M4 e5 => ?_)
  have hw := hw M4 e5
  clear e5
  refine x_iload_n 1 0 d_D_confirm_22 rfl rfl ?_
  exact x_zret d_D_confirm_23 rfl (sdB_n hw.1) (fun _ h => h) ⟨_, rfl, hw.2⟩
def w_D_confirm (M : sdM) (Q : Int32 → sdM → Prop) (X : String → sdM → Prop) : Prop := w_D_requireReady M (fun M6 => ((M6 0 8) ≤ 0 → k_D_confirm_16 Q X M6 (0 : Int32)) ∧ (¬ (M6 0 8) ≤ 0 → k_D_confirm_16 Q X M6 (1 : Int32))) X
set_option maxHeartbeats 1000000 in
theorem c_D_confirm (hA : sd_ad b n ad) (hT : l.stackTraces = false) (hD : isD n L dA) {Q : Int32 → sdM → Prop} {X : String → sdM → Prop} {M : sdM} (hw : w_D_confirm M Q X) : sd_Cn l (sdE0 sc) y_D_confirm Y_D_confirm.2.2.2.2.1 Y_D_confirm.2.2.2.2.2.1 1 6 D (sd_tys dA) b n ad L M [.ref 0] (sd_qi Q) X := by
  refine sd_enter (Y := Y_D_confirm) rfl rfl rfl (Nat.le_of_ble_eq_true rfl) ?_
  show sdW l (sdE0 sc) Y_D_confirm D (sd_tys dA) b n ad L ad (sd_H D (sdE0 sc).1 n ad L) (sd_qi Q) X 0 [(0, .ref 0)] [] M 1 6
  unfold w_D_confirm at hw
  refine x_aload_n 0 0 d_D_confirm_0 rfl rfl ?_
  refine x_callVv (As := []) (t := 0) (rest := []) (rc := 0) (rs := 0) (c_D_requireReady hA hT hD hw) cw_D_confirm_D_requireReady_146 hD.1 hD.2.1 rfl d_D_confirm_1 rfl rfl (Nat.le_of_ble_eq_true rfl) (fun _ _ h => h) (fun _ _ h => h) (fun M6 hw => ?_)
  refine x_aload_n 0 0 d_D_confirm_4 rfl rfl ?_
  refine x_geti 8 d_D_confirm_5 hD.1 hD.2.1 rfl rfl (by decide) lay_D (List.mem_cons_of_mem _ q257) rfl ?_
  refine x_if_le 15 d_D_confirm_8 rfl (fun hc => ?_) (fun hc => ?_)
  · have hw := hw.1 hc
    refine x_iconst (v := 0) d_D_confirm_15 (by decide) ?_
    exact t_D_confirm_16 hA hT hD M6 (0 : Int32) hw
  · have hw := hw.2 hc
    refine x_iconst (v := 1) d_D_confirm_11 (by decide) ?_
    refine x_goto 16 d_D_confirm_12 rfl ?_
    exact t_D_confirm_16 hA hT hD M6 (1 : Int32) hw
end
abbrev y_D_olderSet : MethodName := ⟨"SettingsDesk", "olderSet", "(I)LSettingsDesk$Settings;"⟩
theorem d_D_olderSet_0 : decode prog_1_method_32_code 0 = .ok (.aload_n 0, 1) := by decide +kernel
theorem d_D_olderSet_1 : decode prog_1_method_32_code 1 = .ok (.getfield 29, 3) := by decide +kernel
theorem d_D_olderSet_4 : decode prog_1_method_32_code 4 = .ok (.aload_n 0, 1) := by decide +kernel
theorem d_D_olderSet_5 : decode prog_1_method_32_code 5 = .ok (.getfield 46, 3) := by decide +kernel
theorem d_D_olderSet_8 : decode prog_1_method_32_code 8 = .ok (.iload_n 1, 1) := by decide +kernel
theorem d_D_olderSet_9 : decode prog_1_method_32_code 9 = .ok (.isub, 1) := by decide +kernel
theorem d_D_olderSet_10 : decode prog_1_method_32_code 10 = .ok (.bipush (8), 2) := by decide +kernel
theorem d_D_olderSet_12 : decode prog_1_method_32_code 12 = .ok (.invokestatic 317, 3) := by decide +kernel
theorem d_D_olderSet_15 : decode prog_1_method_32_code 15 = .ok (.aaload, 1) := by decide +kernel
theorem d_D_olderSet_16 : decode prog_1_method_32_code 16 = .ok (.areturn, 1) := by decide +kernel
def Y_D_olderSet : sdY := ("SettingsDesk", prog_1_method_32_code, 2, (some (.object "SettingsDesk$Settings")), .code y_D_olderSet prog_1_method_32_code 2 (some (.object "SettingsDesk$Settings")) :: sdB0, { frames := 1, cells := 0, slots := 0, locals := 22 }, 0, 0)
theorem cw_D_olderSet_JM_floorMod_317 : sd_cwS Y_D_olderSet Y_JM_floorMod y_JM_floorMod 317 2 := ⟨sd_goodS q250 q252 q58 q251, ⟨_, rfl⟩, ⟨rfl, rfl, rfl, rfl⟩, ⟨by decide, by decide, by decide +kernel⟩, ⟨by decide, by decide⟩⟩
section
variable {l : Launch} {D : va_G} {dA : Nat → ClassId} {b n : Nat} {ad : Nat → Nat} {L : Nat → sdL} {sc : Option (Nat × Nat × (Nat → Int32))}
def w_D_olderSet (M : sdM) (a1 : Int32) (Q : Nat → sdM → Prop) : Prop := w_JM_floorMod M ((M 0 7) - a1) (8 : Int32) (fun r5 M4 => vp_in r5 8 ∧ Q (43 + 5 * r5.toNatClampNeg) M4)
set_option maxHeartbeats 1000000 in
theorem c_D_olderSet {a1 : Int32} (hA : sd_ad b n ad) (hT : l.stackTraces = false) (hD : isD n L dA) {Q : Nat → sdM → Prop} {M : sdM} (hw : w_D_olderSet M a1 Q) : sd_Cn l (sdE0 sc) y_D_olderSet Y_D_olderSet.2.2.2.2.1 Y_D_olderSet.2.2.2.2.2.1 0 0 D (sd_tys dA) b n ad L M [.ref 0, .int a1] (sd_qr (fun t => isS n L dA t) Q) sd_xf := by
  refine sd_enter (Y := Y_D_olderSet) rfl rfl rfl (Nat.le_of_ble_eq_true rfl) ?_
  show sdW l (sdE0 sc) Y_D_olderSet D (sd_tys dA) b n ad L ad (sd_H D (sdE0 sc).1 n ad L) (sd_qr (fun t => isS n L dA t) Q) sd_xf 0 [(0, .ref 0), (1, .int a1)] [] M 0 0
  unfold w_D_olderSet at hw
  refine x_aload_n 0 0 d_D_olderSet_0 rfl rfl ?_
  refine x_getr 4 40 d_D_olderSet_1 hD.1 hD.2.1 rfl rfl (by decide) lay_D (List.mem_cons_of_mem _ q244) rfl ?_
  refine x_aload_n 0 0 d_D_olderSet_4 rfl rfl ?_
  refine x_geti 7 d_D_olderSet_5 hD.1 hD.2.1 rfl rfl (by decide) lay_D (List.mem_cons_of_mem _ q245) rfl ?_
  refine x_iload_n 1 1 d_D_olderSet_8 rfl rfl ?_
  refine x_isub d_D_olderSet_9 ?_
  refine x_bipush (v := 8) d_D_olderSet_10 (by decide) ?_
  refine x_callSi (As := [.int ((M 0 7) - a1), .int (8 : Int32)]) (rest := [.ref 40]) (rc := 0) (rs := 0) (c_JM_floorMod hA hT  hw) cw_D_olderSet_JM_floorMod_317 d_D_olderSet_12 rfl rfl (Nat.le_of_ble_eq_true rfl) (fun _ _ h => h.elim) (fun _ _ h => h) (fun r5 M4 hw => ?_)
  obtain ⟨hi6, hw⟩ := hw
  refine x_aald (43 + 5 * r5.toNatClampNeg) d_D_olderSet_15 hD.older.1 hD.older.2 (t0 := 5) rfl hi6 rfl ?_
  exact x_aret d_D_olderSet_16 rfl rfl (fun _ h => h) ⟨_, rfl, (hD.olderAt hi6), hw⟩
end
theorem q379 : (.methodLink "SettingsDesk" 239 ⟨"SettingsDesk", "olderSet", "(I)LSettingsDesk$Settings;"⟩ : Cond) ∈ sdB0 := sd_tb4 52 rfl rfl
theorem q380 : (.code ⟨"SettingsDesk", "olderSet", "(I)LSettingsDesk$Settings;"⟩ prog_1_method_32_code 2 (some (.object "SettingsDesk$Settings")) : Cond) ∈ sdB0 := sd_tb4 55 rfl rfl
theorem q381 : (.instanceMethod ⟨"SettingsDesk", "olderSet", "(I)LSettingsDesk$Settings;"⟩ : Cond) ∈ sdB0 := sd_tb4 54 rfl rfl
theorem q382 : (.selects "SettingsDesk" ⟨"SettingsDesk", "olderSet", "(I)LSettingsDesk$Settings;"⟩ ⟨"SettingsDesk", "olderSet", "(I)LSettingsDesk$Settings;"⟩ : Cond) ∈ sdB0 := sd_tbp (q := (⟨"SettingsDesk", "olderSet", "(I)LSettingsDesk$Settings;"⟩, 12)) (List.mem_of_getElem? (i := 12) rfl)
abbrev y_D_tick : MethodName := ⟨"SettingsDesk", "tick", "()Z"⟩
theorem d_D_tick_0 : decode prog_1_method_15_code 0 = .ok (.aload_n 0, 1) := by decide +kernel
theorem d_D_tick_1 : decode prog_1_method_15_code 1 = .ok (.invokevirtual 146, 3) := by decide +kernel
theorem d_D_tick_4 : decode prog_1_method_15_code 4 = .ok (.aload_n 0, 1) := by decide +kernel
theorem d_D_tick_5 : decode prog_1_method_15_code 5 = .ok (.getfield 50, 3) := by decide +kernel
theorem d_D_tick_8 : decode prog_1_method_15_code 8 = .ok (.ifCond .ne (5), 3) := by decide +kernel
theorem d_D_tick_11 : decode prog_1_method_15_code 11 = .ok (.iconst 0, 1) := by decide +kernel
theorem d_D_tick_12 : decode prog_1_method_15_code 12 = .ok (.ireturn, 1) := by decide +kernel
theorem d_D_tick_13 : decode prog_1_method_15_code 13 = .ok (.aload_n 0, 1) := by decide +kernel
theorem d_D_tick_14 : decode prog_1_method_15_code 14 = .ok (.dup, 1) := by decide +kernel
theorem d_D_tick_15 : decode prog_1_method_15_code 15 = .ok (.getfield 50, 3) := by decide +kernel
theorem d_D_tick_18 : decode prog_1_method_15_code 18 = .ok (.iconst 1, 1) := by decide +kernel
theorem d_D_tick_19 : decode prog_1_method_15_code 19 = .ok (.isub, 1) := by decide +kernel
theorem d_D_tick_20 : decode prog_1_method_15_code 20 = .ok (.putfield 50, 3) := by decide +kernel
theorem d_D_tick_23 : decode prog_1_method_15_code 23 = .ok (.aload_n 0, 1) := by decide +kernel
theorem d_D_tick_24 : decode prog_1_method_15_code 24 = .ok (.getfield 50, 3) := by decide +kernel
theorem d_D_tick_27 : decode prog_1_method_15_code 27 = .ok (.ifCond .le (5), 3) := by decide +kernel
theorem d_D_tick_30 : decode prog_1_method_15_code 30 = .ok (.iconst 0, 1) := by decide +kernel
theorem d_D_tick_31 : decode prog_1_method_15_code 31 = .ok (.ireturn, 1) := by decide +kernel
theorem d_D_tick_32 : decode prog_1_method_15_code 32 = .ok (.aload_n 0, 1) := by decide +kernel
theorem d_D_tick_33 : decode prog_1_method_15_code 33 = .ok (.aload_n 0, 1) := by decide +kernel
theorem d_D_tick_34 : decode prog_1_method_15_code 34 = .ok (.iconst 1, 1) := by decide +kernel
theorem d_D_tick_35 : decode prog_1_method_15_code 35 = .ok (.invokevirtual 239, 3) := by decide +kernel
theorem d_D_tick_38 : decode prog_1_method_15_code 38 = .ok (.invokevirtual 235, 3) := by decide +kernel
theorem d_D_tick_41 : decode prog_1_method_15_code 41 = .ok (.ireturn, 1) := by decide +kernel
def Y_D_tick : sdY := ("SettingsDesk", prog_1_method_15_code, 1, (some .boolean), .code y_D_tick prog_1_method_15_code 1 (some .boolean) :: sdB0, { frames := 7, cells := 1, slots := 6, locals := 136 }, 1, 6)
theorem cw_D_tick_D_requireReady_146 : sd_cwV Y_D_tick Y_D_requireReady y_D_requireReady 146 0 "SettingsDesk" := ⟨sd_goodV q334 q335 q336 q264 q332, ⟨_, rfl⟩, ⟨rfl, rfl, rfl, rfl⟩, ⟨rfl, by decide, by decide, by decide +kernel⟩, ⟨by decide, by decide⟩⟩
theorem cw_D_tick_D_olderSet_239 : sd_cwV Y_D_tick Y_D_olderSet y_D_olderSet 239 1 "SettingsDesk" := ⟨sd_goodV q379 q381 q382 q264 q380, ⟨_, rfl⟩, ⟨rfl, rfl, rfl, rfl⟩, ⟨rfl, by decide, by decide, by decide +kernel⟩, ⟨by decide, by decide⟩⟩
theorem cw_D_tick_D_changeTo_235 : sd_cwV Y_D_tick Y_D_changeTo y_D_changeTo 235 1 "SettingsDesk" := ⟨sd_goodV q260 q262 q263 q264 q261, ⟨_, rfl⟩, ⟨rfl, rfl, rfl, rfl⟩, ⟨rfl, by decide, by decide, by decide +kernel⟩, ⟨by decide, by decide⟩⟩
section
variable {l : Launch} {D : va_G} {dA : Nat → ClassId} {b n : Nat} {ad : Nat → Nat} {L : Nat → sdL} {sc : Option (Nat × Nat × (Nat → Int32))}
def w_D_tick (M : sdM) (Q : Int32 → sdM → Prop) (X : String → sdM → Prop) : Prop := w_D_requireReady M (fun M9 => (¬ (M9 0 8) = 0 → ∀ M10 : sdM, M10 = sd_s M9 0 8 ((M9 0 8) - (1 : Int32)) → ((M10 0 8) ≤ 0 → w_D_olderSet M10 (1 : Int32) (fun t13 M12 => w_D_changeTo M12 t13 (fun r16 M15 => sdB r16 ∧ Q r16 M15))) ∧ (¬ (M10 0 8) ≤ 0 → sdB (0 : Int32) ∧ Q (0 : Int32) M10)) ∧ ((M9 0 8) = 0 → sdB (0 : Int32) ∧ Q (0 : Int32) M9)) X
set_option maxHeartbeats 1000000 in
theorem c_D_tick (hA : sd_ad b n ad) (hT : l.stackTraces = false) (hD : isD n L dA) {Q : Int32 → sdM → Prop} {X : String → sdM → Prop} {M : sdM} (hw : w_D_tick M Q X) : sd_Cn l (sdE0 sc) y_D_tick Y_D_tick.2.2.2.2.1 Y_D_tick.2.2.2.2.2.1 1 6 D (sd_tys dA) b n ad L M [.ref 0] (sd_qi Q) X := by
  refine sd_enter (Y := Y_D_tick) rfl rfl rfl (Nat.le_of_ble_eq_true rfl) ?_
  show sdW l (sdE0 sc) Y_D_tick D (sd_tys dA) b n ad L ad (sd_H D (sdE0 sc).1 n ad L) (sd_qi Q) X 0 [(0, .ref 0)] [] M 1 6
  unfold w_D_tick at hw
  refine x_aload_n 0 0 d_D_tick_0 rfl rfl ?_
  refine x_callVv (As := []) (t := 0) (rest := []) (rc := 0) (rs := 0) (c_D_requireReady hA hT hD hw) cw_D_tick_D_requireReady_146 hD.1 hD.2.1 rfl d_D_tick_1 rfl rfl (Nat.le_of_ble_eq_true rfl) (fun _ _ h => h) (fun _ _ h => h) (fun M9 hw => ?_)
  refine x_aload_n 0 0 d_D_tick_4 rfl rfl ?_
  refine x_geti 8 d_D_tick_5 hD.1 hD.2.1 rfl rfl (by decide) lay_D (List.mem_cons_of_mem _ q257) rfl ?_
  refine x_if_ne 13 d_D_tick_8 rfl (fun hc => ?_) (fun hc => ?_)
  · have hw := hw.1 hc
    refine x_aload_n 0 0 d_D_tick_13 rfl rfl ?_
    refine x_dup d_D_tick_14 rfl ?_
    refine x_geti 8 d_D_tick_15 hD.1 hD.2.1 rfl rfl (by decide) lay_D (List.mem_cons_of_mem _ q257) rfl ?_
    refine x_iconst (v := 1) d_D_tick_18 (by decide) ?_
    refine x_isub d_D_tick_19 ?_
    refine x_puti 8 (ty := .int) hA d_D_tick_20 hD.1 hD.2.1 rfl rfl (by decide) lay_D (List.mem_cons_of_mem _ q257) rfl ty_D ty_D_ok nm_D rfl (by decide +kernel) rfl rfl (fun M10 e11 => ?_)
    have hw := hw M10 e11
    clear e11
    refine x_aload_n 0 0 d_D_tick_23 rfl rfl ?_
    refine x_geti 8 d_D_tick_24 hD.1 hD.2.1 rfl rfl (by decide) lay_D (List.mem_cons_of_mem _ q257) rfl ?_
    refine x_if_le 32 d_D_tick_27 rfl (fun hc => ?_) (fun hc => ?_)
    · have hw := hw.1 hc
      refine x_aload_n 0 0 d_D_tick_32 rfl rfl ?_
      refine x_aload_n 0 0 d_D_tick_33 rfl rfl ?_
      refine x_iconst (v := 1) d_D_tick_34 (by decide) ?_
      refine x_callVr (As := [.int (1 : Int32)]) (t := 0) (rest := [.ref 0]) (rc := 0) (rs := 0) (c_D_olderSet hA hT hD hw) cw_D_tick_D_olderSet_239 hD.1 hD.2.1 rfl d_D_tick_35 rfl rfl (Nat.le_of_ble_eq_true rfl) (fun _ _ h => h.elim) (fun _ _ h => h) (fun t13 M12 ht14 hw => ?_)
      refine x_callVi (As := [.ref t13]) (t := 0) (rest := []) (rc := 0) (rs := 0) (c_D_changeTo hA hT hD ht14 hw) cw_D_tick_D_changeTo_235 hD.1 hD.2.1 rfl d_D_tick_38 rfl rfl (Nat.le_of_ble_eq_true rfl) (fun _ _ h => h.elim) (fun _ _ h => h) (fun r16 M15 hw => ?_)
      exact x_zret d_D_tick_41 rfl (sdB_n hw.1) (fun _ h => h) ⟨_, rfl, hw.2⟩
    · have hw := hw.2 hc
      refine x_iconst (v := 0) d_D_tick_30 (by decide) ?_
      exact x_zret d_D_tick_31 rfl (sdB_n hw.1) (fun _ h => h) ⟨_, rfl, hw.2⟩
  · have hw := hw.2 hc
    refine x_iconst (v := 0) d_D_tick_11 (by decide) ?_
    exact x_zret d_D_tick_12 rfl (sdB_n hw.1) (fun _ h => h) ⟨_, rfl, hw.2⟩
end
theorem q383 : (.code ⟨"SettingsDesk", "rollback", "(II)I"⟩ prog_1_method_16_code 3 (some .int) : Cond) ∈ sdB0 := sd_tb4 62 rfl rfl
abbrev y_D_rollback : MethodName := ⟨"SettingsDesk", "rollback", "(II)I"⟩
theorem d_D_rollback_0 : decode prog_1_method_16_code 0 = .ok (.aload_n 0, 1) := by decide +kernel
theorem d_D_rollback_1 : decode prog_1_method_16_code 1 = .ok (.invokevirtual 146, 3) := by decide +kernel
theorem d_D_rollback_4 : decode prog_1_method_16_code 4 = .ok (.aload_n 0, 1) := by decide +kernel
theorem d_D_rollback_5 : decode prog_1_method_16_code 5 = .ok (.iload_n 1, 1) := by decide +kernel
theorem d_D_rollback_6 : decode prog_1_method_16_code 6 = .ok (.invokevirtual 149, 3) := by decide +kernel
theorem d_D_rollback_9 : decode prog_1_method_16_code 9 = .ok (.aload_n 0, 1) := by decide +kernel
theorem d_D_rollback_10 : decode prog_1_method_16_code 10 = .ok (.iload_n 1, 1) := by decide +kernel
theorem d_D_rollback_11 : decode prog_1_method_16_code 11 = .ok (.invokevirtual 163, 3) := by decide +kernel
theorem d_D_rollback_14 : decode prog_1_method_16_code 14 = .ok (.iload_n 2, 1) := by decide +kernel
theorem d_D_rollback_15 : decode prog_1_method_16_code 15 = .ok (.ifCond .lt (11), 3) := by decide +kernel
theorem d_D_rollback_18 : decode prog_1_method_16_code 18 = .ok (.iload_n 2, 1) := by decide +kernel
theorem d_D_rollback_19 : decode prog_1_method_16_code 19 = .ok (.aload_n 0, 1) := by decide +kernel
theorem d_D_rollback_20 : decode prog_1_method_16_code 20 = .ok (.invokevirtual 242, 3) := by decide +kernel
theorem d_D_rollback_23 : decode prog_1_method_16_code 23 = .ok (.if_icmp .le (13), 3) := by decide +kernel
theorem d_D_rollback_26 : decode prog_1_method_16_code 26 = .ok (.new 91, 3) := by decide +kernel
theorem d_D_rollback_29 : decode prog_1_method_16_code 29 = .ok (.dup, 1) := by decide +kernel
theorem d_D_rollback_30 : decode prog_1_method_16_code 30 = .ok (.ldc 245, 2) := by decide +kernel
theorem d_D_rollback_32 : decode prog_1_method_16_code 32 = .ok (.invokespecial 95, 3) := by decide +kernel
theorem d_D_rollback_35 : decode prog_1_method_16_code 35 = .ok (.athrow, 1) := by decide +kernel
theorem d_D_rollback_36 : decode prog_1_method_16_code 36 = .ok (.aload_n 0, 1) := by decide +kernel
theorem d_D_rollback_37 : decode prog_1_method_16_code 37 = .ok (.getfield 35, 3) := by decide +kernel
theorem d_D_rollback_40 : decode prog_1_method_16_code 40 = .ok (.iload_n 1, 1) := by decide +kernel
theorem d_D_rollback_41 : decode prog_1_method_16_code 41 = .ok (.aaload, 1) := by decide +kernel
theorem d_D_rollback_42 : decode prog_1_method_16_code 42 = .ok (.iload_n 2, 1) := by decide +kernel
theorem d_D_rollback_43 : decode prog_1_method_16_code 43 = .ok (.ifCond .ne (10), 3) := by decide +kernel
theorem d_D_rollback_46 : decode prog_1_method_16_code 46 = .ok (.aload_n 0, 1) := by decide +kernel
theorem d_D_rollback_47 : decode prog_1_method_16_code 47 = .ok (.getfield 19, 3) := by decide +kernel
theorem d_D_rollback_50 : decode prog_1_method_16_code 50 = .ok (.goto (8), 3) := by decide +kernel
theorem d_D_rollback_53 : decode prog_1_method_16_code 53 = .ok (.aload_n 0, 1) := by decide +kernel
theorem d_D_rollback_54 : decode prog_1_method_16_code 54 = .ok (.iload_n 2, 1) := by decide +kernel
theorem d_D_rollback_55 : decode prog_1_method_16_code 55 = .ok (.invokevirtual 239, 3) := by decide +kernel
theorem d_D_rollback_58 : decode prog_1_method_16_code 58 = .ok (.aload_n 0, 1) := by decide +kernel
theorem d_D_rollback_59 : decode prog_1_method_16_code 59 = .ok (.getfield 19, 3) := by decide +kernel
theorem d_D_rollback_62 : decode prog_1_method_16_code 62 = .ok (.invokevirtual 155, 3) := by decide +kernel
theorem d_D_rollback_65 : decode prog_1_method_16_code 65 = .ok (.aload_n 0, 1) := by decide +kernel
theorem d_D_rollback_66 : decode prog_1_method_16_code 66 = .ok (.invokevirtual 242, 3) := by decide +kernel
theorem d_D_rollback_69 : decode prog_1_method_16_code 69 = .ok (.ireturn, 1) := by decide +kernel
def Y_D_rollback : sdY := ("SettingsDesk", prog_1_method_16_code, 3, (some .int), .code y_D_rollback prog_1_method_16_code 3 (some .int) :: sdB0, { frames := 7, cells := 4, slots := 24, locals := 103 }, 4, 24)
theorem cw_D_rollback_D_requireReady_146 : sd_cwV Y_D_rollback Y_D_requireReady y_D_requireReady 146 0 "SettingsDesk" := ⟨sd_goodV q334 q335 q336 q264 q332, ⟨_, rfl⟩, ⟨rfl, rfl, rfl, rfl⟩, ⟨rfl, by decide, by decide, by decide +kernel⟩, ⟨by decide, by decide⟩⟩
theorem cw_D_rollback_D_requireSession_149 : sd_cwV Y_D_rollback Y_D_requireSession y_D_requireSession 149 1 "SettingsDesk" := ⟨sd_goodV q337 q338 q339 q264 q333, ⟨_, rfl⟩, ⟨rfl, rfl, rfl, rfl⟩, ⟨rfl, by decide, by decide, by decide +kernel⟩, ⟨by decide, by decide⟩⟩
theorem cw_D_rollback_D_requireBegun_163 : sd_cwV Y_D_rollback Y_D_requireBegun y_D_requireBegun 163 1 "SettingsDesk" := ⟨sd_goodV q355 q356 q357 q264 q349, ⟨_, rfl⟩, ⟨rfl, rfl, rfl, rfl⟩, ⟨rfl, by decide, by decide, by decide +kernel⟩, ⟨by decide, by decide⟩⟩
theorem cw_D_rollback_D_olderCount_242 : sd_cwV Y_D_rollback Y_D_olderCount y_D_olderCount 242 0 "SettingsDesk" := ⟨sd_goodV q274 q276 q277 q264 q275, ⟨_, rfl⟩, ⟨rfl, rfl, rfl, rfl⟩, ⟨rfl, by decide, by decide, by decide +kernel⟩, ⟨by decide, by decide⟩⟩
theorem cw_D_rollback_D_olderSet_239 : sd_cwV Y_D_rollback Y_D_olderSet y_D_olderSet 239 1 "SettingsDesk" := ⟨sd_goodV q379 q381 q382 q264 q380, ⟨_, rfl⟩, ⟨rfl, rfl, rfl, rfl⟩, ⟨rfl, by decide, by decide, by decide +kernel⟩, ⟨by decide, by decide⟩⟩
theorem cw_D_rollback_N_takeOver_155 : sd_cwV Y_D_rollback Y_N_takeOver y_N_takeOver 155 2 "SettingsDesk$Session" := ⟨sd_goodV q340 q342 q343 q344 q341, ⟨_, rfl⟩, ⟨rfl, rfl, rfl, rfl⟩, ⟨rfl, by decide, by decide, by decide +kernel⟩, ⟨by decide, by decide⟩⟩
section
variable {l : Launch} {D : va_G} {dA : Nat → ClassId} {b n : Nat} {ad : Nat → Nat} {L : Nat → sdL} {sc : Option (Nat × Nat × (Nat → Int32))}
def k_D_rollback_58 (Q : Int32 → sdM → Prop) (X : String → sdM → Prop) (M : sdM) (u0 : Nat) (u1 : Nat) : Prop := w_N_takeOver u0 M u1 25 (fun M13 => w_D_olderCount M13 (fun r15 M14 => Q r15 M14))
set_option maxHeartbeats 1000000 in
theorem t_D_rollback_58 (hA : sd_ad b n ad) (hT : l.stackTraces = false) (hD : isD n L dA) {Q : Int32 → sdM → Prop} {X : String → sdM → Prop} (M : sdM) (u0 : Nat) (u1 : Nat) (hu0 : isN n L dA u0) (hu1 : isS n L dA u1) (hw : k_D_rollback_58 Q X M u0 u1) : sdW l (sdE0 sc) Y_D_rollback D (sd_tys dA) b n ad L ad (sd_H D (sdE0 sc).1 n ad L) (sd_qi Q) X 58 [(0, .ref 0)] [.ref u1, .ref u0] M 1 6 := by
  unfold k_D_rollback_58 at hw
  refine x_aload_n 0 0 d_D_rollback_58 rfl rfl ?_
  refine x_getr 1 25 d_D_rollback_59 hD.1 hD.2.1 rfl rfl (by decide) lay_D (List.mem_cons_of_mem _ q243) rfl ?_
  refine x_callVv (As := [.ref u1, .ref 25]) (t := u0) (rest := []) (rc := 1) (rs := 6) (c_N_takeOver hA hT hu0 hu1 hD.running hw) cw_D_rollback_N_takeOver_155 hu0.1 hu0.2.1 rfl d_D_rollback_62 rfl rfl (Nat.le_of_ble_eq_true rfl) (fun _ _ h => h.elim) (fun _ _ h => h) (fun M13 hw => ?_)
  refine x_aload_n 0 0 d_D_rollback_65 rfl rfl ?_
  refine x_callVi (As := []) (t := 0) (rest := []) (rc := 1) (rs := 6) (c_D_olderCount hA hT hD hw) cw_D_rollback_D_olderCount_242 hD.1 hD.2.1 rfl d_D_rollback_66 rfl rfl (Nat.le_of_ble_eq_true rfl) (fun _ _ h => h.elim) (fun _ _ h => h) (fun r15 M14 hw => ?_)
  exact x_iret d_D_rollback_69 rfl (fun _ h => h) ⟨_, rfl, hw⟩
def k_D_rollback_26 (Q : Int32 → sdM → Prop) (X : String → sdM → Prop) (M : sdM) : Prop := X "java/lang/IllegalArgumentException" M
set_option maxHeartbeats 1000000 in
theorem t_D_rollback_26 (hA : sd_ad b n ad) (hT : l.stackTraces = false) (hD : isD n L dA) {Q : Int32 → sdM → Prop} {X : String → sdM → Prop} (M : sdM) (hw : k_D_rollback_26 Q X M ) : sdW l (sdE0 sc) Y_D_rollback D (sd_tys dA) b n ad L ad (sd_H D (sdE0 sc).1 n ad L) (sd_qi Q) X 26 [] [] M 1 6 := by
  unfold k_D_rollback_26 at hw
  exact x_throwS (names := sdExN) (is := 245) (ic := 95) (rc := 0) (rs := 0) hT fit_IAE fit_N (sd_goodB q383) (List.mem_cons_of_mem _ q294) (List.mem_cons_of_mem _ q295) (List.mem_cons_of_mem _ q296) (List.mem_of_getElem? (i := 18) rfl) oa_IAE d_D_rollback_26 d_D_rollback_29 (Or.inl ⟨d_D_rollback_30, rfl⟩) d_D_rollback_32 d_D_rollback_35 (by decide) (Nat.le_of_ble_eq_true rfl) rfl rfl (fun _ _ h => h) hw
def w_D_rollback (M : sdM) (a1 : Int32) (a2 : Int32) (Q : Int32 → sdM → Prop) (X : String → sdM → Prop) : Prop := w_D_requireReady M (fun M16 => w_D_requireSession M16 a1 (fun M17 => w_D_requireBegun M17 a1 (fun M18 => (a2 < 0 → k_D_rollback_26 Q X M18) ∧ (¬ a2 < 0 → w_D_olderCount M18 (fun r20 M19 => (a2 ≤ r20 → vp_in a1 3 ∧ (¬ a2 = 0 → w_D_olderSet M19 a2 (fun t23 M22 => k_D_rollback_58 Q X M22 (83 + 11 * a1.toNatClampNeg) t23)) ∧ (a2 = 0 → k_D_rollback_58 Q X M19 (83 + 11 * a1.toNatClampNeg) 25)) ∧ (¬ a2 ≤ r20 → k_D_rollback_26 Q X M19)))) X) X) X
set_option maxHeartbeats 1000000 in
theorem c_D_rollback {a1 : Int32} {a2 : Int32} (hA : sd_ad b n ad) (hT : l.stackTraces = false) (hD : isD n L dA) {Q : Int32 → sdM → Prop} {X : String → sdM → Prop} {M : sdM} (hw : w_D_rollback M a1 a2 Q X) : sd_Cn l (sdE0 sc) y_D_rollback Y_D_rollback.2.2.2.2.1 Y_D_rollback.2.2.2.2.2.1 4 24 D (sd_tys dA) b n ad L M [.ref 0, .int a1, .int a2] (sd_qi Q) X := by
  refine sd_enter (Y := Y_D_rollback) rfl rfl rfl (Nat.le_of_ble_eq_true rfl) ?_
  show sdW l (sdE0 sc) Y_D_rollback D (sd_tys dA) b n ad L ad (sd_H D (sdE0 sc).1 n ad L) (sd_qi Q) X 0 [(0, .ref 0), (1, .int a1), (2, .int a2)] [] M 4 24
  unfold w_D_rollback at hw
  refine x_aload_n 0 0 d_D_rollback_0 rfl rfl ?_
  refine x_callVv (As := []) (t := 0) (rest := []) (rc := 3) (rs := 18) (c_D_requireReady hA hT hD hw) cw_D_rollback_D_requireReady_146 hD.1 hD.2.1 rfl d_D_rollback_1 rfl rfl (Nat.le_of_ble_eq_true rfl) (fun _ _ h => h) (fun _ _ h => h) (fun M16 hw => ?_)
  refine x_aload_n 0 0 d_D_rollback_4 rfl rfl ?_
  refine x_iload_n 1 1 d_D_rollback_5 rfl rfl ?_
  refine x_callVv (As := [.int a1]) (t := 0) (rest := []) (rc := 2) (rs := 12) (c_D_requireSession hA hT hD hw) cw_D_rollback_D_requireSession_149 hD.1 hD.2.1 rfl d_D_rollback_6 rfl rfl (Nat.le_of_ble_eq_true rfl) (fun _ _ h => h) (fun _ _ h => h) (fun M17 hw => ?_)
  refine x_aload_n 0 0 d_D_rollback_9 rfl rfl ?_
  refine x_iload_n 1 1 d_D_rollback_10 rfl rfl ?_
  refine x_callVv (As := [.int a1]) (t := 0) (rest := []) (rc := 1) (rs := 6) (c_D_requireBegun hA hT hD hw) cw_D_rollback_D_requireBegun_163 hD.1 hD.2.1 rfl d_D_rollback_11 rfl rfl (Nat.le_of_ble_eq_true rfl) (fun _ _ h => h) (fun _ _ h => h) (fun M18 hw => ?_)
  refine x_iload_n 2 2 d_D_rollback_14 rfl rfl ?_
  refine x_if_lt 26 d_D_rollback_15 rfl (fun hc => ?_) (fun hc => ?_)
  · have hw := hw.1 hc
    refine x_sub [] [] rfl ?_
    exact t_D_rollback_26 hA hT hD M18 hw
  · have hw := hw.2 hc
    refine x_iload_n 2 2 d_D_rollback_18 rfl rfl ?_
    refine x_aload_n 0 0 d_D_rollback_19 rfl rfl ?_
    refine x_callVi (As := []) (t := 0) (rest := [.int a2]) (rc := 1) (rs := 6) (c_D_olderCount hA hT hD hw) cw_D_rollback_D_olderCount_242 hD.1 hD.2.1 rfl d_D_rollback_20 rfl rfl (Nat.le_of_ble_eq_true rfl) (fun _ _ h => h.elim) (fun _ _ h => h) (fun r20 M19 hw => ?_)
    refine x_icmp_le 36 d_D_rollback_23 rfl (fun hc => ?_) (fun hc => ?_)
    · have hw := hw.1 hc
      refine x_aload_n 0 0 d_D_rollback_36 rfl rfl ?_
      refine x_getr 5 41 d_D_rollback_37 hD.1 hD.2.1 rfl rfl (by decide) lay_D (List.mem_cons_of_mem _ q258) rfl ?_
      refine x_iload_n 1 1 d_D_rollback_40 rfl rfl ?_
      obtain ⟨hi21, hw⟩ := hw
      refine x_aald (83 + 11 * a1.toNatClampNeg) d_D_rollback_41 hD.sessions.1 hD.sessions.2 (t0 := 6) rfl hi21 rfl ?_
      refine x_iload_n 2 2 d_D_rollback_42 rfl rfl ?_
      refine x_if_ne 53 d_D_rollback_43 rfl (fun hc => ?_) (fun hc => ?_)
      · have hw := hw.1 hc
        refine x_aload_n 0 0 d_D_rollback_53 rfl rfl ?_
        refine x_iload_n 2 2 d_D_rollback_54 rfl rfl ?_
        refine x_callVr (As := [.int a2]) (t := 0) (rest := [.ref (83 + 11 * a1.toNatClampNeg)]) (rc := 1) (rs := 6) (c_D_olderSet hA hT hD hw) cw_D_rollback_D_olderSet_239 hD.1 hD.2.1 rfl d_D_rollback_55 rfl rfl (Nat.le_of_ble_eq_true rfl) (fun _ _ h => h.elim) (fun _ _ h => h) (fun t23 M22 ht24 hw => ?_)
        refine x_sub [0] [(0, .ref 0)] rfl ?_
        exact t_D_rollback_58 hA hT hD M22 (83 + 11 * a1.toNatClampNeg) t23 (hD.sessionsAt hi21) ht24 hw
      · have hw := hw.2 hc
        refine x_aload_n 0 0 d_D_rollback_46 rfl rfl ?_
        refine x_getr 1 25 d_D_rollback_47 hD.1 hD.2.1 rfl rfl (by decide) lay_D (List.mem_cons_of_mem _ q243) rfl ?_
        refine x_goto 58 d_D_rollback_50 rfl ?_
        refine x_sub [0] [(0, .ref 0)] rfl ?_
        exact t_D_rollback_58 hA hT hD M19 (83 + 11 * a1.toNatClampNeg) 25 (hD.sessionsAt hi21) hD.running hw
    · have hw := hw.2 hc
      refine x_sub [] [] rfl ?_
      exact t_D_rollback_26 hA hT hD M19 hw
end
theorem q384 : (.fieldLink "SettingsDesk" 60 "SettingsDesk" "pagesToFailure" "I" : Cond) ∈ sdB0 := sd_tb1 211 rfl rfl
abbrev y_D_failPower : MethodName := ⟨"SettingsDesk", "failPower", "()V"⟩
theorem d_D_failPower_0 : decode prog_1_method_35_code 0 = .ok (.aload_n 0, 1) := by decide +kernel
theorem d_D_failPower_1 : decode prog_1_method_35_code 1 = .ok (.iconst 1, 1) := by decide +kernel
theorem d_D_failPower_2 : decode prog_1_method_35_code 2 = .ok (.putfield 56, 3) := by decide +kernel
theorem d_D_failPower_5 : decode prog_1_method_35_code 5 = .ok (.aload_n 0, 1) := by decide +kernel
theorem d_D_failPower_6 : decode prog_1_method_35_code 6 = .ok (.iconst (-1), 1) := by decide +kernel
theorem d_D_failPower_7 : decode prog_1_method_35_code 7 = .ok (.putfield 60, 3) := by decide +kernel
theorem d_D_failPower_10 : decode prog_1_method_35_code 10 = .ok (.return_, 1) := by decide +kernel
def Y_D_failPower : sdY := ("SettingsDesk", prog_1_method_35_code, 1, none, .code y_D_failPower prog_1_method_35_code 1 none :: sdB0, { frames := 0, cells := 0, slots := 0, locals := 0 }, 0, 0)
section
variable {l : Launch} {D : va_G} {dA : Nat → ClassId} {b n : Nat} {ad : Nat → Nat} {L : Nat → sdL} {sc : Option (Nat × Nat × (Nat → Int32))}
def w_D_failPower (M : sdM) (Q : sdM → Prop) : Prop := sdB (1 : Int32) ∧ ∀ M6 : sdM, M6 = sd_s M 0 10 (1 : Int32) → ∀ M9 : sdM, M9 = sd_s M6 0 11 (-1 : Int32) → Q M9
set_option maxHeartbeats 1000000 in
theorem c_D_failPower (hA : sd_ad b n ad) (hT : l.stackTraces = false) (hD : isD n L dA) {Q : sdM → Prop} {M : sdM} (hw : w_D_failPower M Q) : sd_Cn l (sdE0 sc) y_D_failPower Y_D_failPower.2.2.2.2.1 Y_D_failPower.2.2.2.2.2.1 0 0 D (sd_tys dA) b n ad L M [.ref 0] (sd_qv Q) sd_xf := by
  refine sd_enter (Y := Y_D_failPower) rfl rfl rfl (Nat.le_of_ble_eq_true rfl) ?_
  show sdW l (sdE0 sc) Y_D_failPower D (sd_tys dA) b n ad L ad (sd_H D (sdE0 sc).1 n ad L) (sd_qv Q) sd_xf 0 [(0, .ref 0)] [] M 0 0
  unfold w_D_failPower at hw
  refine x_aload_n 0 0 d_D_failPower_0 rfl rfl ?_
  refine x_iconst (v := 1) d_D_failPower_1 (by decide) ?_
  obtain ⟨hb8, hw⟩ := hw
  refine x_puti 10 (ty := .boolean) hA d_D_failPower_2 hD.1 hD.2.1 rfl rfl (by decide) lay_D (List.mem_cons_of_mem _ q254) rfl ty_D ty_D_ok nm_D rfl (by decide +kernel) (sdB_n hb8) (sdB_f hb8) (fun M6 e7 => ?_)
  have hw := hw M6 e7
  clear e7
  refine x_aload_n 0 0 d_D_failPower_5 rfl rfl ?_
  refine x_iconst (v := (-1)) d_D_failPower_6 (by decide) ?_
  refine x_puti 11 (ty := .int) hA d_D_failPower_7 hD.1 hD.2.1 rfl rfl (by decide) lay_D (List.mem_cons_of_mem _ q384) rfl ty_D ty_D_ok nm_D rfl (by decide +kernel) rfl rfl (fun M9 e10 => ?_)
  have hw := hw M9 e10
  clear e10
  exact x_vret d_D_failPower_10 rfl (fun _ h => h) ⟨rfl, hw⟩
end
theorem q385 : (.methodLink "SettingsDesk" 281 ⟨"SettingsDesk", "failPower", "()V"⟩ : Cond) ∈ sdB0 := sd_tb4 141 rfl rfl
theorem q386 : (.code ⟨"SettingsDesk", "failPower", "()V"⟩ prog_1_method_35_code 1 none : Cond) ∈ sdB0 := sd_tb4 144 rfl rfl
theorem q387 : (.instanceMethod ⟨"SettingsDesk", "failPower", "()V"⟩ : Cond) ∈ sdB0 := sd_tb4 143 rfl rfl
theorem q388 : (.selects "SettingsDesk" ⟨"SettingsDesk", "failPower", "()V"⟩ ⟨"SettingsDesk", "failPower", "()V"⟩ : Cond) ∈ sdB0 := sd_tbp (q := (⟨"SettingsDesk", "failPower", "()V"⟩, 12)) (List.mem_of_getElem? (i := 14) rfl)
abbrev y_D_writePages : MethodName := ⟨"SettingsDesk", "writePages", "(I)Z"⟩
theorem d_D_writePages_0 : decode prog_1_method_34_code 0 = .ok (.aload_n 0, 1) := by decide +kernel
theorem d_D_writePages_1 : decode prog_1_method_34_code 1 = .ok (.getfield 60, 3) := by decide +kernel
theorem d_D_writePages_4 : decode prog_1_method_34_code 4 = .ok (.iconst (-1), 1) := by decide +kernel
theorem d_D_writePages_5 : decode prog_1_method_34_code 5 = .ok (.if_icmp .ne (5), 3) := by decide +kernel
theorem d_D_writePages_8 : decode prog_1_method_34_code 8 = .ok (.iconst 1, 1) := by decide +kernel
theorem d_D_writePages_9 : decode prog_1_method_34_code 9 = .ok (.ireturn, 1) := by decide +kernel
theorem d_D_writePages_10 : decode prog_1_method_34_code 10 = .ok (.aload_n 0, 1) := by decide +kernel
theorem d_D_writePages_11 : decode prog_1_method_34_code 11 = .ok (.getfield 60, 3) := by decide +kernel
theorem d_D_writePages_14 : decode prog_1_method_34_code 14 = .ok (.iload_n 1, 1) := by decide +kernel
theorem d_D_writePages_15 : decode prog_1_method_34_code 15 = .ok (.if_icmp .le (15), 3) := by decide +kernel
theorem d_D_writePages_18 : decode prog_1_method_34_code 18 = .ok (.aload_n 0, 1) := by decide +kernel
theorem d_D_writePages_19 : decode prog_1_method_34_code 19 = .ok (.dup, 1) := by decide +kernel
theorem d_D_writePages_20 : decode prog_1_method_34_code 20 = .ok (.getfield 60, 3) := by decide +kernel
theorem d_D_writePages_23 : decode prog_1_method_34_code 23 = .ok (.iload_n 1, 1) := by decide +kernel
theorem d_D_writePages_24 : decode prog_1_method_34_code 24 = .ok (.isub, 1) := by decide +kernel
theorem d_D_writePages_25 : decode prog_1_method_34_code 25 = .ok (.putfield 60, 3) := by decide +kernel
theorem d_D_writePages_28 : decode prog_1_method_34_code 28 = .ok (.iconst 1, 1) := by decide +kernel
theorem d_D_writePages_29 : decode prog_1_method_34_code 29 = .ok (.ireturn, 1) := by decide +kernel
theorem d_D_writePages_30 : decode prog_1_method_34_code 30 = .ok (.aload_n 0, 1) := by decide +kernel
theorem d_D_writePages_31 : decode prog_1_method_34_code 31 = .ok (.getfield 60, 3) := by decide +kernel
theorem d_D_writePages_34 : decode prog_1_method_34_code 34 = .ok (.iload_n 1, 1) := by decide +kernel
theorem d_D_writePages_35 : decode prog_1_method_34_code 35 = .ok (.if_icmp .ne (7), 3) := by decide +kernel
theorem d_D_writePages_38 : decode prog_1_method_34_code 38 = .ok (.iconst 1, 1) := by decide +kernel
theorem d_D_writePages_39 : decode prog_1_method_34_code 39 = .ok (.goto (4), 3) := by decide +kernel
theorem d_D_writePages_42 : decode prog_1_method_34_code 42 = .ok (.iconst 0, 1) := by decide +kernel
theorem d_D_writePages_43 : decode prog_1_method_34_code 43 = .ok (.istore_n 2, 1) := by decide +kernel
theorem d_D_writePages_44 : decode prog_1_method_34_code 44 = .ok (.aload_n 0, 1) := by decide +kernel
theorem d_D_writePages_45 : decode prog_1_method_34_code 45 = .ok (.invokevirtual 281, 3) := by decide +kernel
theorem d_D_writePages_48 : decode prog_1_method_34_code 48 = .ok (.iload_n 2, 1) := by decide +kernel
theorem d_D_writePages_49 : decode prog_1_method_34_code 49 = .ok (.ireturn, 1) := by decide +kernel
def Y_D_writePages : sdY := ("SettingsDesk", prog_1_method_34_code, 3, (some .boolean), .code y_D_writePages prog_1_method_34_code 3 (some .boolean) :: sdB0, { frames := 1, cells := 0, slots := 0, locals := 20 }, 0, 0)
theorem cw_D_writePages_D_failPower_281 : sd_cwV Y_D_writePages Y_D_failPower y_D_failPower 281 0 "SettingsDesk" := ⟨sd_goodV q385 q387 q388 q264 q386, ⟨_, rfl⟩, ⟨rfl, rfl, rfl, rfl⟩, ⟨rfl, by decide, by decide, by decide +kernel⟩, ⟨by decide, by decide⟩⟩
section
variable {l : Launch} {D : va_G} {dA : Nat → ClassId} {b n : Nat} {ad : Nat → Nat} {L : Nat → sdL} {sc : Option (Nat × Nat × (Nat → Int32))}
def k_D_writePages_43 (Q : Int32 → sdM → Prop) (M : sdM) (s0 : Int32) : Prop := w_D_failPower M (fun M4 => sdB s0 ∧ Q s0 M4)
set_option maxHeartbeats 1000000 in
theorem t_D_writePages_43 (hA : sd_ad b n ad) (hT : l.stackTraces = false) (hD : isD n L dA) {Q : Int32 → sdM → Prop} (M : sdM) (s0 : Int32) (hw : k_D_writePages_43 Q M s0) : sdW l (sdE0 sc) Y_D_writePages D (sd_tys dA) b n ad L ad (sd_H D (sdE0 sc).1 n ad L) (sd_qi Q) sd_xf 43 [(0, .ref 0)] [.int s0] M 0 0 := by
  unfold k_D_writePages_43 at hw
  refine x_istore_n 2 [(2, .int s0), (0, .ref 0)] d_D_writePages_43 rfl (by decide) rfl ?_
  refine x_aload_n 0 1 d_D_writePages_44 rfl rfl ?_
  refine x_callVv (As := []) (t := 0) (rest := []) (rc := 0) (rs := 0) (c_D_failPower hA hT hD hw) cw_D_writePages_D_failPower_281 hD.1 hD.2.1 rfl d_D_writePages_45 rfl rfl (Nat.le_of_ble_eq_true rfl) (fun _ _ h => h.elim) (fun _ _ h => h) (fun M4 hw => ?_)
  refine x_iload_n 2 0 d_D_writePages_48 rfl rfl ?_
  exact x_zret d_D_writePages_49 rfl (sdB_n hw.1) (fun _ h => h) ⟨_, rfl, hw.2⟩
def w_D_writePages (M : sdM) (a1 : Int32) (Q : Int32 → sdM → Prop) : Prop := (¬ (M 0 11) = (-1 : Int32) → ((M 0 11) ≤ a1 → (¬ (M 0 11) = a1 → k_D_writePages_43 Q M (0 : Int32)) ∧ ((M 0 11) = a1 → k_D_writePages_43 Q M (1 : Int32))) ∧ (¬ (M 0 11) ≤ a1 → ∀ M5 : sdM, M5 = sd_s M 0 11 ((M 0 11) - a1) → sdB (1 : Int32) ∧ Q (1 : Int32) M5)) ∧ ((M 0 11) = (-1 : Int32) → sdB (1 : Int32) ∧ Q (1 : Int32) M)
set_option maxHeartbeats 1000000 in
theorem c_D_writePages {a1 : Int32} (hA : sd_ad b n ad) (hT : l.stackTraces = false) (hD : isD n L dA) {Q : Int32 → sdM → Prop} {M : sdM} (hw : w_D_writePages M a1 Q) : sd_Cn l (sdE0 sc) y_D_writePages Y_D_writePages.2.2.2.2.1 Y_D_writePages.2.2.2.2.2.1 0 0 D (sd_tys dA) b n ad L M [.ref 0, .int a1] (sd_qi Q) sd_xf := by
  refine sd_enter (Y := Y_D_writePages) rfl rfl rfl (Nat.le_of_ble_eq_true rfl) ?_
  show sdW l (sdE0 sc) Y_D_writePages D (sd_tys dA) b n ad L ad (sd_H D (sdE0 sc).1 n ad L) (sd_qi Q) sd_xf 0 [(0, .ref 0), (1, .int a1)] [] M 0 0
  unfold w_D_writePages at hw
  refine x_aload_n 0 0 d_D_writePages_0 rfl rfl ?_
  refine x_geti 11 d_D_writePages_1 hD.1 hD.2.1 rfl rfl (by decide) lay_D (List.mem_cons_of_mem _ q384) rfl ?_
  refine x_iconst (v := (-1)) d_D_writePages_4 (by decide) ?_
  refine x_icmp_ne 10 d_D_writePages_5 rfl (fun hc => ?_) (fun hc => ?_)
  · have hw := hw.1 hc
    refine x_aload_n 0 0 d_D_writePages_10 rfl rfl ?_
    refine x_geti 11 d_D_writePages_11 hD.1 hD.2.1 rfl rfl (by decide) lay_D (List.mem_cons_of_mem _ q384) rfl ?_
    refine x_iload_n 1 1 d_D_writePages_14 rfl rfl ?_
    refine x_icmp_le 30 d_D_writePages_15 rfl (fun hc => ?_) (fun hc => ?_)
    · have hw := hw.1 hc
      refine x_aload_n 0 0 d_D_writePages_30 rfl rfl ?_
      refine x_geti 11 d_D_writePages_31 hD.1 hD.2.1 rfl rfl (by decide) lay_D (List.mem_cons_of_mem _ q384) rfl ?_
      refine x_iload_n 1 1 d_D_writePages_34 rfl rfl ?_
      refine x_icmp_ne 42 d_D_writePages_35 rfl (fun hc => ?_) (fun hc => ?_)
      · have hw := hw.1 hc
        refine x_iconst (v := 0) d_D_writePages_42 (by decide) ?_
        refine x_sub [0] [(0, .ref 0)] rfl ?_
        exact t_D_writePages_43 hA hT hD M (0 : Int32) hw
      · have hw := hw.2 hc
        refine x_iconst (v := 1) d_D_writePages_38 (by decide) ?_
        refine x_goto 43 d_D_writePages_39 rfl ?_
        refine x_sub [0] [(0, .ref 0)] rfl ?_
        exact t_D_writePages_43 hA hT hD M (1 : Int32) hw
    · have hw := hw.2 hc
      refine x_aload_n 0 0 d_D_writePages_18 rfl rfl ?_
      refine x_dup d_D_writePages_19 rfl ?_
      refine x_geti 11 d_D_writePages_20 hD.1 hD.2.1 rfl rfl (by decide) lay_D (List.mem_cons_of_mem _ q384) rfl ?_
      refine x_iload_n 1 1 d_D_writePages_23 rfl rfl ?_
      refine x_isub d_D_writePages_24 ?_
      refine x_puti 11 (ty := .int) hA d_D_writePages_25 hD.1 hD.2.1 rfl rfl (by decide) lay_D (List.mem_cons_of_mem _ q384) rfl ty_D ty_D_ok nm_D rfl (by decide +kernel) rfl rfl (fun M5 e6 => ?_)
      have hw := hw M5 e6
      clear e6
      refine x_iconst (v := 1) d_D_writePages_28 (by decide) ?_
      exact x_zret d_D_writePages_29 rfl (sdB_n hw.1) (fun _ h => h) ⟨_, rfl, hw.2⟩
  · have hw := hw.2 hc
    refine x_iconst (v := 1) d_D_writePages_8 (by decide) ?_
    exact x_zret d_D_writePages_9 rfl (sdB_n hw.1) (fun _ h => h) ⟨_, rfl, hw.2⟩
end
theorem q389 : (.methodLink "SettingsDesk" 269 ⟨"SettingsDesk$Settings", "entryCount", "()I"⟩ : Cond) ∈ sdB0 := sd_tb4 133 rfl rfl
theorem q390 : (.code ⟨"SettingsDesk$Settings", "entryCount", "()I"⟩ prog_9_method_9_code 3 (some .int) : Cond) ∈ sdB0 := sd_tb4 136 rfl rfl
theorem q391 : (.instanceMethod ⟨"SettingsDesk$Settings", "entryCount", "()I"⟩ : Cond) ∈ sdB0 := sd_tb4 134 rfl rfl
theorem q392 : (.selects "SettingsDesk$Settings" ⟨"SettingsDesk$Settings", "entryCount", "()I"⟩ ⟨"SettingsDesk$Settings", "entryCount", "()I"⟩ : Cond) ∈ sdB0 := sd_tb4 135 rfl rfl
theorem q393 : (.methodLink "SettingsDesk" 272 ⟨"SettingsDesk", "writePages", "(I)Z"⟩ : Cond) ∈ sdB0 := sd_tb4 137 rfl rfl
theorem q394 : (.code ⟨"SettingsDesk", "writePages", "(I)Z"⟩ prog_1_method_34_code 3 (some .boolean) : Cond) ∈ sdB0 := sd_tb4 140 rfl rfl
theorem q395 : (.instanceMethod ⟨"SettingsDesk", "writePages", "(I)Z"⟩ : Cond) ∈ sdB0 := sd_tb4 139 rfl rfl
theorem q396 : (.selects "SettingsDesk" ⟨"SettingsDesk", "writePages", "(I)Z"⟩ ⟨"SettingsDesk", "writePages", "(I)Z"⟩ : Cond) ∈ sdB0 := sd_tbp (q := (⟨"SettingsDesk", "writePages", "(I)Z"⟩, 12)) (List.mem_of_getElem? (i := 13) rfl)
abbrev y_D_save : MethodName := ⟨"SettingsDesk", "save", "()I"⟩
theorem d_D_save_0 : decode prog_1_method_18_code 0 = .ok (.aload_n 0, 1) := by decide +kernel
theorem d_D_save_1 : decode prog_1_method_18_code 1 = .ok (.invokevirtual 146, 3) := by decide +kernel
theorem d_D_save_4 : decode prog_1_method_18_code 4 = .ok (.aload_n 0, 1) := by decide +kernel
theorem d_D_save_5 : decode prog_1_method_18_code 5 = .ok (.getfield 19, 3) := by decide +kernel
theorem d_D_save_8 : decode prog_1_method_18_code 8 = .ok (.invokevirtual 269, 3) := by decide +kernel
theorem d_D_save_11 : decode prog_1_method_18_code 11 = .ok (.iconst 1, 1) := by decide +kernel
theorem d_D_save_12 : decode prog_1_method_18_code 12 = .ok (.iadd, 1) := by decide +kernel
theorem d_D_save_13 : decode prog_1_method_18_code 13 = .ok (.istore_n 1, 1) := by decide +kernel
theorem d_D_save_14 : decode prog_1_method_18_code 14 = .ok (.aload_n 0, 1) := by decide +kernel
theorem d_D_save_15 : decode prog_1_method_18_code 15 = .ok (.iload_n 1, 1) := by decide +kernel
theorem d_D_save_16 : decode prog_1_method_18_code 16 = .ok (.invokevirtual 272, 3) := by decide +kernel
theorem d_D_save_19 : decode prog_1_method_18_code 19 = .ok (.ifCond .ne (5), 3) := by decide +kernel
theorem d_D_save_22 : decode prog_1_method_18_code 22 = .ok (.iconst (-1), 1) := by decide +kernel
theorem d_D_save_23 : decode prog_1_method_18_code 23 = .ok (.ireturn, 1) := by decide +kernel
theorem d_D_save_24 : decode prog_1_method_18_code 24 = .ok (.aload_n 0, 1) := by decide +kernel
theorem d_D_save_25 : decode prog_1_method_18_code 25 = .ok (.getfield 23, 3) := by decide +kernel
theorem d_D_save_28 : decode prog_1_method_18_code 28 = .ok (.aload_n 0, 1) := by decide +kernel
theorem d_D_save_29 : decode prog_1_method_18_code 29 = .ok (.getfield 19, 3) := by decide +kernel
theorem d_D_save_32 : decode prog_1_method_18_code 32 = .ok (.invokevirtual 275, 3) := by decide +kernel
theorem d_D_save_35 : decode prog_1_method_18_code 35 = .ok (.iload_n 1, 1) := by decide +kernel
theorem d_D_save_36 : decode prog_1_method_18_code 36 = .ok (.ireturn, 1) := by decide +kernel
def Y_D_save : sdY := ("SettingsDesk", prog_1_method_18_code, 2, (some .int), .code y_D_save prog_1_method_18_code 2 (some .int) :: sdB0, { frames := 7, cells := 1, slots := 6, locals := 102 }, 1, 6)
theorem cw_D_save_D_requireReady_146 : sd_cwV Y_D_save Y_D_requireReady y_D_requireReady 146 0 "SettingsDesk" := ⟨sd_goodV q334 q335 q336 q264 q332, ⟨_, rfl⟩, ⟨rfl, rfl, rfl, rfl⟩, ⟨rfl, by decide, by decide, by decide +kernel⟩, ⟨by decide, by decide⟩⟩
theorem cw_D_save_S_entryCount_269 : sd_cwV Y_D_save Y_S_entryCount y_S_entryCount 269 0 "SettingsDesk$Settings" := ⟨sd_goodV q389 q391 q392 q7 q390, ⟨_, rfl⟩, ⟨rfl, rfl, rfl, rfl⟩, ⟨rfl, by decide, by decide, by decide +kernel⟩, ⟨by decide, by decide⟩⟩
theorem cw_D_save_D_writePages_272 : sd_cwV Y_D_save Y_D_writePages y_D_writePages 272 1 "SettingsDesk" := ⟨sd_goodV q393 q395 q396 q264 q394, ⟨_, rfl⟩, ⟨rfl, rfl, rfl, rfl⟩, ⟨rfl, by decide, by decide, by decide +kernel⟩, ⟨by decide, by decide⟩⟩
theorem cw_D_save_S_copyFrom_275 : sd_cwV Y_D_save Y_S_copyFrom y_S_copyFrom 275 1 "SettingsDesk$Settings" := ⟨sd_goodV q253 q98 q99 q7 q97, ⟨_, rfl⟩, ⟨rfl, rfl, rfl, rfl⟩, ⟨rfl, by decide, by decide, by decide +kernel⟩, ⟨by decide, by decide⟩⟩
section
variable {l : Launch} {D : va_G} {dA : Nat → ClassId} {b n : Nat} {ad : Nat → Nat} {L : Nat → sdL} {sc : Option (Nat × Nat × (Nat → Int32))}
def w_D_save (M : sdM) (Q : Int32 → sdM → Prop) (X : String → sdM → Prop) : Prop := w_D_requireReady M (fun M7 => w_S_entryCount 25 M7 (fun r9 M8 => w_D_writePages M8 (r9 + (1 : Int32)) (fun r11 M10 => (¬ r11 = 0 → w_S_copyFrom 30 M10 25 (fun M12 => Q (r9 + (1 : Int32)) M12)) ∧ (r11 = 0 → Q (-1 : Int32) M10)))) X
set_option maxHeartbeats 1000000 in
theorem c_D_save (hA : sd_ad b n ad) (hT : l.stackTraces = false) (hD : isD n L dA) {Q : Int32 → sdM → Prop} {X : String → sdM → Prop} {M : sdM} (hw : w_D_save M Q X) : sd_Cn l (sdE0 sc) y_D_save Y_D_save.2.2.2.2.1 Y_D_save.2.2.2.2.2.1 1 6 D (sd_tys dA) b n ad L M [.ref 0] (sd_qi Q) X := by
  refine sd_enter (Y := Y_D_save) rfl rfl rfl (Nat.le_of_ble_eq_true rfl) ?_
  show sdW l (sdE0 sc) Y_D_save D (sd_tys dA) b n ad L ad (sd_H D (sdE0 sc).1 n ad L) (sd_qi Q) X 0 [(0, .ref 0)] [] M 1 6
  unfold w_D_save at hw
  refine x_aload_n 0 0 d_D_save_0 rfl rfl ?_
  refine x_callVv (As := []) (t := 0) (rest := []) (rc := 0) (rs := 0) (c_D_requireReady hA hT hD hw) cw_D_save_D_requireReady_146 hD.1 hD.2.1 rfl d_D_save_1 rfl rfl (Nat.le_of_ble_eq_true rfl) (fun _ _ h => h) (fun _ _ h => h) (fun M7 hw => ?_)
  refine x_aload_n 0 0 d_D_save_4 rfl rfl ?_
  refine x_getr 1 25 d_D_save_5 hD.1 hD.2.1 rfl rfl (by decide) lay_D (List.mem_cons_of_mem _ q243) rfl ?_
  refine x_callVi (As := []) (t := 25) (rest := []) (rc := 0) (rs := 0) (c_S_entryCount hA hT hD.running hw) cw_D_save_S_entryCount_269 hD.running.1 hD.running.2.1 rfl d_D_save_8 rfl rfl (Nat.le_of_ble_eq_true rfl) (fun _ _ h => h.elim) (fun _ _ h => h) (fun r9 M8 hw => ?_)
  refine x_iconst (v := 1) d_D_save_11 (by decide) ?_
  refine x_iadd d_D_save_12 ?_
  refine x_istore_n 1 [(1, .int (r9 + (1 : Int32))), (0, .ref 0)] d_D_save_13 rfl (by decide) rfl ?_
  refine x_aload_n 0 1 d_D_save_14 rfl rfl ?_
  refine x_iload_n 1 0 d_D_save_15 rfl rfl ?_
  refine x_callVi (As := [.int (r9 + (1 : Int32))]) (t := 0) (rest := []) (rc := 0) (rs := 0) (c_D_writePages hA hT hD hw) cw_D_save_D_writePages_272 hD.1 hD.2.1 rfl d_D_save_16 rfl rfl (Nat.le_of_ble_eq_true rfl) (fun _ _ h => h.elim) (fun _ _ h => h) (fun r11 M10 hw => ?_)
  refine x_if_ne 24 d_D_save_19 rfl (fun hc => ?_) (fun hc => ?_)
  · have hw := hw.1 hc
    refine x_aload_n 0 1 d_D_save_24 rfl rfl ?_
    refine x_getr 2 30 d_D_save_25 hD.1 hD.2.1 rfl rfl (by decide) lay_D (List.mem_cons_of_mem _ q255) rfl ?_
    refine x_aload_n 0 1 d_D_save_28 rfl rfl ?_
    refine x_getr 1 25 d_D_save_29 hD.1 hD.2.1 rfl rfl (by decide) lay_D (List.mem_cons_of_mem _ q243) rfl ?_
    refine x_callVv (As := [.ref 25]) (t := 30) (rest := []) (rc := 0) (rs := 0) (c_S_copyFrom hA hT hD.saved hD.running hw) cw_D_save_S_copyFrom_275 hD.saved.1 hD.saved.2.1 rfl d_D_save_32 rfl rfl (Nat.le_of_ble_eq_true rfl) (fun _ _ h => h.elim) (fun _ _ h => h) (fun M12 hw => ?_)
    refine x_iload_n 1 0 d_D_save_35 rfl rfl ?_
    exact x_iret d_D_save_36 rfl (fun _ h => h) ⟨_, rfl, hw⟩
  · have hw := hw.2 hc
    refine x_iconst (v := (-1)) d_D_save_22 (by decide) ?_
    exact x_iret d_D_save_23 rfl (fun _ h => h) ⟨_, rfl, hw⟩
end
theorem q397 : (.code ⟨"SettingsDesk", "cut", "(I)Z"⟩ prog_1_method_19_code 2 (some .boolean) : Cond) ∈ sdB0 := sd_tb4 151 rfl rfl
abbrev y_D_cut : MethodName := ⟨"SettingsDesk", "cut", "(I)Z"⟩
theorem d_D_cut_0 : decode prog_1_method_19_code 0 = .ok (.iload_n 1, 1) := by decide +kernel
theorem d_D_cut_1 : decode prog_1_method_19_code 1 = .ok (.iconst (-1), 1) := by decide +kernel
theorem d_D_cut_2 : decode prog_1_method_19_code 2 = .ok (.if_icmp .lt (10), 3) := by decide +kernel
theorem d_D_cut_5 : decode prog_1_method_19_code 5 = .ok (.iload_n 1, 1) := by decide +kernel
theorem d_D_cut_6 : decode prog_1_method_19_code 6 = .ok (.sipush (1000), 3) := by decide +kernel
theorem d_D_cut_9 : decode prog_1_method_19_code 9 = .ok (.if_icmp .le (14), 3) := by decide +kernel
theorem d_D_cut_12 : decode prog_1_method_19_code 12 = .ok (.new 91, 3) := by decide +kernel
theorem d_D_cut_15 : decode prog_1_method_19_code 15 = .ok (.dup, 1) := by decide +kernel
theorem d_D_cut_16 : decode prog_1_method_19_code 16 = .ok (.ldc_w 279, 3) := by decide +kernel
theorem d_D_cut_19 : decode prog_1_method_19_code 19 = .ok (.invokespecial 95, 3) := by decide +kernel
theorem d_D_cut_22 : decode prog_1_method_19_code 22 = .ok (.athrow, 1) := by decide +kernel
theorem d_D_cut_23 : decode prog_1_method_19_code 23 = .ok (.aload_n 0, 1) := by decide +kernel
theorem d_D_cut_24 : decode prog_1_method_19_code 24 = .ok (.getfield 56, 3) := by decide +kernel
theorem d_D_cut_27 : decode prog_1_method_19_code 27 = .ok (.ifCond .eq (5), 3) := by decide +kernel
theorem d_D_cut_30 : decode prog_1_method_19_code 30 = .ok (.iconst 1, 1) := by decide +kernel
theorem d_D_cut_31 : decode prog_1_method_19_code 31 = .ok (.ireturn, 1) := by decide +kernel
theorem d_D_cut_32 : decode prog_1_method_19_code 32 = .ok (.aload_n 0, 1) := by decide +kernel
theorem d_D_cut_33 : decode prog_1_method_19_code 33 = .ok (.iload_n 1, 1) := by decide +kernel
theorem d_D_cut_34 : decode prog_1_method_19_code 34 = .ok (.putfield 60, 3) := by decide +kernel
theorem d_D_cut_37 : decode prog_1_method_19_code 37 = .ok (.iload_n 1, 1) := by decide +kernel
theorem d_D_cut_38 : decode prog_1_method_19_code 38 = .ok (.ifCond .ne (7), 3) := by decide +kernel
theorem d_D_cut_41 : decode prog_1_method_19_code 41 = .ok (.aload_n 0, 1) := by decide +kernel
theorem d_D_cut_42 : decode prog_1_method_19_code 42 = .ok (.invokevirtual 281, 3) := by decide +kernel
theorem d_D_cut_45 : decode prog_1_method_19_code 45 = .ok (.aload_n 0, 1) := by decide +kernel
theorem d_D_cut_46 : decode prog_1_method_19_code 46 = .ok (.getfield 56, 3) := by decide +kernel
theorem d_D_cut_49 : decode prog_1_method_19_code 49 = .ok (.ireturn, 1) := by decide +kernel
def Y_D_cut : sdY := ("SettingsDesk", prog_1_method_19_code, 2, (some .boolean), .code y_D_cut prog_1_method_19_code 2 (some .boolean) :: sdB0, { frames := 6, cells := 1, slots := 6, locals := 82 }, 1, 6)
theorem cw_D_cut_D_failPower_281 : sd_cwV Y_D_cut Y_D_failPower y_D_failPower 281 0 "SettingsDesk" := ⟨sd_goodV q385 q387 q388 q264 q386, ⟨_, rfl⟩, ⟨rfl, rfl, rfl, rfl⟩, ⟨rfl, by decide, by decide, by decide +kernel⟩, ⟨by decide, by decide⟩⟩
section
variable {l : Launch} {D : va_G} {dA : Nat → ClassId} {b n : Nat} {ad : Nat → Nat} {L : Nat → sdL} {sc : Option (Nat × Nat × (Nat → Int32))}
def k_D_cut_45 (Q : Int32 → sdM → Prop) (X : String → sdM → Prop) (M : sdM) : Prop := sdB (M 0 10) ∧ Q (M 0 10) M
set_option maxHeartbeats 1000000 in
theorem t_D_cut_45 (hA : sd_ad b n ad) (hT : l.stackTraces = false) (hD : isD n L dA) {Q : Int32 → sdM → Prop} {X : String → sdM → Prop} (M : sdM) (hw : k_D_cut_45 Q X M ) : sdW l (sdE0 sc) Y_D_cut D (sd_tys dA) b n ad L ad (sd_H D (sdE0 sc).1 n ad L) (sd_qi Q) X 45 [(0, .ref 0)] [] M 1 6 := by
  unfold k_D_cut_45 at hw
  refine x_aload_n 0 0 d_D_cut_45 rfl rfl ?_
  refine x_geti 10 d_D_cut_46 hD.1 hD.2.1 rfl rfl (by decide) lay_D (List.mem_cons_of_mem _ q254) rfl ?_
  exact x_zret d_D_cut_49 rfl (sdB_n hw.1) (fun _ h => h) ⟨_, rfl, hw.2⟩
def k_D_cut_12 (Q : Int32 → sdM → Prop) (X : String → sdM → Prop) (M : sdM) : Prop := X "java/lang/IllegalArgumentException" M
set_option maxHeartbeats 1000000 in
theorem t_D_cut_12 (hA : sd_ad b n ad) (hT : l.stackTraces = false) (hD : isD n L dA) {Q : Int32 → sdM → Prop} {X : String → sdM → Prop} (M : sdM) (hw : k_D_cut_12 Q X M ) : sdW l (sdE0 sc) Y_D_cut D (sd_tys dA) b n ad L ad (sd_H D (sdE0 sc).1 n ad L) (sd_qi Q) X 12 [] [] M 1 6 := by
  unfold k_D_cut_12 at hw
  exact x_throwS (names := sdExN) (is := 279) (ic := 95) (rc := 0) (rs := 0) hT fit_IAE fit_N (sd_goodB q397) (List.mem_cons_of_mem _ q294) (List.mem_cons_of_mem _ q295) (List.mem_cons_of_mem _ q296) (List.mem_of_getElem? (i := 20) rfl) oa_IAE d_D_cut_12 d_D_cut_15 (Or.inr ⟨d_D_cut_16, rfl⟩) d_D_cut_19 d_D_cut_22 (by decide) (Nat.le_of_ble_eq_true rfl) rfl rfl (fun _ _ h => h) hw
def w_D_cut (M : sdM) (a1 : Int32) (Q : Int32 → sdM → Prop) (X : String → sdM → Prop) : Prop := (a1 < (-1 : Int32) → k_D_cut_12 Q X M) ∧ (¬ a1 < (-1 : Int32) → (a1 ≤ (1000 : Int32) → ((M 0 10) = 0 → ∀ M4 : sdM, M4 = sd_s M 0 11 a1 → (¬ a1 = 0 → k_D_cut_45 Q X M4) ∧ (a1 = 0 → w_D_failPower M4 (fun M6 => k_D_cut_45 Q X M6))) ∧ (¬ (M 0 10) = 0 → sdB (1 : Int32) ∧ Q (1 : Int32) M)) ∧ (¬ a1 ≤ (1000 : Int32) → k_D_cut_12 Q X M))
set_option maxHeartbeats 1000000 in
theorem c_D_cut {a1 : Int32} (hA : sd_ad b n ad) (hT : l.stackTraces = false) (hD : isD n L dA) {Q : Int32 → sdM → Prop} {X : String → sdM → Prop} {M : sdM} (hw : w_D_cut M a1 Q X) : sd_Cn l (sdE0 sc) y_D_cut Y_D_cut.2.2.2.2.1 Y_D_cut.2.2.2.2.2.1 1 6 D (sd_tys dA) b n ad L M [.ref 0, .int a1] (sd_qi Q) X := by
  refine sd_enter (Y := Y_D_cut) rfl rfl rfl (Nat.le_of_ble_eq_true rfl) ?_
  show sdW l (sdE0 sc) Y_D_cut D (sd_tys dA) b n ad L ad (sd_H D (sdE0 sc).1 n ad L) (sd_qi Q) X 0 [(0, .ref 0), (1, .int a1)] [] M 1 6
  unfold w_D_cut at hw
  refine x_iload_n 1 1 d_D_cut_0 rfl rfl ?_
  refine x_iconst (v := (-1)) d_D_cut_1 (by decide) ?_
  refine x_icmp_lt 12 d_D_cut_2 rfl (fun hc => ?_) (fun hc => ?_)
  · have hw := hw.1 hc
    refine x_sub [] [] rfl ?_
    exact t_D_cut_12 hA hT hD M hw
  · have hw := hw.2 hc
    refine x_iload_n 1 1 d_D_cut_5 rfl rfl ?_
    refine x_sipush (v := 1000) d_D_cut_6 (by decide) ?_
    refine x_icmp_le 23 d_D_cut_9 rfl (fun hc => ?_) (fun hc => ?_)
    · have hw := hw.1 hc
      refine x_aload_n 0 0 d_D_cut_23 rfl rfl ?_
      refine x_geti 10 d_D_cut_24 hD.1 hD.2.1 rfl rfl (by decide) lay_D (List.mem_cons_of_mem _ q254) rfl ?_
      refine x_if_eq 32 d_D_cut_27 rfl (fun hc => ?_) (fun hc => ?_)
      · have hw := hw.1 hc
        refine x_aload_n 0 0 d_D_cut_32 rfl rfl ?_
        refine x_iload_n 1 1 d_D_cut_33 rfl rfl ?_
        refine x_puti 11 (ty := .int) hA d_D_cut_34 hD.1 hD.2.1 rfl rfl (by decide) lay_D (List.mem_cons_of_mem _ q384) rfl ty_D ty_D_ok nm_D rfl (by decide +kernel) rfl rfl (fun M4 e5 => ?_)
        have hw := hw M4 e5
        clear e5
        refine x_iload_n 1 1 d_D_cut_37 rfl rfl ?_
        refine x_if_ne 45 d_D_cut_38 rfl (fun hc => ?_) (fun hc => ?_)
        · have hw := hw.1 hc
          refine x_sub [0] [(0, .ref 0)] rfl ?_
          exact t_D_cut_45 hA hT hD M4 hw
        · have hw := hw.2 hc
          refine x_aload_n 0 0 d_D_cut_41 rfl rfl ?_
          refine x_callVv (As := []) (t := 0) (rest := []) (rc := 1) (rs := 6) (c_D_failPower hA hT hD hw) cw_D_cut_D_failPower_281 hD.1 hD.2.1 rfl d_D_cut_42 rfl rfl (Nat.le_of_ble_eq_true rfl) (fun _ _ h => h.elim) (fun _ _ h => h) (fun M6 hw => ?_)
          refine x_sub [0] [(0, .ref 0)] rfl ?_
          exact t_D_cut_45 hA hT hD M6 hw
      · have hw := hw.2 hc
        refine x_iconst (v := 1) d_D_cut_30 (by decide) ?_
        exact x_zret d_D_cut_31 rfl (sdB_n hw.1) (fun _ h => h) ⟨_, rfl, hw.2⟩
    · have hw := hw.2 hc
      refine x_sub [] [] rfl ?_
      exact t_D_cut_12 hA hT hD M hw
end
end
