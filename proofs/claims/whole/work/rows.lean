section
-- ===== PART A: goes FIRST, ahead of the names: the tables' words, and 'selects' of the private methods out of them =====
/-- a private method of a class that the tables say can be made, by its rows of tables_1 -/
def lw_okq (q : MethodName × Nat) : Prop := (q.1.cls ≠ "java/lang/invoke/MethodHandle" ∧ q.1.cls ≠ "java/lang/invoke/VarHandle") ∧ Cond.instantiable q.1.cls q.2 ∈ tables_1 ∧ Cond.privateMethod q.1 ∈ tables_1 ∧ Cond.instanceMethod q.1 ∈ tables_1
theorem lw_p0 : lw_okq (⟨"SettingsDesk", "changeTo", "(LSettingsDesk$Settings;)Z"⟩, 12) := ⟨⟨by decide +kernel, by decide +kernel⟩, List.mem_of_getElem? (i := 23) (by decide +kernel), List.mem_of_getElem? (i := 242) (by decide +kernel), List.mem_of_getElem? (i := 243) (by decide +kernel)⟩
theorem lw_p1 : lw_okq (⟨"SettingsDesk", "olderCount", "()I"⟩, 12) := ⟨⟨by decide +kernel, by decide +kernel⟩, List.mem_of_getElem? (i := 23) (by decide +kernel), List.mem_of_getElem? (i := 292) (by decide +kernel), List.mem_of_getElem? (i := 293) (by decide +kernel)⟩
theorem lw_p2 : lw_okq (⟨"SettingsDesk", "requireOpenSchema", "()V"⟩, 12) := ⟨⟨by decide +kernel, by decide +kernel⟩, List.mem_of_getElem? (i := 23) (by decide +kernel), List.mem_of_getElem? (i := 307) (by decide +kernel), List.mem_of_getElem? (i := 308) (by decide +kernel)⟩
theorem lw_p3 : lw_okq (⟨"java/lang/Throwable", "fillInStackTrace", "(I)Ljava/lang/Throwable;"⟩, 6) := ⟨⟨by decide +kernel, by decide +kernel⟩, List.mem_of_getElem? (i := 350) (by decide +kernel), List.mem_of_getElem? (i := 348) (by decide +kernel), List.mem_of_getElem? (i := 349) (by decide +kernel)⟩
theorem lw_p4 : lw_okq (⟨"SettingsDesk", "requireList", "(I)V"⟩, 12) := ⟨⟨by decide +kernel, by decide +kernel⟩, List.mem_of_getElem? (i := 23) (by decide +kernel), List.mem_of_getElem? (i := 390) (by decide +kernel), List.mem_of_getElem? (i := 391) (by decide +kernel)⟩
theorem lw_p5 : lw_okq (⟨"SettingsDesk", "requireLeaf", "(II)V"⟩, 12) := ⟨⟨by decide +kernel, by decide +kernel⟩, List.mem_of_getElem? (i := 23) (by decide +kernel), List.mem_of_getElem? (i := 451) (by decide +kernel), List.mem_of_getElem? (i := 452) (by decide +kernel)⟩
theorem lw_p6 : lw_okq (⟨"SettingsDesk", "requireReady", "()V"⟩, 12) := ⟨⟨by decide +kernel, by decide +kernel⟩, List.mem_of_getElem? (i := 23) (by decide +kernel), List.mem_of_getElem? (i := 569) (by decide +kernel), List.mem_of_getElem? (i := 570) (by decide +kernel)⟩
theorem lw_p7 : lw_okq (⟨"SettingsDesk", "requireSession", "(I)V"⟩, 12) := ⟨⟨by decide +kernel, by decide +kernel⟩, List.mem_of_getElem? (i := 23) (by decide +kernel), List.mem_of_getElem? (i := 574) (by decide +kernel), List.mem_of_getElem? (i := 575) (by decide +kernel)⟩
theorem lw_p8 : lw_okq (⟨"SettingsDesk", "begunSessions", "()I"⟩, 12) := ⟨⟨by decide +kernel, by decide +kernel⟩, List.mem_of_getElem? (i := 23) (by decide +kernel), List.mem_of_getElem? (i := 584) (by decide +kernel), List.mem_of_getElem? (i := 585) (by decide +kernel)⟩
theorem lw_p9 : lw_okq (⟨"SettingsDesk", "requireBegun", "(I)V"⟩, 12) := ⟨⟨by decide +kernel, by decide +kernel⟩, List.mem_of_getElem? (i := 23) (by decide +kernel), List.mem_of_getElem? (i := 596) (by decide +kernel), List.mem_of_getElem? (i := 597) (by decide +kernel)⟩
theorem lw_p10 : lw_okq (⟨"SettingsDesk", "requireCandidateRow", "(IIII)I"⟩, 12) := ⟨⟨by decide +kernel, by decide +kernel⟩, List.mem_of_getElem? (i := 23) (by decide +kernel), List.mem_of_getElem? (i := 642) (by decide +kernel), List.mem_of_getElem? (i := 643) (by decide +kernel)⟩
theorem lw_p11 : lw_okq (⟨"SettingsDesk", "settingsOf", "(I)LSettingsDesk$Settings;"⟩, 12) := ⟨⟨by decide +kernel, by decide +kernel⟩, List.mem_of_getElem? (i := 23) (by decide +kernel), List.mem_of_getElem? (i := 669) (by decide +kernel), List.mem_of_getElem? (i := 670) (by decide +kernel)⟩
theorem lw_p12 : lw_okq (⟨"SettingsDesk", "olderSet", "(I)LSettingsDesk$Settings;"⟩, 12) := ⟨⟨by decide +kernel, by decide +kernel⟩, List.mem_of_getElem? (i := 23) (by decide +kernel), List.mem_of_getElem? (i := 773) (by decide +kernel), List.mem_of_getElem? (i := 774) (by decide +kernel)⟩
theorem lw_p13 : lw_okq (⟨"SettingsDesk", "writePages", "(I)Z"⟩, 12) := ⟨⟨by decide +kernel, by decide +kernel⟩, List.mem_of_getElem? (i := 23) (by decide +kernel), List.mem_of_getElem? (i := 858) (by decide +kernel), List.mem_of_getElem? (i := 859) (by decide +kernel)⟩
theorem lw_p14 : lw_okq (⟨"SettingsDesk", "failPower", "()V"⟩, 12) := ⟨⟨by decide +kernel, by decide +kernel⟩, List.mem_of_getElem? (i := 23) (by decide +kernel), List.mem_of_getElem? (i := 862) (by decide +kernel), List.mem_of_getElem? (i := 863) (by decide +kernel)⟩
theorem lw_p15 : lw_okq (⟨"SettingsDeskModel", "isList", "(I)Z"⟩, 35) := ⟨⟨by decide +kernel, by decide +kernel⟩, List.mem_of_getElem? (i := 874) (by decide +kernel), List.mem_of_getElem? (i := 999) (by decide +kernel), List.mem_of_getElem? (i := 1000) (by decide +kernel)⟩
def lw_privs_1 : List (MethodName × Nat) := [(⟨"SettingsDesk", "changeTo", "(LSettingsDesk$Settings;)Z"⟩, 12), (⟨"SettingsDesk", "olderCount", "()I"⟩, 12), (⟨"SettingsDesk", "requireOpenSchema", "()V"⟩, 12), (⟨"java/lang/Throwable", "fillInStackTrace", "(I)Ljava/lang/Throwable;"⟩, 6), (⟨"SettingsDesk", "requireList", "(I)V"⟩, 12), (⟨"SettingsDesk", "requireLeaf", "(II)V"⟩, 12), (⟨"SettingsDesk", "requireReady", "()V"⟩, 12), (⟨"SettingsDesk", "requireSession", "(I)V"⟩, 12), (⟨"SettingsDesk", "begunSessions", "()I"⟩, 12), (⟨"SettingsDesk", "requireBegun", "(I)V"⟩, 12), (⟨"SettingsDesk", "requireCandidateRow", "(IIII)I"⟩, 12), (⟨"SettingsDesk", "settingsOf", "(I)LSettingsDesk$Settings;"⟩, 12), (⟨"SettingsDesk", "olderSet", "(I)LSettingsDesk$Settings;"⟩, 12), (⟨"SettingsDesk", "writePages", "(I)Z"⟩, 12), (⟨"SettingsDesk", "failPower", "()V"⟩, 12), (⟨"SettingsDeskModel", "isList", "(I)Z"⟩, 35)]
theorem lw_r1 : ∀ q ∈ lw_privs_1, lw_okq q := List.forall_mem_cons.mpr ⟨lw_p0, List.forall_mem_cons.mpr ⟨lw_p1, List.forall_mem_cons.mpr ⟨lw_p2, List.forall_mem_cons.mpr ⟨lw_p3, List.forall_mem_cons.mpr ⟨lw_p4, List.forall_mem_cons.mpr ⟨lw_p5, List.forall_mem_cons.mpr ⟨lw_p6, List.forall_mem_cons.mpr ⟨lw_p7, List.forall_mem_cons.mpr ⟨lw_p8, List.forall_mem_cons.mpr ⟨lw_p9, List.forall_mem_cons.mpr ⟨lw_p10, List.forall_mem_cons.mpr ⟨lw_p11, List.forall_mem_cons.mpr ⟨lw_p12, List.forall_mem_cons.mpr ⟨lw_p13, List.forall_mem_cons.mpr ⟨lw_p14, List.forall_mem_cons.mpr ⟨lw_p15, fun _ h => absurd h List.not_mem_nil⟩⟩⟩⟩⟩⟩⟩⟩⟩⟩⟩⟩⟩⟩⟩⟩
theorem lw_p16 : lw_okq (⟨"SettingsDeskModel", "isLeaf", "(II)Z"⟩, 35) := ⟨⟨by decide +kernel, by decide +kernel⟩, List.mem_of_getElem? (i := 874) (by decide +kernel), List.mem_of_getElem? (i := 1007) (by decide +kernel), List.mem_of_getElem? (i := 1008) (by decide +kernel)⟩
theorem lw_p17 : lw_okq (⟨"SettingsDeskModel", "faultOf", "(I)I"⟩, 35) := ⟨⟨by decide +kernel, by decide +kernel⟩, List.mem_of_getElem? (i := 874) (by decide +kernel), List.mem_of_getElem? (i := 1019) (by decide +kernel), List.mem_of_getElem? (i := 1020) (by decide +kernel)⟩
theorem lw_p18 : lw_okq (⟨"SettingsDeskModel", "wrongEntry", "(III)I"⟩, 35) := ⟨⟨by decide +kernel, by decide +kernel⟩, List.mem_of_getElem? (i := 874) (by decide +kernel), List.mem_of_getElem? (i := 1023) (by decide +kernel), List.mem_of_getElem? (i := 1024) (by decide +kernel)⟩
theorem lw_p19 : lw_okq (⟨"SettingsDeskModel", "isWrong", "(IIIII)Z"⟩, 35) := ⟨⟨by decide +kernel, by decide +kernel⟩, List.mem_of_getElem? (i := 874) (by decide +kernel), List.mem_of_getElem? (i := 1027) (by decide +kernel), List.mem_of_getElem? (i := 1028) (by decide +kernel)⟩
theorem lw_p20 : lw_okq (⟨"SettingsDeskModel", "isSomething", "(III)Z"⟩, 35) := ⟨⟨by decide +kernel, by decide +kernel⟩, List.mem_of_getElem? (i := 874) (by decide +kernel), List.mem_of_getElem? (i := 1031) (by decide +kernel), List.mem_of_getElem? (i := 1032) (by decide +kernel)⟩
theorem lw_p21 : lw_okq (⟨"SettingsDeskModel", "isSet", "(II)Z"⟩, 35) := ⟨⟨by decide +kernel, by decide +kernel⟩, List.mem_of_getElem? (i := 874) (by decide +kernel), List.mem_of_getElem? (i := 1035) (by decide +kernel), List.mem_of_getElem? (i := 1036) (by decide +kernel)⟩
theorem lw_p22 : lw_okq (⟨"SettingsDeskModel", "valueOf", "(III)I"⟩, 35) := ⟨⟨by decide +kernel, by decide +kernel⟩, List.mem_of_getElem? (i := 874) (by decide +kernel), List.mem_of_getElem? (i := 1039) (by decide +kernel), List.mem_of_getElem? (i := 1040) (by decide +kernel)⟩
theorem lw_p23 : lw_okq (⟨"SettingsDeskModel", "find", "(III)I"⟩, 35) := ⟨⟨by decide +kernel, by decide +kernel⟩, List.mem_of_getElem? (i := 874) (by decide +kernel), List.mem_of_getElem? (i := 1043) (by decide +kernel), List.mem_of_getElem? (i := 1044) (by decide +kernel)⟩
theorem lw_p24 : lw_okq (⟨"SettingsDeskModel", "isTwice", "(IIII)Z"⟩, 35) := ⟨⟨by decide +kernel, by decide +kernel⟩, List.mem_of_getElem? (i := 874) (by decide +kernel), List.mem_of_getElem? (i := 1047) (by decide +kernel), List.mem_of_getElem? (i := 1048) (by decide +kernel)⟩
theorem lw_p25 : lw_okq (⟨"SettingsDeskModel", "isBroken", "(II)Z"⟩, 35) := ⟨⟨by decide +kernel, by decide +kernel⟩, List.mem_of_getElem? (i := 874) (by decide +kernel), List.mem_of_getElem? (i := 1051) (by decide +kernel), List.mem_of_getElem? (i := 1052) (by decide +kernel)⟩
theorem lw_p26 : lw_okq (⟨"SettingsDeskModel", "isDown", "()Z"⟩, 35) := ⟨⟨by decide +kernel, by decide +kernel⟩, List.mem_of_getElem? (i := 874) (by decide +kernel), List.mem_of_getElem? (i := 1059) (by decide +kernel), List.mem_of_getElem? (i := 1060) (by decide +kernel)⟩
theorem lw_p27 : lw_okq (⟨"SettingsDeskModel", "copy", "(II)V"⟩, 35) := ⟨⟨by decide +kernel, by decide +kernel⟩, List.mem_of_getElem? (i := 874) (by decide +kernel), List.mem_of_getElem? (i := 1066) (by decide +kernel), List.mem_of_getElem? (i := 1067) (by decide +kernel)⟩
theorem lw_p28 : lw_okq (⟨"SettingsDeskModel", "put", "(II)V"⟩, 35) := ⟨⟨by decide +kernel, by decide +kernel⟩, List.mem_of_getElem? (i := 874) (by decide +kernel), List.mem_of_getElem? (i := 1070) (by decide +kernel), List.mem_of_getElem? (i := 1071) (by decide +kernel)⟩
theorem lw_p29 : lw_okq (⟨"SettingsDeskModel", "remove", "(III)V"⟩, 35) := ⟨⟨by decide +kernel, by decide +kernel⟩, List.mem_of_getElem? (i := 874) (by decide +kernel), List.mem_of_getElem? (i := 1078) (by decide +kernel), List.mem_of_getElem? (i := 1079) (by decide +kernel)⟩
theorem lw_p30 : lw_okq (⟨"SettingsDeskModel", "insert", "(III)I"⟩, 35) := ⟨⟨by decide +kernel, by decide +kernel⟩, List.mem_of_getElem? (i := 874) (by decide +kernel), List.mem_of_getElem? (i := 1082) (by decide +kernel), List.mem_of_getElem? (i := 1083) (by decide +kernel)⟩
theorem lw_p31 : lw_okq (⟨"SettingsDeskModel", "touch", "(IIII)I"⟩, 35) := ⟨⟨by decide +kernel, by decide +kernel⟩, List.mem_of_getElem? (i := 874) (by decide +kernel), List.mem_of_getElem? (i := 1090) (by decide +kernel), List.mem_of_getElem? (i := 1091) (by decide +kernel)⟩
def lw_privs_2 : List (MethodName × Nat) := [(⟨"SettingsDeskModel", "isLeaf", "(II)Z"⟩, 35), (⟨"SettingsDeskModel", "faultOf", "(I)I"⟩, 35), (⟨"SettingsDeskModel", "wrongEntry", "(III)I"⟩, 35), (⟨"SettingsDeskModel", "isWrong", "(IIIII)Z"⟩, 35), (⟨"SettingsDeskModel", "isSomething", "(III)Z"⟩, 35), (⟨"SettingsDeskModel", "isSet", "(II)Z"⟩, 35), (⟨"SettingsDeskModel", "valueOf", "(III)I"⟩, 35), (⟨"SettingsDeskModel", "find", "(III)I"⟩, 35), (⟨"SettingsDeskModel", "isTwice", "(IIII)Z"⟩, 35), (⟨"SettingsDeskModel", "isBroken", "(II)Z"⟩, 35), (⟨"SettingsDeskModel", "isDown", "()Z"⟩, 35), (⟨"SettingsDeskModel", "copy", "(II)V"⟩, 35), (⟨"SettingsDeskModel", "put", "(II)V"⟩, 35), (⟨"SettingsDeskModel", "remove", "(III)V"⟩, 35), (⟨"SettingsDeskModel", "insert", "(III)I"⟩, 35), (⟨"SettingsDeskModel", "touch", "(IIII)I"⟩, 35)]
theorem lw_r2 : ∀ q ∈ lw_privs_2, lw_okq q := List.forall_mem_cons.mpr ⟨lw_p16, List.forall_mem_cons.mpr ⟨lw_p17, List.forall_mem_cons.mpr ⟨lw_p18, List.forall_mem_cons.mpr ⟨lw_p19, List.forall_mem_cons.mpr ⟨lw_p20, List.forall_mem_cons.mpr ⟨lw_p21, List.forall_mem_cons.mpr ⟨lw_p22, List.forall_mem_cons.mpr ⟨lw_p23, List.forall_mem_cons.mpr ⟨lw_p24, List.forall_mem_cons.mpr ⟨lw_p25, List.forall_mem_cons.mpr ⟨lw_p26, List.forall_mem_cons.mpr ⟨lw_p27, List.forall_mem_cons.mpr ⟨lw_p28, List.forall_mem_cons.mpr ⟨lw_p29, List.forall_mem_cons.mpr ⟨lw_p30, List.forall_mem_cons.mpr ⟨lw_p31, fun _ h => absurd h List.not_mem_nil⟩⟩⟩⟩⟩⟩⟩⟩⟩⟩⟩⟩⟩⟩⟩⟩
theorem lw_p32 : lw_okq (⟨"SettingsDeskModel", "needs", "(I)I"⟩, 35) := ⟨⟨by decide +kernel, by decide +kernel⟩, List.mem_of_getElem? (i := 874) (by decide +kernel), List.mem_of_getElem? (i := 1106) (by decide +kernel), List.mem_of_getElem? (i := 1107) (by decide +kernel)⟩
theorem lw_p33 : lw_okq (⟨"SettingsDeskModel", "merge", "(I)Z"⟩, 35) := ⟨⟨by decide +kernel, by decide +kernel⟩, List.mem_of_getElem? (i := 874) (by decide +kernel), List.mem_of_getElem? (i := 1114) (by decide +kernel), List.mem_of_getElem? (i := 1115) (by decide +kernel)⟩
theorem lw_p34 : lw_okq (⟨"SettingsDeskModel", "same", "(II)Z"⟩, 35) := ⟨⟨by decide +kernel, by decide +kernel⟩, List.mem_of_getElem? (i := 874) (by decide +kernel), List.mem_of_getElem? (i := 1118) (by decide +kernel), List.mem_of_getElem? (i := 1119) (by decide +kernel)⟩
theorem lw_p35 : lw_okq (⟨"SettingsDeskModel", "sameEntry", "(II)Z"⟩, 35) := ⟨⟨by decide +kernel, by decide +kernel⟩, List.mem_of_getElem? (i := 874) (by decide +kernel), List.mem_of_getElem? (i := 1122) (by decide +kernel), List.mem_of_getElem? (i := 1123) (by decide +kernel)⟩
theorem lw_p36 : lw_okq (⟨"SettingsDeskModel", "alike", "(III)Z"⟩, 35) := ⟨⟨by decide +kernel, by decide +kernel⟩, List.mem_of_getElem? (i := 874) (by decide +kernel), List.mem_of_getElem? (i := 1126) (by decide +kernel), List.mem_of_getElem? (i := 1127) (by decide +kernel)⟩
theorem lw_p37 : lw_okq (⟨"SettingsDeskModel", "mergeEntry", "(III)Z"⟩, 35) := ⟨⟨by decide +kernel, by decide +kernel⟩, List.mem_of_getElem? (i := 874) (by decide +kernel), List.mem_of_getElem? (i := 1130) (by decide +kernel), List.mem_of_getElem? (i := 1131) (by decide +kernel)⟩
theorem lw_p38 : lw_okq (⟨"SettingsDeskModel", "clashes", "(III)Z"⟩, 35) := ⟨⟨by decide +kernel, by decide +kernel⟩, List.mem_of_getElem? (i := 874) (by decide +kernel), List.mem_of_getElem? (i := 1134) (by decide +kernel), List.mem_of_getElem? (i := 1135) (by decide +kernel)⟩
theorem lw_p39 : lw_okq (⟨"SettingsDeskModel", "note", "(I)V"⟩, 35) := ⟨⟨by decide +kernel, by decide +kernel⟩, List.mem_of_getElem? (i := 874) (by decide +kernel), List.mem_of_getElem? (i := 1138) (by decide +kernel), List.mem_of_getElem? (i := 1139) (by decide +kernel)⟩
theorem lw_p40 : lw_okq (⟨"SettingsDeskModel", "become", "(I)Z"⟩, 35) := ⟨⟨by decide +kernel, by decide +kernel⟩, List.mem_of_getElem? (i := 874) (by decide +kernel), List.mem_of_getElem? (i := 1142) (by decide +kernel), List.mem_of_getElem? (i := 1143) (by decide +kernel)⟩
theorem lw_p41 : lw_okq (⟨"SettingsDeskModel", "isDifference", "(II)Z"⟩, 35) := ⟨⟨by decide +kernel, by decide +kernel⟩, List.mem_of_getElem? (i := 874) (by decide +kernel), List.mem_of_getElem? (i := 1162) (by decide +kernel), List.mem_of_getElem? (i := 1163) (by decide +kernel)⟩
theorem lw_p42 : lw_okq (⟨"SettingsDeskModel", "differs", "(III)I"⟩, 35) := ⟨⟨by decide +kernel, by decide +kernel⟩, List.mem_of_getElem? (i := 874) (by decide +kernel), List.mem_of_getElem? (i := 1166) (by decide +kernel), List.mem_of_getElem? (i := 1167) (by decide +kernel)⟩
def lw_privs_3 : List (MethodName × Nat) := [(⟨"SettingsDeskModel", "needs", "(I)I"⟩, 35), (⟨"SettingsDeskModel", "merge", "(I)Z"⟩, 35), (⟨"SettingsDeskModel", "same", "(II)Z"⟩, 35), (⟨"SettingsDeskModel", "sameEntry", "(II)Z"⟩, 35), (⟨"SettingsDeskModel", "alike", "(III)Z"⟩, 35), (⟨"SettingsDeskModel", "mergeEntry", "(III)Z"⟩, 35), (⟨"SettingsDeskModel", "clashes", "(III)Z"⟩, 35), (⟨"SettingsDeskModel", "note", "(I)V"⟩, 35), (⟨"SettingsDeskModel", "become", "(I)Z"⟩, 35), (⟨"SettingsDeskModel", "isDifference", "(II)Z"⟩, 35), (⟨"SettingsDeskModel", "differs", "(III)I"⟩, 35)]
theorem lw_r3 : ∀ q ∈ lw_privs_3, lw_okq q := List.forall_mem_cons.mpr ⟨lw_p32, List.forall_mem_cons.mpr ⟨lw_p33, List.forall_mem_cons.mpr ⟨lw_p34, List.forall_mem_cons.mpr ⟨lw_p35, List.forall_mem_cons.mpr ⟨lw_p36, List.forall_mem_cons.mpr ⟨lw_p37, List.forall_mem_cons.mpr ⟨lw_p38, List.forall_mem_cons.mpr ⟨lw_p39, List.forall_mem_cons.mpr ⟨lw_p40, List.forall_mem_cons.mpr ⟨lw_p41, List.forall_mem_cons.mpr ⟨lw_p42, fun _ h => absurd h List.not_mem_nil⟩⟩⟩⟩⟩⟩⟩⟩⟩⟩⟩
def lw_privs : List (MethodName × Nat) := lw_privs_1 ++ (lw_privs_2 ++ (lw_privs_3))
def lw_tbl : List Cond := k2_sels lw_privs ++ tables_1
theorem lw_privs_ok : ∀ q ∈ lw_privs, lw_okq q := by
  show ∀ q ∈ lw_privs_1 ++ (lw_privs_2 ++ (lw_privs_3)), lw_okq q
  exact List.forall_mem_append.mpr ⟨lw_r1, List.forall_mem_append.mpr ⟨lw_r2, lw_r3⟩⟩
-- ===== end of PART A; then your names; then what follows =====
end
section
/-! memory (cell, slot), layouts of cells, the world of all cells at addresses ad; names of ours begin with sd -/
abbrev sdM : Type := Nat → Nat → Int32
abbrev sdL : Type := (Nat → Nat) → (Nat → Int32) → va_E
def sd_I (c : ClassId) (n : Nat) : sdL := fun _ f => .inl (c, n, .inl f)
def sd_Q (c : ClassId) (n : Nat) (g : Nat → Nat) : sdL := fun ad _ => .inl (c, n, .inr (.inr (.inr (.inr (fun j => if j < n then some (ad (g j)) else none)))))
def sd_J (c : ClassId) (n : Nat) : sdL := fun _ f => .inl (c, n, .inr (.inl (fun j => (f j).toInt64)))
def sd_fx (ad : Nat → Nat) (x : Int32) : Option (Option Nat) → Value
  | none => .int x
  | some none => .null
  | some (some t) => .ref (ad t)
def sd_fv (ad : Nat → Nat) (f : Nat → Int32) : Nat → List (Option (Option Nat)) → List Value
  | _, [] => []
  | j, q :: r => sd_fx ad (f j) q :: sd_fv ad f (j + 1) r
def sd_O (ci : Nat) (fs : List (Option (Option Nat))) : sdL := fun ad f => .inr (ci, sd_fv ad f 0 fs)
theorem sd_fv_at {ad : Nat → Nat} {f : Nat → Int32} {q : Option (Option Nat)} : ∀ (fs : List (Option (Option Nat))) (i j : Nat), fs[j]? = some q → (sd_fv ad f i fs)[j]? = some (sd_fx ad (f (i + j)) q)
  | [], i, j, h => by simp at h
  | a :: r, i, 0, h => by
    simp at h
    subst h
    simp [sd_fv]
  | a :: r, i, j + 1, h => by
    rw [List.getElem?_cons_succ] at h
    have h2 := sd_fv_at (ad := ad) (f := f) r (i + 1) j h
    simp only [sd_fv, List.getElem?_cons_succ]
    rw [h2, show i + 1 + j = i + (j + 1) by omega]
theorem sd_fv_len {ad : Nat → Nat} {f : Nat → Int32} : ∀ (fs : List (Option (Option Nat))) (i : Nat), (sd_fv ad f i fs).length = fs.length
  | [], i => rfl
  | a :: r, i => by simp only [sd_fv, List.length_cons, sd_fv_len r (i + 1)]
theorem sd_fv_congr {ad : Nat → Nat} {f g : Nat → Int32} : ∀ (fs : List (Option (Option Nat))) (i : Nat), (∀ k, i ≤ k → f k = g k) → sd_fv ad f i fs = sd_fv ad g i fs
  | [], i, h => rfl
  | a :: r, i, h => by
    simp only [sd_fv]
    rw [h i (Nat.le_refl _), sd_fv_congr r (i + 1) (fun k hk => h k (by omega))]
theorem sd_fv_set {ad : Nat → Nat} {f : Nat → Int32} {x : Int32} : ∀ (fs : List (Option (Option Nat))) (i j : Nat), fs[j]? = some none → (sd_fv ad f i fs).set j (.int x) = sd_fv ad (upd f (i + j) x) i fs
  | [], i, j, h => by simp at h
  | a :: r, i, 0, h => by
    simp at h
    subst h
    simp only [sd_fv, List.set_cons_zero, Nat.add_zero]
    rw [pk_us, sd_fv_congr (f := f) (g := upd f i x) r (i + 1) (fun k hk => (pk_un (by omega)).symm)]
    rfl
  | a :: r, i, j + 1, h => by
    rw [List.getElem?_cons_succ] at h
    simp only [sd_fv, List.set_cons_succ]
    rw [sd_fv_set r (i + 1) j h, show i + 1 + j = i + (j + 1) by omega, pk_un (show i ≠ i + (j + 1) by omega)]
theorem sd_fv_setr {ad : Nat → Nat} {f : Nat → Int32} {u : Nat} : ∀ (fs : List (Option (Option Nat))) (i j : Nat), (sd_fv ad f i fs).set j (.ref (ad u)) = sd_fv ad f i (fs.set j (some (some u)))
  | [], i, j => by simp [sd_fv]
  | a :: r, i, 0 => by
    simp only [sd_fv, List.set_cons_zero]
    rfl
  | a :: r, i, j + 1 => by
    simp only [sd_fv, List.set_cons_succ]
    rw [sd_fv_setr r (i + 1) j]
/-- a value whose references are cells' numbers, as the machine has it -/
def sd_v (ad : Nat → Nat) : Value → Value
  | .ref k => .ref (ad k)
  | .retAddr a => .ref a
  | v => v
theorem sd_v_cat (ad : Nat → Nat) (v : Value) : (sd_v ad v).category = v.category := by cases v <;> rfl
def sd_l (ad : Nat → Nat) (loc : List (Nat × Value)) : List (Nat × Value) := loc.map (fun q => (q.1, sd_v ad q.2))
theorem sd_l_get {ad : Nat → Nat} {loc : List (Nat × Value)} {j i : Nat} {v : Value} (h : loc[j]? = some (i, v)) : (sd_l ad loc)[j]? = some (i, sd_v ad v) := by
  rw [sd_l, List.getElem?_map, h]; rfl
theorem sd_l_flt {ad : Nat → Nat} {i : Nat} : ∀ (loc : List (Nat × Value)), (sd_l ad loc).filter (fun q => !(q.1 == i) && !(q.1 + 1 == i && q.2.category == 2)) = sd_l ad (loc.filter (fun q => !(q.1 == i) && !(q.1 + 1 == i && q.2.category == 2)))
  | [] => rfl
  | (a, v) :: r => by
    have h := sd_l_flt (ad := ad) (i := i) r
    simp only [sd_l, List.map_cons, List.filter_cons, sd_v_cat] at h ⊢
    split <;> simp only [List.map_cons, h]
def sd_A (b : Nat) : Nat → Prop := fun q => b ≤ q
/-- cells 0 .. n-1 lie at the addresses ad, laid out by L, with the numbers M -/
def sd_H (D : va_G) (cl : List vw_C) (n : Nat) (ad : Nat → Nat) (L : Nat → sdL) (M : sdM) (H : Heap) : Prop := ∀ k, k < n → va_at D cl (ad k, L k ad (M k)) H
def sd_ad (b n : Nat) (ad : Nat → Nat) : Prop := (∀ i j, i < n → j < n → ad i = ad j → i = j) ∧ ∀ k, k < n → b ≤ ad k
def sd_G (n : Nat) (ad : Nat → Nat) (L : Nat → sdL) (M : sdM) : va_W := (List.range n).map (fun k => (ad k, L k ad (M k)))
theorem sd_G_get {n k : Nat} {ad : Nat → Nat} {L : Nat → sdL} {M : sdM} (h : k < n) : (sd_G n ad L M)[k]? = some (ad k, L k ad (M k)) := by
  simp [sd_G, List.getElem?_map, List.getElem?_range h]
theorem sd_G_len {n : Nat} {ad : Nat → Nat} {L : Nat → sdL} {M : sdM} : (sd_G n ad L M).length = n := by simp [sd_G]
theorem sd_G_lt {n k : Nat} {ad : Nat → Nat} {L : Nat → sdL} {M : sdM} {q : Nat × va_E} (h : (sd_G n ad L M)[k]? = some q) : k < n ∧ q = (ad k, L k ad (M k)) := by
  have h1 : k < n := by have := (List.getElem?_eq_some_iff.mp h).1; rwa [sd_G_len] at this
  rw [sd_G_get h1] at h
  exact ⟨h1, (Option.some.inj h).symm⟩
theorem sd_H.toP {D : va_G} {cl : List vw_C} {n : Nat} {ad : Nat → Nat} {L : Nat → sdL} {M : sdM} {H : Heap} (h : sd_H D cl n ad L M H) : va_P D cl (sd_G n ad L M) H := fun k q hk => by
  obtain ⟨h1, rfl⟩ := sd_G_lt hk
  exact h k h1
theorem sd_H.ofP {D : va_G} {cl : List vw_C} {n : Nat} {ad : Nat → Nat} {L : Nat → sdL} {M : sdM} {H : Heap} (h : va_P D cl (sd_G n ad L M) H) : sd_H D cl n ad L M H := fun k hk => h k _ (sd_G_get hk)
theorem sd_ad.toD {b n : Nat} {ad : Nat → Nat} {L : Nat → sdL} {M : sdM} (h : sd_ad b n ad) : va_D (sd_A b) (sd_G n ad L M) := by
  refine ⟨fun i j p q hi hj e => ?_, fun k q hk => ?_⟩
  · obtain ⟨h1, rfl⟩ := sd_G_lt hi
    obtain ⟨h2, rfl⟩ := sd_G_lt hj
    exact h.1 i j h1 h2 e
  · obtain ⟨h1, rfl⟩ := sd_G_lt hk
    exact h.2 k h1
theorem sd_G_set {n k : Nat} {ad : Nat → Nat} {L : Nat → sdL} {M : sdM} {f : Nat → Int32} {e : va_E} (hk : k < n) (he : e = L k ad f) : (sd_G n ad L M).set k (ad k, e) = sd_G n ad L (va_up M k f) := by
  subst he
  apply List.ext_getElem?
  intro i
  by_cases hi : i = k
  · subst hi
    rw [List.getElem?_set_self (by rw [sd_G_len]; exact hk), sd_G_get hk, va_up_self]
  · rw [List.getElem?_set_ne (Ne.symm hi)]
    by_cases hn : i < n
    · rw [sd_G_get hn, sd_G_get hn, show va_up M k f i = M i from if_neg hi]
    · rw [List.getElem?_eq_none (by rw [sd_G_len]; omega), List.getElem?_eq_none (by rw [sd_G_len]; omega)]
/-- what the tables, and two static fields of Throwable, say at a state -/
abbrev sdE : Type := List vw_C × List Cond × List (String × Nat × String) × Option (Nat × Nat × (Nat → Int32))
/-- a static field of Throwable: where it lies (below b), and that it holds null or a reference -/
def sd_st (b : Nat) (nm d : String) (U : State) (H : Heap) : Prop := ∃ (c : ClassId) (k : Class) (i : Nat) (f : Field) (a : Nat) (cell : Cell) (v : Value), U.vm.findClass Bundle.tN = some c ∧ U.fieldFound? Bundle.tN nm d = some (c, k, i, f) ∧ f.isStatic = true ∧ k.statics = some a ∧ H[a]? = some cell ∧ cell.vm.isStatics = true ∧ cell.cls = c ∧ f.slot < cell.slots.size ∧ k.staticTypes[f.slot]? = some f.type ∧ cell.slots[f.slot]? = some v ∧ v.isRef = true ∧ a < b
theorem sd_st.go {b : Nat} {nm d : String} {u U : State} {H H1 : Heap} (hvm : u.vm.Alike U.vm) (hq : ∀ a : Nat, a < H.size → a < b → H1[a]? = H[a]?) (h : sd_st b nm d u H) : sd_st b nm d U H1 := by
  obtain ⟨c, k, i, f, a, cell, v, h1, h2, h3, h4, h5, h6, h7, h8, h9, h10, h11, h12⟩ := h
  obtain ⟨k', hi', he⟩ := State.fieldFound?_setVm hvm h2
  exact ⟨c, k', i, f, a, cell, v, by rw [hvm.findClass]; exact h1, hi', h3, by rw [he]; exact h4, by rw [hq a (Array.getElem?_eq_some_iff.mp h5).1 h12]; exact h5, h6, h7, h8, by rw [he]; exact h9, h10, h11, h12⟩
theorem sd_st.lays {b : Nat} {nm d : String} {U : State} {args : Array Value} (h : sd_st b nm d U U.heap) : (Cond.laysStatic Bundle.tN nm d).before args U = true := by
  obtain ⟨c, k, i, f, a, cell, v, h1, h2, h3, h4, h5, h6, h7, h8, h9, -⟩ := h
  show (Cond.laysStatic Bundle.tN nm d).holds args U none U [] = true
  exact Cond.laysStatic_of h1 h2 h3 h4 h5 h6 h7 h8 h9
theorem sd_st.ref {b : Nat} {nm d : String} {U : State} {args : Array Value} (h : sd_st b nm d U U.heap) : (Cond.isRef (.static Bundle.tN nm d)).before args U = true := by
  obtain ⟨c, k, i, f, a, cell, v, h1, h2, h3, h4, h5, h6, h7, h8, h9, h10, h11, -⟩ := h
  have he : (Term.static Bundle.tN nm d).eval args U none [] U = some v := by
    simp [Term.eval, State.fieldNamed?, h2, h3, h4, h5, h6, h10]
  simp only [Cond.before, Cond.holds, Cond.value, he]
  cases v <;> simp_all [Value.isRef]
/-- a word that stays while the tables warm -/
def sd_mv (w : Cond) : Prop := w.onTables = true ∧ ∀ s U : State, s.WarmedH U.vm → va_Nw w s → va_Nw w U
/-- the four classes that the program throws: none is a kind of another -/
def sdEx4 : List String := ["java/lang/IllegalStateException", "java/lang/IndexOutOfBoundsException", "java/lang/IllegalArgumentException", "java/lang/UnsupportedOperationException"]
def sd_na (U : State) : Prop := ∀ A ∈ sdEx4, ∀ B ∈ sdEx4, A ≠ B → ∀ cA cB, U.vm.findClass A = some cA → U.vm.findClass B = some cB → U.vm.assignable cA cB = false
def sd_K (E : sdE) (D : va_G) (tys : List (ClassId × FieldType)) (b : Nat) (U : State) : Prop :=
  va_K D E.1 tys U ∧ (∀ w ∈ E.2.1, va_Nw w U ∧ sd_mv w) ∧ (∀ q ∈ E.2.2.1, ∃ sa, vk_R q.1 q.2.1 q.2.2 sa U) ∧
  (sd_st b "UNASSIGNED_STACK" Bundle.steD U U.heap ∧ sd_st b "SUPPRESSED_SENTINEL" Bundle.listD U U.heap) ∧ b ≤ U.heap.size ∧ (∀ q, E.2.2.2 = some q → va_X q.1 q.2.1 q.2.2 U U.heap ∧ q.1 < b) ∧ sd_na U
theorem sd_K.move {E : sdE} {D : va_G} {tys : List (ClassId × FieldType)} {b : Nat} {s U : State} {H : Heap} {locs : List Loc} (h : sd_K E D tys b s) (hW : s.WarmedH U.vm) (hH : U.heap = H) (hS : va_S (sd_A b) s.heap H locs) : sd_K E D tys b U := by
  obtain ⟨h1, h2, h3, h4, h6, h7, h10⟩ := h
  subst hH
  refine ⟨va_K.moved hW.alike h1, fun q hq => ⟨(h2 q hq).2.2 s U hW (h2 q hq).1, (h2 q hq).2⟩, fun q hq => ?_, ⟨h4.1.go hW.alike (fun a h8 h9 => hS.2.1 a h8 (fun z => absurd z (Nat.not_le.mpr h9))), h4.2.go hW.alike (fun a h8 h9 => hS.2.1 a h8 (fun z => absurd z (Nat.not_le.mpr h9)))⟩, Nat.le_trans h6 hS.1, fun q hq => ?_, fun A hA B hB hAB cA cB hcA hcB => by rw [hW.alike.findClass] at hcA hcB; rw [hW.alike.assignable]; exact h10 A hA B hB hAB cA cB hcA hcB⟩
  · obtain ⟨sa, h⟩ := h3 q hq
    exact ⟨sa, h.warm hW⟩
  · obtain ⟨g1, g2⟩ := h7 q hq
    exact ⟨va_X.moved hW.alike (g1.kept (hS.2.1 q.1 (Nat.lt_of_lt_of_le g2 h6) (fun z => absurd z (Nat.not_le.mpr g2)))), g2⟩
theorem sd_K.call {E : sdE} {D : va_G} {tys : List (ClassId × FieldType)} {b : Nat} {U : State} {g : JFrame} {mk : MethodId} {a : Array Value} (h : sd_K E D tys b U) : sd_K E D tys b (U.calling g mk a) :=
  h.move (H := U.heap) (locs := []) (State.WarmedH.refl U) rfl va_S.rf
/-- a method: its class, code, locals, answer, words, room, what it may make, and its handlers -/
abbrev sdY : Type := String × ByteArray × Nat × Option FieldType × List Cond × Room × Nat × Nat × List (Nat × Nat × Nat × Nat)
def sd_C (Y : sdY) (p : Program) (s : State) (m : MethodId) (args : Array Value) (meth : Method) (c : Code) : Prop :=
  CallFix p m c Y.2.1 Y.2.2.1 s args Y.2.2.2.2.1 Y.1 ∧ meth.locks = false ∧ meth.sig.returnType = Y.2.2.2.1 ∧ (c.exceptionTable.toList = tableOf Y.2.2.2.2.2.2.2.2) ∧ ∀ (y : MethodName) (bytes : ByteArray) (nL : Nat) (ret : Option FieldType) (ws' : List Cond), Y.2.2.2.2.1 = Cond.code y bytes nL ret :: ws' → meth.name = y.name
/-- an end: it returned with Q, or it threw an object of a class E with X; what was written lies from b on; at most mc cells of ms slots are new -/
def sd_R (b : Nat) (aF : Nat → Nat) (F : sdM → Heap → Prop) (Q : Option Value → sdM → Prop) : Array Value → State → Outcome → State → Prop := fun _ st o t => ∃ (v : Option Value) (M : sdM), o = .returned (v.map (sd_v aF)) ∧ Q v M ∧ F M t.heap ∧ va_F (sd_A b) st t
def sd_T (b : Nat) (F : sdM → Heap → Prop) (X : String → sdM → Prop) (mc ms : Nat) (st : State) (q : Addr) (t : State) : Prop :=
  ∃ (E : String) (M : sdM) (ce : Cell) (L : List Loc), X E M ∧ F M t.heap ∧ t.heap[q]? = some ce ∧ ce.vm = .none ∧ st.vm.findClass E = some ce.cls ∧ va_F (sd_A b) st t ∧ st.WarmedH t.vm ∧ st.sameButNew ({ t with vm := st.vm } : State) L mc ms ∧ ∀ z ∈ L, sd_A b z.base
def sd_End (b : Nat) (aF : Nat → Nat) (F : sdM → Heap → Prop) (Q : Option Value → sdM → Prop) (X : String → sdM → Prop) (mc ms : Nat) : Array Value → State → Outcome → State → Prop := fun a st o t =>
  (sd_R b aF F Q a st o t ∧ ∃ L, FrameEnd st o t L mc ms ∧ ∀ z ∈ L, sd_A b z.base) ∨ ∃ q, o = .threw q ∧ sd_T b F X mc ms st q t
def sd_Z (b : Nat) (aF : Nat → Nat) (F : sdM → Heap → Prop) (Q : Option Value → sdM → Prop) (X : String → sdM → Prop) (mc ms : Nat) (below : List Frame) (a : Array Value) (st : State) : State → Prop := fun t => ∃ o, t.status = .running ∧ Ended t below o ∧ sd_End b aF F Q X mc ms a st o t
/-- the contract of a method at a world: started with av in M, it ends with Q or throws with X -/
def sd_Cn (l : Launch) (E : sdE) (y : MethodName) (ws : List Cond) (rm : Room) (mc ms : Nat) (D : va_G) (tys : List (ClassId × FieldType)) (b n : Nat) (ad : Nat → Nat) (L : Nat → sdL) (M : sdM) (av : List Value) (Q : Option Value → sdM → Prop) (X : String → sdM → Prop) : Prop :=
  MetFree l y (headSpec ws rm) (va_Pc (av.map (sd_v ad)) (fun U => sd_K E D tys b U ∧ sd_H D E.1 n ad L M U.heap)) (fun _ _ _ _ _ => True) (sd_End b ad (sd_H D E.1 n ad L) Q X mc ms)
/-- a contract whose end is another world -/
def sd_CnF (l : Launch) (E : sdE) (y : MethodName) (ws : List Cond) (rm : Room) (mc ms : Nat) (D : va_G) (tys : List (ClassId × FieldType)) (b n : Nat) (ad : Nat → Nat) (L : Nat → sdL) (M : sdM) (av : List Value) (F : sdM → Heap → Prop) (Q : Option Value → sdM → Prop) (X : String → sdM → Prop) : Prop :=
  MetFree l y (headSpec ws rm) (va_Pc (av.map (sd_v ad)) (fun U => sd_K E D tys b U ∧ sd_H D E.1 n ad L M U.heap)) (fun _ _ _ _ _ => True) (sd_End b ad F Q X mc ms)
/-- the frame of Y at pc, with the locals loc and the stack st (references by their cells' numbers), in M: comes to its end with Q or X; rc, rs: what it may still make -/
def sdW (l : Launch) (E : sdE) (Y : sdY) (D : va_G) (tys : List (ClassId × FieldType)) (b n : Nat) (ad : Nat → Nat) (L : Nat → sdL) (aF : Nat → Nat) (F : sdM → Heap → Prop) (Q : Option Value → sdM → Prop) (X : String → sdM → Prop)
    (pc : Nat) (loc : List (Nat × Value)) (st : List Value) (M : sdM) (rc rs : Nat) : Prop :=
  ∀ (p : Program) (e : Env) (s : State) (m : MethodId) (args : Array Value) (below : List Frame) (meth : Method) (c : Code) (H : Heap) (locs : List Loc) (ls : Array Slot) (cells slots : Nat),
    sd_C Y p s m args meth c → sd_K E D tys b s → sd_H D E.1 n ad L M H → va_S (sd_A b) s.heap H locs → lv_has ls Y.2.2.1 (sd_l ad loc) → cells + rc ≤ Y.2.2.2.2.2.2.1 → slots + rs ≤ Y.2.2.2.2.2.2.2.1 →
    W p l e Y.2.2.2.2.2.1 s m args below meth c H locs cells slots (sd_Z b aF F Q X Y.2.2.2.2.2.2.1 Y.2.2.2.2.2.2.2.1 below args s) (F0 m pc ls (st.map (sd_v ad)))
def sd_s (M : sdM) (t i : Nat) (x : Int32) : sdM := va_up M t (upd (M t) i x)
def sdB (x : Int32) : Prop := x = 0 ∨ x = 1
theorem sdB_n {x : Int32} (h : sdB x) : narrow .boolean (.int x) = .int x := by rcases h with rfl | rfl <;> rfl
theorem sdB_f {x : Int32} (h : sdB x) : fits .boolean (.int x) = true := by rcases h with rfl | rfl <;> rfl
theorem sdB_v {x : Int32} (h : sdB x) : vp_nar .boolean x = x := by rcases h with rfl | rfl <;> rfl
def sd_qi (Q : Int32 → sdM → Prop) : Option Value → sdM → Prop := fun v M => ∃ r : Int32, v = some (.int r) ∧ Q r M
def sd_qv (Q : sdM → Prop) : Option Value → sdM → Prop := fun v M => v = none ∧ Q M
def sd_qr (P : Nat → Prop) (Q : Nat → sdM → Prop) : Option Value → sdM → Prop := fun v M => ∃ t : Nat, v = some (.ref t) ∧ P t ∧ Q t M
def sd_xf : String → sdM → Prop := fun _ _ => False
theorem sd_cats (ad : Nat → Nat) : ∀ (l : List Value), ((l.map (sd_v ad)).map fun v => v.category).sum = (l.map fun v => v.category).sum
  | [] => rfl
  | v :: r => by
    have h := sd_cats ad r
    simp only [List.map_cons, List.sum_cons, sd_v_cat, h]
theorem sd_args (ad : Nat → Nat) : ∀ (l : List Value) (i : Nat), lv_args i (l.map (sd_v ad)) = sd_l ad (lv_args i l)
  | [], i => rfl
  | v :: r, i => by
    simp only [List.map_cons, lv_args, sd_v_cat]
    rw [sd_args ad r]
    rfl
theorem sd_sl (ad : Nat → Nat) : ∀ (l : List Value), (lg_sl (l.map (sd_v ad))).length = (lg_sl l).length
  | [] => rfl
  | v :: r => by
    have h := sd_sl ad r
    simp only [lg_sl, List.map_cons, List.flatMap_cons, List.length_append, sd_v_cat] at h ⊢
    rw [h]
    split <;> rfl
theorem sd_tb {Y : sdY} {p : Program} {s : State} {m : MethodId} {args : Array Value} {meth : Method} {c : Code} (hC : sd_C Y p s m args meth c) (htb : Y.2.2.2.2.2.2.2.2 = []) : ∀ x ∈ c.exceptionTable.toList, False := by
  intro x hx
  rw [hC.2.2.2.1, htb] at hx
  cases hx
/-- what a call of y (its data Y') by the constant idx of Y's class rests on -/
def sd_cwV (Y Y' : sdY) (y : MethodName) (idx na : Nat) (C : String) : Prop :=
  GoodIn Y.2.2.2.2.1 (wsV Y.1 idx C y Y'.2.2.2.2.1) ∧ (∃ ws', Y'.2.2.2.2.1 = Cond.code y Y'.2.1 Y'.2.2.1 Y'.2.2.2.1 :: ws') ∧ (Y'.2.2.2.2.2.1.cells = Y'.2.2.2.2.2.2.1 ∧ Y'.2.2.2.2.2.1.slots = Y'.2.2.2.2.2.2.2.1 ∧ Y.2.2.2.2.2.1.cells = Y.2.2.2.2.2.2.1 ∧ Y.2.2.2.2.2.1.slots = Y.2.2.2.2.2.2.2.1) ∧
  (y.cls = C ∧ y.cls ≠ "java/lang/invoke/MethodHandle" ∧ y.cls ≠ "java/lang/invoke/VarHandle" ∧ (parseMethodDescriptor y.desc).map (fun d => d.parameters.length) = some na) ∧ (Y'.2.2.2.2.2.1.frames + 1 ≤ Y.2.2.2.2.2.1.frames ∧ 8 + (Y'.2.2.1 + 11) + Y'.2.2.2.2.2.1.locals ≤ Y.2.2.2.2.2.1.locals)
def sd_cwS (Y Y' : sdY) (y : MethodName) (idx na : Nat) : Prop :=
  GoodIn Y.2.2.2.2.1 (va_wsS Y.1 idx y Y'.2.2.2.2.1) ∧ (∃ ws', Y'.2.2.2.2.1 = Cond.code y Y'.2.1 Y'.2.2.1 Y'.2.2.2.1 :: ws') ∧ (Y'.2.2.2.2.2.1.cells = Y'.2.2.2.2.2.2.1 ∧ Y'.2.2.2.2.2.1.slots = Y'.2.2.2.2.2.2.2.1 ∧ Y.2.2.2.2.2.1.cells = Y.2.2.2.2.2.2.1 ∧ Y.2.2.2.2.2.1.slots = Y.2.2.2.2.2.2.2.1) ∧
  (y.cls ≠ "java/lang/invoke/MethodHandle" ∧ y.cls ≠ "java/lang/invoke/VarHandle" ∧ (parseMethodDescriptor y.desc).map (fun d => d.parameters.length) = some na) ∧ (Y'.2.2.2.2.2.1.frames + 1 ≤ Y.2.2.2.2.2.1.frames ∧ 8 + (Y'.2.2.1 + 11) + Y'.2.2.2.2.2.1.locals ≤ Y.2.2.2.2.2.1.locals)
/-- a call of a method that keeps its contract, from the caller's frame on -/
theorem sd_pay {p : Program} {l : Launch} {e : Env} {R : Room} {s : State} {m : MethodId} {args : Array Value} {below : List Frame} {meth : Method} {c : Code} {U : State} {locs : List Loc} {cells slots mc ms b : Nat} {y : MethodName} {ws : List Cond} {rm : Room} {Pc : Array Value → State → Prop} {ad : Nat → Nat} {F : sdM → Heap → Prop} {Q : Option Value → sdM → Prop} {X : String → sdM → Prop} {bytes : ByteArray} {maxL W9 : Nat} {ret : Option FieldType} {g : JFrame} {ig : Instr} {len : Nat} {mk : MethodId} {a : Array Value}
    (hM : MetFree l y (headSpec ws rm) Pc (fun _ _ _ _ _ => True) (sd_End b ad F Q X mc ms)) (St : Stand p l e R s m args below meth c U locs cells slots) (hg : g.method = m) (hsize : g.locals.size = c.maxLocals) (hdg : decode c.code g.pc = .ok (ig, len)) (hn : U.methodNamed? y = some mk)
    (hws : ∀ w ∈ ws, w.before a U = true) (hcode : (Cond.code y bytes maxL ret).before a U = true) (hinit : (Cond.initialized y.cls).before a U = true) (hrc : rm.cells = mc) (hrs : rm.slots = ms) (hfr : rm.frames + 1 ≤ R.frames) (hlo : W9 + (maxL + 11) + rm.locals ≤ R.locals) (hW : 2 * g.monitorRoom + (g.stack.map fun v => v.category).sum ≤ W9)
    (hc : cells + mc ≤ R.cells) (hs : slots + ms ≤ R.slots) (hP : Pc a (U.calling g mk a)) :
    (∃ (v : Option Value) (M : sdM) (T' : State) (L : List Loc), Stand p l e R s m args below meth c T' (locs ++ L) (cells + mc) (slots + ms) ∧ Q v M ∧ F M T'.heap ∧ (U.heap.size ≤ T'.heap.size ∧ ∀ q : Nat, q < U.heap.size → ¬ sd_A b q → T'.heap[q]? = U.heap[q]?) ∧ (∀ z ∈ L, sd_A b z.base) ∧
      Steps p.tables e below (doInvoke e (U.setTop g) [] mk a).1 (T'.setTop { g with pc := g.pc + len, stack := (v.map (sd_v ad)).toList ++ g.stack })) ∨
    (∃ (q : Addr) (E : String) (M : sdM) (ce : Cell) (T' : State) (L : List Loc), Stand p l e R s m args below meth c T' (locs ++ L) (cells + mc) (slots + ms) ∧ X E M ∧ F M T'.heap ∧ T'.heap[q]? = some ce ∧ ce.vm = .none ∧ U.vm.findClass E = some ce.cls ∧ (U.heap.size ≤ T'.heap.size ∧ ∀ q : Nat, q < U.heap.size → ¬ sd_A b q → T'.heap[q]? = U.heap[q]?) ∧ (∀ z ∈ L, sd_A b z.base) ∧
      Steps p.tables e below (doInvoke e (U.setTop g) [] mk a).1 ((T'.setTop g).pushFrame (.throwing q))) := by
  obtain ⟨methY, cY, hmY, hcY, -, hlY, -, -, -, -⟩ := Cond.code_spec hn hcode
  obtain ⟨kY, hkY, -⟩ := className_of_methodNamed hn
  have hat : At U g.method c below := by rw [hg]; exact St.here
  have happ : (headSpec ws rm).appliesLoose y e.platform (U.calling g mk a) = true :=
    Spec.appliesLoose_calling (g := g) hat hdg hn hkY (Cond.initialized_spec (findClass_of_methodNamed hn) hkY hinit)
      (St.room_calling (g := g) (R' := rm) hsize hmY hcY hfr (by rw [hlY]; omega) (by rw [hrc]; exact hc) (by rw [hrs]; exact hs)) (atoms_intro hws)
  obtain ⟨g0, hfr0⟩ := St.frames_eq
  have htop : (U.setTop g).frames = .java g :: below := by rw [State.frames_setTop' g St.here.top, hfr0]; rfl
  obtain ⟨o, t, hsteps, -, hend, hq⟩ := Free.Steps.callFree hM p St.admits St.cas St.clock (acts := []) (mid := [.java g]) (below := below) htop happ hP trivial
  rw [htop] at hend
  rcases hq with ⟨⟨v, M, rfl, hQ, hF, hFr⟩, L, ⟨-, hWm, hsame⟩, hL⟩ | ⟨q, rfl, E, M, ce, L, hX, hF, hce, hcv, hcl, hFr, hWm, hsame, hL⟩
  · obtain ⟨T', St', -, -, rfl⟩ := St.outOf hg hdg hend hWm hsame
    exact Or.inl ⟨v, M, T', L, St', hQ, hF, hFr, hL, hsteps⟩
  · obtain ⟨T', St', -, -, rfl⟩ := St.outOfThrown hg hend hWm hsame
    exact Or.inr ⟨q, E, M, ce, T', L, St', hX, hF, hce, hcv, hcl, hFr, hL, hsteps⟩
/-- the frame g of a method, with q thrown over it -/
def sd_TW (p : Program) (l : Launch) (e : Env) (R : Room) (s : State) (m : MethodId) (args : Array Value) (below : List Frame) (meth : Method) (c : Code) (H : Heap) (locs : List Loc) (cells slots : Nat) (Q : State → Prop) (g : JFrame) (q : Addr) : Prop :=
  ∀ T : State, T.heap = H → Stand p l e R s m args below meth c T locs cells slots → ∃ t, Steps p.tables e below ((T.setTop g).pushFrame (.throwing q)) t ∧ Q t
theorem sd_S_next {b : Nat} {H0 H H1 : Heap} {locs L : List Loc} (hS : va_S (sd_A b) H0 H locs) (h : H.size ≤ H1.size ∧ ∀ q : Nat, q < H.size → ¬ sd_A b q → H1[q]? = H[q]?) (hL : ∀ z ∈ L, sd_A b z.base) : va_S (sd_A b) H0 H1 (locs ++ L) := by
  refine ⟨Nat.le_trans hS.1 h.1, fun q h1 h2 => ?_, fun z hz => ?_⟩
  · rw [h.2 q (Nat.lt_of_lt_of_le h1 hS.1) h2]
    exact hS.2.1 q h1 h2
  · rcases List.mem_append.mp hz with hz | hz
    · exact hS.2.2 z hz
    · exact hL z hz
/-- no handler here: what was thrown goes on to the caller -/
theorem sd_out {p : Program} {l : Launch} {e : Env} {R : Room} {s : State} {m : MethodId} {args : Array Value} {below : List Frame} {meth : Method} {c : Code} {H : Heap} {locs : List Loc} {cells slots mc ms b : Nat} {aF : Nat → Nat} {F : sdM → Heap → Prop} {Q : Option Value → sdM → Prop} {X : String → sdM → Prop} {pc : Nat} {ls : Array Slot} {st : List Value} {q : Addr} {E : String} {M : sdM} {ce : Cell}
    (hout : ∀ x ∈ c.exceptionTable.toList, False) (hlocks : meth.locks = false) (hX : X E M) (hF : F M H) (hce : H[q]? = some ce) (hcv : ce.vm = .none) (hcl : s.vm.findClass E = some ce.cls) (hS : va_S (sd_A b) s.heap H locs) (hc : cells ≤ mc) (hs : slots ≤ ms) :
    sd_TW p l e R s m args below meth c H locs cells slots (sd_Z b aF F Q X mc ms below args s) (F0 m pc ls st) q := by
  intro T hT St
  subst hT
  obtain ⟨h1, h2, h3, h4, h5⟩ := St.leaveThrown q (g := F0 m pc ls st) rfl rfl rfl (fun x hx => (hout x hx).elim) hlocks
  exact ⟨_, h1, .threw q, h2, h3, Or.inr ⟨q, rfl, E, M, ce, locs, hX, hF, hce, hcv, hcl, hS.F rfl, h4, h5.mono hc hs, hS.2.2⟩⟩
theorem sd_ret {p : Program} {l : Launch} {e : Env} {R : Room} {s : State} {m : MethodId} {args : Array Value} {below : List Frame} {meth : Method} {c : Code} {H : Heap} {locs : List Loc} {cells slots mc ms b : Nat} {aF : Nat → Nat} {F : sdM → Heap → Prop} {Q : Option Value → sdM → Prop} {X : String → sdM → Prop} {g : JFrame} (k : W p l e R s m args below meth c H locs cells slots (MQ below (sd_R b aF F Q) args s mc ms (sd_A b)) g) : W p l e R s m args below meth c H locs cells slots (sd_Z b aF F Q X mc ms below args s) g := by
  intro T hT St
  obtain ⟨t, a1, o, b1, b2, b3, b4⟩ := k T hT St
  exact ⟨t, a1, o, b1, b2, Or.inl ⟨b3, b4⟩⟩
theorem sd_blind {E : sdE} {D : va_G} {tys : List (ClassId × FieldType)} {b n : Nat} {ad : Nat → Nat} {L : Nat → sdL} {M : sdM} {av : List Value} : FrameBlind (va_Pc av (fun U => sd_K E D tys b U ∧ sd_H D E.1 n ad L M U.heap)) :=
  fun _ _ _ _ q => ⟨q.1, q.2.1.call, q.2.2⟩
theorem sd_one {D : va_G} {cl : List vw_C} {q : Nat × va_E} {H : Heap} (h : va_at D cl q H) : va_P D cl [q] H := fun k x hk => by
  have hz : k < 1 := (List.getElem?_eq_some_iff.mp hk).1
  rw [show k = 0 by omega] at hk
  cases hk
  exact h
theorem sd_l_pick {ad : Nat → Nat} (loc : List (Nat × Value)) : ∀ (js : List Nat), lv_pick (sd_l ad loc) js = sd_l ad (lv_pick loc js)
  | [] => rfl
  | j :: js => by
    have h := sd_l_pick (ad := ad) loc js
    simp only [lv_pick, List.filterMap_cons] at h ⊢
    cases hj : loc[j]? with
    | none => 
      have h1 : (sd_l ad loc)[j]? = none := by rw [sd_l, List.getElem?_map, hj]; rfl
      simp only [h1, h]
    | some q =>
      have h1 : (sd_l ad loc)[j]? = some (q.1, sd_v ad q.2) := sd_l_get hj
      simp only [h1, h]
      rfl
section SDR
variable {l : Launch} {E : sdE} {Y : sdY} {D : va_G} {tys : List (ClassId × FieldType)} {b n : Nat} {ad : Nat → Nat} {L : Nat → sdL} {aF : Nat → Nat} {F : sdM → Heap → Prop} {Q : Option Value → sdM → Prop} {X : String → sdM → Prop}
variable {pc : Nat} {loc : List (Nat × Value)} {st : List Value} {M : sdM} {rc rs : Nat}
theorem x_iconst {z : Int} {v : Int32} (d : decode Y.2.1 pc = .ok (.iconst z, 1)) (hv : Int32.ofInt z = v) (k : sdW l E Y D tys b n ad L aF F Q X (pc + 1) loc (.int v :: st) M rc rs) : sdW l E Y D tys b n ad L aF F Q X pc loc st M rc rs := by
  intro p e s m args below meth c H locs ls cells slots hC hK hH hS hl hc hs
  exact lv_iconst hC.1.1 hC.1.2.1 d hv (k p e s m args below meth c H locs ls cells slots hC hK hH hS hl hc hs)
theorem x_bipush {z : Int} {v : Int32} (d : decode Y.2.1 pc = .ok (.bipush z, 2)) (hv : (Int8.ofInt z).toInt32 = v) (k : sdW l E Y D tys b n ad L aF F Q X (pc + 2) loc (.int v :: st) M rc rs) : sdW l E Y D tys b n ad L aF F Q X pc loc st M rc rs := by
  intro p e s m args below meth c H locs ls cells slots hC hK hH hS hl hc hs
  exact lv_bipush hC.1.1 hC.1.2.1 d hv (k p e s m args below meth c H locs ls cells slots hC hK hH hS hl hc hs)
theorem x_sipush {z : Int} {v : Int32} (d : decode Y.2.1 pc = .ok (.sipush z, 3)) (hv : (Int16.ofInt z).toInt32 = v) (k : sdW l E Y D tys b n ad L aF F Q X (pc + 3) loc (.int v :: st) M rc rs) : sdW l E Y D tys b n ad L aF F Q X pc loc st M rc rs := by
  intro p e s m args below meth c H locs ls cells slots hC hK hH hS hl hc hs
  exact lv_sipush hC.1.1 hC.1.2.1 d hv (k p e s m args below meth c H locs ls cells slots hC hK hH hS hl hc hs)
theorem x_iload_n {f : Fin 4} (i j : Nat) {x : Int32} (d : decode Y.2.1 pc = .ok (.iload_n f, 1)) (hi : (f : Nat) = i) (h : loc[j]? = some (i, .int x)) (k : sdW l E Y D tys b n ad L aF F Q X (pc + 1) loc (.int x :: st) M rc rs) : sdW l E Y D tys b n ad L aF F Q X pc loc st M rc rs := by
  intro p e s m args below meth c H locs ls cells slots hC hK hH hS hl hc hs
  exact lv_iload_n hC.1.1 hC.1.2.1 d hi (lv_at hl j (sd_l_get h)) (k p e s m args below meth c H locs ls cells slots hC hK hH hS hl hc hs)
theorem x_iload (i j : Nat) {x : Int32} (d : decode Y.2.1 pc = .ok (.iload i, 2)) (h : loc[j]? = some (i, .int x)) (k : sdW l E Y D tys b n ad L aF F Q X (pc + 2) loc (.int x :: st) M rc rs) : sdW l E Y D tys b n ad L aF F Q X pc loc st M rc rs := by
  intro p e s m args below meth c H locs ls cells slots hC hK hH hS hl hc hs
  exact lv_iload hC.1.1 hC.1.2.1 d (lv_at hl j (sd_l_get h)) (k p e s m args below meth c H locs ls cells slots hC hK hH hS hl hc hs)
theorem x_aload_n {f : Fin 4} (i j : Nat) {x : Nat} (d : decode Y.2.1 pc = .ok (.aload_n f, 1)) (hi : (f : Nat) = i) (h : loc[j]? = some (i, .ref x)) (k : sdW l E Y D tys b n ad L aF F Q X (pc + 1) loc (.ref x :: st) M rc rs) : sdW l E Y D tys b n ad L aF F Q X pc loc st M rc rs := by
  intro p e s m args below meth c H locs ls cells slots hC hK hH hS hl hc hs
  exact lv_aload_n hC.1.1 hC.1.2.1 d hi (lv_at hl j (sd_l_get h)) (k p e s m args below meth c H locs ls cells slots hC hK hH hS hl hc hs)
theorem x_aload (i j : Nat) {x : Nat} (d : decode Y.2.1 pc = .ok (.aload i, 2)) (h : loc[j]? = some (i, .ref x)) (k : sdW l E Y D tys b n ad L aF F Q X (pc + 2) loc (.ref x :: st) M rc rs) : sdW l E Y D tys b n ad L aF F Q X pc loc st M rc rs := by
  intro p e s m args below meth c H locs ls cells slots hC hK hH hS hl hc hs
  exact lv_aload hC.1.1 hC.1.2.1 d (lv_at hl j (sd_l_get h)) (k p e s m args below meth c H locs ls cells slots hC hK hH hS hl hc hs)
theorem x_istore_n {f : Fin 4} (i : Nat) (loc' : List (Nat × Value)) {x : Int32} (d : decode Y.2.1 pc = .ok (.istore_n f, 1)) (hi : (f : Nat) = i) (hn : i < Y.2.2.1) (h : (i, Value.int x) :: loc.filter (fun q => !(q.1 == i) && !(q.1 + 1 == i && q.2.category == 2)) = loc') (k : sdW l E Y D tys b n ad L aF F Q X (pc + 1) loc' st M rc rs) : sdW l E Y D tys b n ad L aF F Q X pc loc (.int x :: st) M rc rs := by
  intro p e s m args below meth c H locs ls cells slots hC hK hH hS hl hc hs
  refine lv_istore_n hC.1.1 hC.1.2.1 d hi hl hn rfl (fun ls' hl' => ?_)
  rw [sd_l_flt] at hl'
  subst h
  exact k p e s m args below meth c H locs ls' cells slots hC hK hH hS hl' hc hs
theorem x_istore (i : Nat) (loc' : List (Nat × Value)) {x : Int32} (d : decode Y.2.1 pc = .ok (.istore i, 2)) (hn : i < Y.2.2.1) (h : (i, Value.int x) :: loc.filter (fun q => !(q.1 == i) && !(q.1 + 1 == i && q.2.category == 2)) = loc') (k : sdW l E Y D tys b n ad L aF F Q X (pc + 2) loc' st M rc rs) : sdW l E Y D tys b n ad L aF F Q X pc loc (.int x :: st) M rc rs := by
  intro p e s m args below meth c H locs ls cells slots hC hK hH hS hl hc hs
  refine lv_istore hC.1.1 hC.1.2.1 d hl hn rfl (fun ls' hl' => ?_)
  rw [sd_l_flt] at hl'
  subst h
  exact k p e s m args below meth c H locs ls' cells slots hC hK hH hS hl' hc hs
theorem x_astore_n {f : Fin 4} (i : Nat) (loc' : List (Nat × Value)) {x : Nat} (d : decode Y.2.1 pc = .ok (.astore_n f, 1)) (hi : (f : Nat) = i) (hn : i < Y.2.2.1) (h : (i, Value.ref x) :: loc.filter (fun q => !(q.1 == i) && !(q.1 + 1 == i && q.2.category == 2)) = loc') (k : sdW l E Y D tys b n ad L aF F Q X (pc + 1) loc' st M rc rs) : sdW l E Y D tys b n ad L aF F Q X pc loc (.ref x :: st) M rc rs := by
  intro p e s m args below meth c H locs ls cells slots hC hK hH hS hl hc hs
  refine lv_astore_n hC.1.1 hC.1.2.1 d hi hl hn rfl (fun ls' hl' => ?_)
  rw [sd_l_flt] at hl'
  subst h
  exact k p e s m args below meth c H locs ls' cells slots hC hK hH hS hl' hc hs
theorem x_astore (i : Nat) (loc' : List (Nat × Value)) {x : Nat} (d : decode Y.2.1 pc = .ok (.astore i, 2)) (hn : i < Y.2.2.1) (h : (i, Value.ref x) :: loc.filter (fun q => !(q.1 == i) && !(q.1 + 1 == i && q.2.category == 2)) = loc') (k : sdW l E Y D tys b n ad L aF F Q X (pc + 2) loc' st M rc rs) : sdW l E Y D tys b n ad L aF F Q X pc loc (.ref x :: st) M rc rs := by
  intro p e s m args below meth c H locs ls cells slots hC hK hH hS hl hc hs
  refine lv_astore hC.1.1 hC.1.2.1 d hl hn rfl (fun ls' hl' => ?_)
  rw [sd_l_flt] at hl'
  subst h
  exact k p e s m args below meth c H locs ls' cells slots hC hK hH hS hl' hc hs
theorem x_iinc (i j : Nat) (loc' : List (Nat × Value)) {z : Int} {x v : Int32} (d : decode Y.2.1 pc = .ok (.iinc i z, 3)) (hj : loc[j]? = some (i, .int x)) (hv : x + Int32.ofInt z = v) (hn : i < Y.2.2.1) (h : (i, Value.int v) :: loc.filter (fun q => !(q.1 == i) && !(q.1 + 1 == i && q.2.category == 2)) = loc') (k : sdW l E Y D tys b n ad L aF F Q X (pc + 3) loc' st M rc rs) : sdW l E Y D tys b n ad L aF F Q X pc loc st M rc rs := by
  intro p e s m args below meth c H locs ls cells slots hC hK hH hS hl hc hs
  refine lv_iinc hC.1.1 hC.1.2.1 d hl (sd_l_get hj) hv hn rfl (fun ls' hl' => ?_)
  rw [sd_l_flt] at hl'
  subst h
  exact k p e s m args below meth c H locs ls' cells slots hC hK hH hS hl' hc hs
theorem x_iadd {x y : Int32} (d : decode Y.2.1 pc = .ok (.iadd, 1)) (k : sdW l E Y D tys b n ad L aF F Q X (pc + 1) loc (.int (x + y) :: st) M rc rs) : sdW l E Y D tys b n ad L aF F Q X pc loc (.int y :: .int x :: st) M rc rs := by
  intro p e s m args below meth c H locs ls cells slots hC hK hH hS hl hc hs
  exact lv_iadd hC.1.1 hC.1.2.1 d (k p e s m args below meth c H locs ls cells slots hC hK hH hS hl hc hs)
theorem x_isub {x y : Int32} (d : decode Y.2.1 pc = .ok (.isub, 1)) (k : sdW l E Y D tys b n ad L aF F Q X (pc + 1) loc (.int (x - y) :: st) M rc rs) : sdW l E Y D tys b n ad L aF F Q X pc loc (.int y :: .int x :: st) M rc rs := by
  intro p e s m args below meth c H locs ls cells slots hC hK hH hS hl hc hs
  exact lv_isub hC.1.1 hC.1.2.1 d (k p e s m args below meth c H locs ls cells slots hC hK hH hS hl hc hs)
theorem x_imul {x y : Int32} (d : decode Y.2.1 pc = .ok (.imul, 1)) (k : sdW l E Y D tys b n ad L aF F Q X (pc + 1) loc (.int (x * y) :: st) M rc rs) : sdW l E Y D tys b n ad L aF F Q X pc loc (.int y :: .int x :: st) M rc rs := by
  intro p e s m args below meth c H locs ls cells slots hC hK hH hS hl hc hs
  exact lv_imul hC.1.1 hC.1.2.1 d (k p e s m args below meth c H locs ls cells slots hC hK hH hS hl hc hs)
theorem x_iand {x y : Int32} (d : decode Y.2.1 pc = .ok (.iand, 1)) (k : sdW l E Y D tys b n ad L aF F Q X (pc + 1) loc (.int (x &&& y) :: st) M rc rs) : sdW l E Y D tys b n ad L aF F Q X pc loc (.int y :: .int x :: st) M rc rs := by
  intro p e s m args below meth c H locs ls cells slots hC hK hH hS hl hc hs
  exact lv_iand hC.1.1 hC.1.2.1 d (k p e s m args below meth c H locs ls cells slots hC hK hH hS hl hc hs)
theorem x_ior {x y : Int32} (d : decode Y.2.1 pc = .ok (.ior, 1)) (k : sdW l E Y D tys b n ad L aF F Q X (pc + 1) loc (.int (x ||| y) :: st) M rc rs) : sdW l E Y D tys b n ad L aF F Q X pc loc (.int y :: .int x :: st) M rc rs := by
  intro p e s m args below meth c H locs ls cells slots hC hK hH hS hl hc hs
  exact lv_ior hC.1.1 hC.1.2.1 d (k p e s m args below meth c H locs ls cells slots hC hK hH hS hl hc hs)
theorem x_ixor {x y : Int32} (d : decode Y.2.1 pc = .ok (.ixor, 1)) (k : sdW l E Y D tys b n ad L aF F Q X (pc + 1) loc (.int (x ^^^ y) :: st) M rc rs) : sdW l E Y D tys b n ad L aF F Q X pc loc (.int y :: .int x :: st) M rc rs := by
  intro p e s m args below meth c H locs ls cells slots hC hK hH hS hl hc hs
  exact lv_ixor hC.1.1 hC.1.2.1 d (k p e s m args below meth c H locs ls cells slots hC hK hH hS hl hc hs)
theorem x_ishl {x y : Int32} (d : decode Y.2.1 pc = .ok (.ishl, 1)) (k : sdW l E Y D tys b n ad L aF F Q X (pc + 1) loc (.int (x <<< (y &&& 31)) :: st) M rc rs) : sdW l E Y D tys b n ad L aF F Q X pc loc (.int y :: .int x :: st) M rc rs := by
  intro p e s m args below meth c H locs ls cells slots hC hK hH hS hl hc hs
  exact lv_ishl hC.1.1 hC.1.2.1 d (k p e s m args below meth c H locs ls cells slots hC hK hH hS hl hc hs)
theorem x_ishr {x y : Int32} (d : decode Y.2.1 pc = .ok (.ishr, 1)) (k : sdW l E Y D tys b n ad L aF F Q X (pc + 1) loc (.int (x >>> (y &&& 31)) :: st) M rc rs) : sdW l E Y D tys b n ad L aF F Q X pc loc (.int y :: .int x :: st) M rc rs := by
  intro p e s m args below meth c H locs ls cells slots hC hK hH hS hl hc hs
  exact lv_ishr hC.1.1 hC.1.2.1 d (k p e s m args below meth c H locs ls cells slots hC hK hH hS hl hc hs)
theorem x_idiv {x y : Int32} (d : decode Y.2.1 pc = .ok (.idiv, 1)) (h : ¬ y = 0) (k : sdW l E Y D tys b n ad L aF F Q X (pc + 1) loc (.int (x / y) :: st) M rc rs) : sdW l E Y D tys b n ad L aF F Q X pc loc (.int y :: .int x :: st) M rc rs := by
  intro p e s m args below meth c H locs ls cells slots hC hK hH hS hl hc hs
  exact lv_idiv hC.1.1 hC.1.2.1 d h (k p e s m args below meth c H locs ls cells slots hC hK hH hS hl hc hs)
theorem x_irem {x y : Int32} (d : decode Y.2.1 pc = .ok (.irem, 1)) (h : ¬ y = 0) (k : sdW l E Y D tys b n ad L aF F Q X (pc + 1) loc (.int (x - x / y * y) :: st) M rc rs) : sdW l E Y D tys b n ad L aF F Q X pc loc (.int y :: .int x :: st) M rc rs := by
  intro p e s m args below meth c H locs ls cells slots hC hK hH hS hl hc hs
  exact lv_irem hC.1.1 hC.1.2.1 d h (k p e s m args below meth c H locs ls cells slots hC hK hH hS hl hc hs)
theorem x_ineg {x : Int32} (d : decode Y.2.1 pc = .ok (.ineg, 1)) (k : sdW l E Y D tys b n ad L aF F Q X (pc + 1) loc (.int (-x) :: st) M rc rs) : sdW l E Y D tys b n ad L aF F Q X pc loc (.int x :: st) M rc rs := by
  intro p e s m args below meth c H locs ls cells slots hC hK hH hS hl hc hs
  exact lv_ineg hC.1.1 hC.1.2.1 d (k p e s m args below meth c H locs ls cells slots hC hK hH hS hl hc hs)
theorem x_dup {va : Value} (d : decode Y.2.1 pc = .ok (.dup, 1)) (hva : va.category = 1) (k : sdW l E Y D tys b n ad L aF F Q X (pc + 1) loc (va :: va :: st) M rc rs) : sdW l E Y D tys b n ad L aF F Q X pc loc (va :: st) M rc rs := by
  intro p e s m args below meth c H locs ls cells slots hC hK hH hS hl hc hs
  exact lv_dup hC.1.1 hC.1.2.1 d ((sd_v_cat ad va).trans hva) (k p e s m args below meth c H locs ls cells slots hC hK hH hS hl hc hs)
theorem x_pop {va : Value} (d : decode Y.2.1 pc = .ok (.pop, 1)) (hva : va.category = 1) (k : sdW l E Y D tys b n ad L aF F Q X (pc + 1) loc st M rc rs) : sdW l E Y D tys b n ad L aF F Q X pc loc (va :: st) M rc rs := by
  intro p e s m args below meth c H locs ls cells slots hC hK hH hS hl hc hs
  exact lv_pop hC.1.1 hC.1.2.1 d ((sd_v_cat ad va).trans hva) (k p e s m args below meth c H locs ls cells slots hC hK hH hS hl hc hs)
theorem x_dup_x1 {va vb : Value} (d : decode Y.2.1 pc = .ok (.dup_x1, 1)) (hva : va.category = 1) (hvb : vb.category = 1) (k : sdW l E Y D tys b n ad L aF F Q X (pc + 1) loc (va :: vb :: va :: st) M rc rs) : sdW l E Y D tys b n ad L aF F Q X pc loc (va :: vb :: st) M rc rs := by
  intro p e s m args below meth c H locs ls cells slots hC hK hH hS hl hc hs
  exact lv_dup_x1 hC.1.1 hC.1.2.1 d ((sd_v_cat ad va).trans hva) ((sd_v_cat ad vb).trans hvb) (k p e s m args below meth c H locs ls cells slots hC hK hH hS hl hc hs)
theorem x_dup_x2 {va vb vd : Value} (d : decode Y.2.1 pc = .ok (.dup_x2, 1)) (hva : va.category = 1) (hvb : vb.category = 1) (hvd : vd.category = 1) (k : sdW l E Y D tys b n ad L aF F Q X (pc + 1) loc (va :: vb :: vd :: va :: st) M rc rs) : sdW l E Y D tys b n ad L aF F Q X pc loc (va :: vb :: vd :: st) M rc rs := by
  intro p e s m args below meth c H locs ls cells slots hC hK hH hS hl hc hs
  exact lv_dup_x2 hC.1.1 hC.1.2.1 d ((sd_v_cat ad va).trans hva) ((sd_v_cat ad vb).trans hvb) ((sd_v_cat ad vd).trans hvd) (k p e s m args below meth c H locs ls cells slots hC hK hH hS hl hc hs)
theorem x_dup2 {va vb : Value} (d : decode Y.2.1 pc = .ok (.dup2, 1)) (hva : va.category = 1) (hvb : vb.category = 1) (k : sdW l E Y D tys b n ad L aF F Q X (pc + 1) loc (va :: vb :: va :: vb :: st) M rc rs) : sdW l E Y D tys b n ad L aF F Q X pc loc (va :: vb :: st) M rc rs := by
  intro p e s m args below meth c H locs ls cells slots hC hK hH hS hl hc hs
  exact lv_dup2_11 hC.1.1 hC.1.2.1 d ((sd_v_cat ad va).trans hva) ((sd_v_cat ad vb).trans hvb) (k p e s m args below meth c H locs ls cells slots hC hK hH hS hl hc hs)
theorem x_if_eq {x : Int32} {off : Int} (tgt : Nat) (d : decode Y.2.1 pc = .ok (.ifCond .eq off, 3)) (ht : (pc : Int) + off = (tgt : Int)) (kt : x = 0 → sdW l E Y D tys b n ad L aF F Q X tgt loc st M rc rs) (kf : ¬ x = 0 → sdW l E Y D tys b n ad L aF F Q X (pc + 3) loc st M rc rs) : sdW l E Y D tys b n ad L aF F Q X pc loc (.int x :: st) M rc rs := by
  intro p e s m args below meth c H locs ls cells slots hC hK hH hS hl hc hs
  exact lv_if_eq hC.1.1 hC.1.2.1 d ht (fun h => kt h p e s m args below meth c H locs ls cells slots hC hK hH hS hl hc hs) (fun h => kf h p e s m args below meth c H locs ls cells slots hC hK hH hS hl hc hs)
theorem x_if_ne {x : Int32} {off : Int} (tgt : Nat) (d : decode Y.2.1 pc = .ok (.ifCond .ne off, 3)) (ht : (pc : Int) + off = (tgt : Int)) (kt : ¬ x = 0 → sdW l E Y D tys b n ad L aF F Q X tgt loc st M rc rs) (kf : x = 0 → sdW l E Y D tys b n ad L aF F Q X (pc + 3) loc st M rc rs) : sdW l E Y D tys b n ad L aF F Q X pc loc (.int x :: st) M rc rs := by
  intro p e s m args below meth c H locs ls cells slots hC hK hH hS hl hc hs
  exact lv_if_ne hC.1.1 hC.1.2.1 d ht (fun h => kt h p e s m args below meth c H locs ls cells slots hC hK hH hS hl hc hs) (fun h => kf h p e s m args below meth c H locs ls cells slots hC hK hH hS hl hc hs)
theorem x_if_lt {x : Int32} {off : Int} (tgt : Nat) (d : decode Y.2.1 pc = .ok (.ifCond .lt off, 3)) (ht : (pc : Int) + off = (tgt : Int)) (kt : x < 0 → sdW l E Y D tys b n ad L aF F Q X tgt loc st M rc rs) (kf : ¬ x < 0 → sdW l E Y D tys b n ad L aF F Q X (pc + 3) loc st M rc rs) : sdW l E Y D tys b n ad L aF F Q X pc loc (.int x :: st) M rc rs := by
  intro p e s m args below meth c H locs ls cells slots hC hK hH hS hl hc hs
  exact lv_if_lt hC.1.1 hC.1.2.1 d ht (fun h => kt h p e s m args below meth c H locs ls cells slots hC hK hH hS hl hc hs) (fun h => kf h p e s m args below meth c H locs ls cells slots hC hK hH hS hl hc hs)
theorem x_if_ge {x : Int32} {off : Int} (tgt : Nat) (d : decode Y.2.1 pc = .ok (.ifCond .ge off, 3)) (ht : (pc : Int) + off = (tgt : Int)) (kt : 0 ≤ x → sdW l E Y D tys b n ad L aF F Q X tgt loc st M rc rs) (kf : ¬ 0 ≤ x → sdW l E Y D tys b n ad L aF F Q X (pc + 3) loc st M rc rs) : sdW l E Y D tys b n ad L aF F Q X pc loc (.int x :: st) M rc rs := by
  intro p e s m args below meth c H locs ls cells slots hC hK hH hS hl hc hs
  exact lv_if_ge hC.1.1 hC.1.2.1 d ht (fun h => kt h p e s m args below meth c H locs ls cells slots hC hK hH hS hl hc hs) (fun h => kf h p e s m args below meth c H locs ls cells slots hC hK hH hS hl hc hs)
theorem x_if_gt {x : Int32} {off : Int} (tgt : Nat) (d : decode Y.2.1 pc = .ok (.ifCond .gt off, 3)) (ht : (pc : Int) + off = (tgt : Int)) (kt : 0 < x → sdW l E Y D tys b n ad L aF F Q X tgt loc st M rc rs) (kf : ¬ 0 < x → sdW l E Y D tys b n ad L aF F Q X (pc + 3) loc st M rc rs) : sdW l E Y D tys b n ad L aF F Q X pc loc (.int x :: st) M rc rs := by
  intro p e s m args below meth c H locs ls cells slots hC hK hH hS hl hc hs
  exact lv_if_gt hC.1.1 hC.1.2.1 d ht (fun h => kt h p e s m args below meth c H locs ls cells slots hC hK hH hS hl hc hs) (fun h => kf h p e s m args below meth c H locs ls cells slots hC hK hH hS hl hc hs)
theorem x_if_le {x : Int32} {off : Int} (tgt : Nat) (d : decode Y.2.1 pc = .ok (.ifCond .le off, 3)) (ht : (pc : Int) + off = (tgt : Int)) (kt : x ≤ 0 → sdW l E Y D tys b n ad L aF F Q X tgt loc st M rc rs) (kf : ¬ x ≤ 0 → sdW l E Y D tys b n ad L aF F Q X (pc + 3) loc st M rc rs) : sdW l E Y D tys b n ad L aF F Q X pc loc (.int x :: st) M rc rs := by
  intro p e s m args below meth c H locs ls cells slots hC hK hH hS hl hc hs
  exact lv_if_le hC.1.1 hC.1.2.1 d ht (fun h => kt h p e s m args below meth c H locs ls cells slots hC hK hH hS hl hc hs) (fun h => kf h p e s m args below meth c H locs ls cells slots hC hK hH hS hl hc hs)
theorem x_icmp_eq {x y : Int32} {off : Int} (tgt : Nat) (d : decode Y.2.1 pc = .ok (.if_icmp .eq off, 3)) (ht : (pc : Int) + off = (tgt : Int)) (kt : x = y → sdW l E Y D tys b n ad L aF F Q X tgt loc st M rc rs) (kf : ¬ x = y → sdW l E Y D tys b n ad L aF F Q X (pc + 3) loc st M rc rs) : sdW l E Y D tys b n ad L aF F Q X pc loc (.int y :: .int x :: st) M rc rs := by
  intro p e s m args below meth c H locs ls cells slots hC hK hH hS hl hc hs
  exact lv_icmp_eq hC.1.1 hC.1.2.1 d ht (fun h => kt h p e s m args below meth c H locs ls cells slots hC hK hH hS hl hc hs) (fun h => kf h p e s m args below meth c H locs ls cells slots hC hK hH hS hl hc hs)
theorem x_icmp_ne {x y : Int32} {off : Int} (tgt : Nat) (d : decode Y.2.1 pc = .ok (.if_icmp .ne off, 3)) (ht : (pc : Int) + off = (tgt : Int)) (kt : ¬ x = y → sdW l E Y D tys b n ad L aF F Q X tgt loc st M rc rs) (kf : x = y → sdW l E Y D tys b n ad L aF F Q X (pc + 3) loc st M rc rs) : sdW l E Y D tys b n ad L aF F Q X pc loc (.int y :: .int x :: st) M rc rs := by
  intro p e s m args below meth c H locs ls cells slots hC hK hH hS hl hc hs
  exact lv_icmp_ne hC.1.1 hC.1.2.1 d ht (fun h => kt h p e s m args below meth c H locs ls cells slots hC hK hH hS hl hc hs) (fun h => kf h p e s m args below meth c H locs ls cells slots hC hK hH hS hl hc hs)
theorem x_icmp_lt {x y : Int32} {off : Int} (tgt : Nat) (d : decode Y.2.1 pc = .ok (.if_icmp .lt off, 3)) (ht : (pc : Int) + off = (tgt : Int)) (kt : x < y → sdW l E Y D tys b n ad L aF F Q X tgt loc st M rc rs) (kf : ¬ x < y → sdW l E Y D tys b n ad L aF F Q X (pc + 3) loc st M rc rs) : sdW l E Y D tys b n ad L aF F Q X pc loc (.int y :: .int x :: st) M rc rs := by
  intro p e s m args below meth c H locs ls cells slots hC hK hH hS hl hc hs
  exact lv_icmp_lt hC.1.1 hC.1.2.1 d ht (fun h => kt h p e s m args below meth c H locs ls cells slots hC hK hH hS hl hc hs) (fun h => kf h p e s m args below meth c H locs ls cells slots hC hK hH hS hl hc hs)
theorem x_icmp_ge {x y : Int32} {off : Int} (tgt : Nat) (d : decode Y.2.1 pc = .ok (.if_icmp .ge off, 3)) (ht : (pc : Int) + off = (tgt : Int)) (kt : y ≤ x → sdW l E Y D tys b n ad L aF F Q X tgt loc st M rc rs) (kf : ¬ y ≤ x → sdW l E Y D tys b n ad L aF F Q X (pc + 3) loc st M rc rs) : sdW l E Y D tys b n ad L aF F Q X pc loc (.int y :: .int x :: st) M rc rs := by
  intro p e s m args below meth c H locs ls cells slots hC hK hH hS hl hc hs
  exact lv_icmp_ge hC.1.1 hC.1.2.1 d ht (fun h => kt h p e s m args below meth c H locs ls cells slots hC hK hH hS hl hc hs) (fun h => kf h p e s m args below meth c H locs ls cells slots hC hK hH hS hl hc hs)
theorem x_icmp_gt {x y : Int32} {off : Int} (tgt : Nat) (d : decode Y.2.1 pc = .ok (.if_icmp .gt off, 3)) (ht : (pc : Int) + off = (tgt : Int)) (kt : y < x → sdW l E Y D tys b n ad L aF F Q X tgt loc st M rc rs) (kf : ¬ y < x → sdW l E Y D tys b n ad L aF F Q X (pc + 3) loc st M rc rs) : sdW l E Y D tys b n ad L aF F Q X pc loc (.int y :: .int x :: st) M rc rs := by
  intro p e s m args below meth c H locs ls cells slots hC hK hH hS hl hc hs
  exact lv_icmp_gt hC.1.1 hC.1.2.1 d ht (fun h => kt h p e s m args below meth c H locs ls cells slots hC hK hH hS hl hc hs) (fun h => kf h p e s m args below meth c H locs ls cells slots hC hK hH hS hl hc hs)
theorem x_icmp_le {x y : Int32} {off : Int} (tgt : Nat) (d : decode Y.2.1 pc = .ok (.if_icmp .le off, 3)) (ht : (pc : Int) + off = (tgt : Int)) (kt : x ≤ y → sdW l E Y D tys b n ad L aF F Q X tgt loc st M rc rs) (kf : ¬ x ≤ y → sdW l E Y D tys b n ad L aF F Q X (pc + 3) loc st M rc rs) : sdW l E Y D tys b n ad L aF F Q X pc loc (.int y :: .int x :: st) M rc rs := by
  intro p e s m args below meth c H locs ls cells slots hC hK hH hS hl hc hs
  exact lv_icmp_le hC.1.1 hC.1.2.1 d ht (fun h => kt h p e s m args below meth c H locs ls cells slots hC hK hH hS hl hc hs) (fun h => kf h p e s m args below meth c H locs ls cells slots hC hK hH hS hl hc hs)
theorem x_goto {off : Int} (tgt : Nat) (d : decode Y.2.1 pc = .ok (.goto off, 3)) (ht : (pc : Int) + off = (tgt : Int)) (k : sdW l E Y D tys b n ad L aF F Q X tgt loc st M rc rs) : sdW l E Y D tys b n ad L aF F Q X pc loc st M rc rs := by
  intro p e s m args below meth c H locs ls cells slots hC hK hH hS hl hc hs
  exact lv_goto hC.1.1 hC.1.2.1 d ht (k p e s m args below meth c H locs ls cells slots hC hK hH hS hl hc hs)
theorem x_sub (js : List Nat) (loc' : List (Nat × Value)) (h : lv_pick loc js = loc') (k : sdW l E Y D tys b n ad L aF F Q X pc loc' st M rc rs) : sdW l E Y D tys b n ad L aF F Q X pc loc st M rc rs := by
  intro p e s m args below meth c H locs ls cells slots hC hK hH hS hl hc hs
  subst h
  exact k p e s m args below meth c H locs ls cells slots hC hK hH hS (lv_sub hl js (sd_l_pick loc js)) hc hs
theorem x_wide (rc' rs' : Nat) (h1 : rc' ≤ rc) (h2 : rs' ≤ rs) (k : sdW l E Y D tys b n ad L aF F Q X pc loc st M rc' rs') : sdW l E Y D tys b n ad L aF F Q X pc loc st M rc rs := by
  intro p e s m args below meth c H locs ls cells slots hC hK hH hS hl hc hs
  exact k p e s m args below meth c H locs ls cells slots hC hK hH hS hl (by omega) (by omega)
theorem x_same {pc' : Nat} {loc' : List (Nat × Value)} {st' : List Value} {M' : sdM} (k : sdW l E Y D tys b n ad L aF F Q X pc' loc' st' M' rc rs) (h1 : pc' = pc) (h2 : loc' = loc) (h3 : st' = st) (h4 : M' = M) : sdW l E Y D tys b n ad L aF F Q X pc loc st M rc rs := by
  subst h1 h2 h3 h4
  exact k
theorem x_geti (j : Nat) {t ci N : Nat} {fs : List (Option (Option Nat))} {C ref : String} {T : u_T} {idx : Nat} (d : decode Y.2.1 pc = .ok (.getfield idx, 3)) (hn : t < n) (hL : L t = sd_O ci fs) (hj : fs[j]? = some none) (hc9 : E.1[ci]? = some (C, T, N)) (hN : j < N) (hin : ∀ w ∈ u_ws C T N, w ∈ Y.2.2.2.2.1) (hlk : Cond.fieldLink Y.1 idx ref (T j).2.1 (T j).2.2.1 ∈ Y.2.2.2.2.1) (href : ref = (T j).1) (k : sdW l E Y D tys b n ad L aF F Q X (pc + 3) loc (.int (M t j) :: st) M rc rs) : sdW l E Y D tys b n ad L aF F Q X pc loc (.ref t :: st) M rc rs := by
  intro p e s m args below meth c H locs ls cells slots hC hK hH hS hl hc hs
  subst href
  have hat := hH t hn
  rw [hL] at hat
  refine va_get hC.1.1 hC.1.2.1 hC.1.2.2.2.2 hin hC.1.2.2.2.1 hK.1 (ws := [(ad t, .inr (ci, sd_fv ad (M t) 0 fs))]) (sd_one hat) 0 rfl hc9 j hN (hC.1.2.2.2.2 _ hlk) (fun _ h => h) (v := .int (M t j)) ?_ d (k p e s m args below meth c H locs ls cells slots hC hK hH hS hl hc hs)
  have h9 := sd_fv_at (ad := ad) (f := M t) fs 0 j hj
  rwa [Nat.zero_add] at h9
theorem x_getr (j u : Nat) {t ci N : Nat} {fs : List (Option (Option Nat))} {C ref : String} {T : u_T} {idx : Nat} (d : decode Y.2.1 pc = .ok (.getfield idx, 3)) (hn : t < n) (hL : L t = sd_O ci fs) (hj : fs[j]? = some (some (some u))) (hc9 : E.1[ci]? = some (C, T, N)) (hN : j < N) (hin : ∀ w ∈ u_ws C T N, w ∈ Y.2.2.2.2.1) (hlk : Cond.fieldLink Y.1 idx ref (T j).2.1 (T j).2.2.1 ∈ Y.2.2.2.2.1) (href : ref = (T j).1) (k : sdW l E Y D tys b n ad L aF F Q X (pc + 3) loc (.ref u :: st) M rc rs) : sdW l E Y D tys b n ad L aF F Q X pc loc (.ref t :: st) M rc rs := by
  intro p e s m args below meth c H locs ls cells slots hC hK hH hS hl hc hs
  subst href
  have hat := hH t hn
  rw [hL] at hat
  exact va_get hC.1.1 hC.1.2.1 hC.1.2.2.2.2 hin hC.1.2.2.2.1 hK.1 (ws := [(ad t, .inr (ci, sd_fv ad (M t) 0 fs))]) (sd_one hat) 0 rfl hc9 j hN (hC.1.2.2.2.2 _ hlk) (fun _ h => h) (v := .ref (ad u)) (sd_fv_at fs 0 j hj) d (k p e s m args below meth c H locs ls cells slots hC hK hH hS hl hc hs)
theorem x_puti (j : Nat) {t ci N : Nat} {fs : List (Option (Option Nat))} {C ref : String} {T : u_T} {idx : Nat} {ty : FieldType} {x : Int32} (hA : sd_ad b n ad) (d : decode Y.2.1 pc = .ok (.putfield idx, 3)) (hn : t < n) (hL : L t = sd_O ci fs) (hj : fs[j]? = some none) (hc9 : E.1[ci]? = some (C, T, N)) (hN : j < N) (hin : ∀ w ∈ u_ws C T N, w ∈ Y.2.2.2.2.1) (hlk : Cond.fieldLink Y.1 idx ref (T j).2.1 (T j).2.2.1 ∈ Y.2.2.2.2.1) (href : ref = (T j).1) (ty0 : Nat → FieldType) (hty : ∀ k, k < N → parseFieldDescriptor (T k).2.2.1 = some (ty0 k)) (hnm : ∀ a, a < N → ∀ b, b < N → a ≠ b → (T a).2.1 ≠ (T b).2.1) (hfin : (T j).2.2.2 = false) (hd : parseFieldDescriptor (T j).2.2.1 = some ty) (hnr : narrow ty (.int x) = .int x) (hft : fits ty (.int x) = true) (k : ∀ M1 : sdM, M1 = sd_s M t j x → sdW l E Y D tys b n ad L aF F Q X (pc + 3) loc st M1 rc rs) : sdW l E Y D tys b n ad L aF F Q X pc loc (.int x :: .ref t :: st) M rc rs := by
  intro p e s m args below meth c H locs ls cells slots hC hK hH hS hl hc hs
  subst href
  have hG : (sd_G n ad L M)[t]? = some (ad t, .inr (ci, sd_fv ad (M t) 0 fs)) := by rw [sd_G_get hn, hL]; rfl
  refine va_put (v := .int x) hC.1.1 hC.1.2.1 hC.1.2.2.2.2 hin ty0 hty hnm hC.1.2.2.2.1 hK.1 hH.toP hA.toD hS t hG hc9 j hN (hC.1.2.2.2.2 _ hlk) (fun _ h => h) hfin hd hnr hft (by rw [sd_fv_len]; exact (List.getElem?_eq_some_iff.mp hj).1) d (fun H1 locs1 hP1 _ hS1 => ?_)
  have he : (Sum.inr (ci, (sd_fv ad (M t) 0 fs).set j (.int x)) : va_E) = L t ad (upd (M t) j x) := by
    rw [hL, sd_fv_set fs 0 j hj, Nat.zero_add]; rfl
  rw [sd_G_set hn he] at hP1
  exact k _ rfl p e s m args below meth c H1 locs1 ls cells slots hC hK (sd_H.ofP hP1) hS1 hl hc hs
theorem x_iald {t len : Nat} {cA : ClassId} {i : Int32} (d : decode Y.2.1 pc = .ok (.iaload, 1)) (hn : t < n) (hL : L t = sd_I cA len) (ht : tys[0]? = some (cA, .int)) (hi : vp_in i len) (k : sdW l E Y D tys b n ad L aF F Q X (pc + 1) loc (.int (M t i.toNatClampNeg) :: st) M rc rs) : sdW l E Y D tys b n ad L aF F Q X pc loc (.int i :: .ref t :: st) M rc rs := by
  intro p e s m args below meth c H locs ls cells slots hC hK hH hS hl hc hs
  have hat := hH t hn
  rw [hL] at hat
  exact va_iald hC.1.1 hC.1.2.1 hK.1 (ws := [(ad t, .inl (cA, len, .inl (M t)))]) (sd_one hat) 0 0 rfl ht hi d (k p e s m args below meth c H locs ls cells slots hC hK hH hS hl hc hs)
theorem x_zald {t len : Nat} {cA : ClassId} {i : Int32} (d : decode Y.2.1 pc = .ok (.baload, 1)) (hn : t < n) (hL : L t = sd_I cA len) (ht : tys[1]? = some (cA, .boolean)) (hi : vp_in i len) (k : sdW l E Y D tys b n ad L aF F Q X (pc + 1) loc (.int (M t i.toNatClampNeg) :: st) M rc rs) : sdW l E Y D tys b n ad L aF F Q X pc loc (.int i :: .ref t :: st) M rc rs := by
  intro p e s m args below meth c H locs ls cells slots hC hK hH hS hl hc hs
  have hat := hH t hn
  rw [hL] at hat
  exact va_zald hC.1.1 hC.1.2.1 hK.1 (ws := [(ad t, .inl (cA, len, .inl (M t)))]) (sd_one hat) 0 1 rfl ht hi d (k p e s m args below meth c H locs ls cells slots hC hK hH hS hl hc hs)
theorem x_aald (j : Nat) {t len t0 : Nat} {cA : ClassId} {C : String} {g : Nat → Nat} {i : Int32} (d : decode Y.2.1 pc = .ok (.aaload, 1)) (hn : t < n) (hL : L t = sd_Q cA len g) (ht : tys[t0]? = some (cA, .object C)) (hi : vp_in i len) (hj : g i.toNatClampNeg = j) (k : sdW l E Y D tys b n ad L aF F Q X (pc + 1) loc (.ref j :: st) M rc rs) : sdW l E Y D tys b n ad L aF F Q X pc loc (.int i :: .ref t :: st) M rc rs := by
  intro p e s m args below meth c H locs ls cells slots hC hK hH hS hl hc hs
  subst hj
  have hat := hH t hn
  rw [hL] at hat
  refine va_aldq hC.1.1 hC.1.2.1 hK.1 (ws := [(ad t, .inl (cA, len, .inr (.inr (.inr (.inr (fun j => if j < len then some (ad (g j)) else none))))))]) (sd_one hat) 0 t0 rfl ht hi d ?_
  show W p l e Y.2.2.2.2.2.1 s m args below meth c H locs cells slots _ (F0 m (pc + 1) ls (va_rf (if i.toNatClampNeg < len then some (ad (g i.toNatClampNeg)) else none) :: st.map (sd_v ad)))
  rw [if_pos (Nat.not_le.mp fun q => hi (Or.inr q))]
  exact k p e s m args below meth c H locs ls cells slots hC hK hH hS hl hc hs
theorem x_iast {t len : Nat} {cA : ClassId} {i x : Int32} (hA : sd_ad b n ad) (d : decode Y.2.1 pc = .ok (.iastore, 1)) (hn : t < n) (hL : L t = sd_I cA len) (ht : tys[0]? = some (cA, .int)) (hi : vp_in i len) (k : ∀ M1 : sdM, M1 = sd_s M t i.toNatClampNeg x → sdW l E Y D tys b n ad L aF F Q X (pc + 1) loc st M1 rc rs) : sdW l E Y D tys b n ad L aF F Q X pc loc (.int x :: .int i :: .ref t :: st) M rc rs := by
  intro p e s m args below meth c H locs ls cells slots hC hK hH hS hl hc hs
  have hG : (sd_G n ad L M)[t]? = some (ad t, .inl (cA, len, .inl (M t))) := by rw [sd_G_get hn, hL]; rfl
  refine va_iast hC.1.1 hC.1.2.1 hK.1 hH.toP hA.toD hS t 0 hG ht hi d (fun H1 locs1 hP1 _ hS1 => ?_)
  have he : (Sum.inl (cA, len, Sum.inl (upd (M t) i.toNatClampNeg x)) : va_E) = L t ad (upd (M t) i.toNatClampNeg x) := by rw [hL]; rfl
  rw [sd_G_set hn he] at hP1
  exact k _ rfl p e s m args below meth c H1 locs1 ls cells slots hC hK (sd_H.ofP hP1) hS1 hl hc hs
theorem x_zast {t len : Nat} {cA : ClassId} {i x : Int32} (hA : sd_ad b n ad) (d : decode Y.2.1 pc = .ok (.bastore, 1)) (hn : t < n) (hL : L t = sd_I cA len) (ht : tys[1]? = some (cA, .boolean)) (hi : vp_in i len) (hx : vp_nar .boolean x = x) (k : ∀ M1 : sdM, M1 = sd_s M t i.toNatClampNeg x → sdW l E Y D tys b n ad L aF F Q X (pc + 1) loc st M1 rc rs) : sdW l E Y D tys b n ad L aF F Q X pc loc (.int x :: .int i :: .ref t :: st) M rc rs := by
  intro p e s m args below meth c H locs ls cells slots hC hK hH hS hl hc hs
  have hG : (sd_G n ad L M)[t]? = some (ad t, .inl (cA, len, .inl (M t))) := by rw [sd_G_get hn, hL]; rfl
  refine va_zast hC.1.1 hC.1.2.1 hK.1 hH.toP hA.toD hS t 1 hG ht hi d (fun H1 locs1 hP1 _ hS1 => ?_)
  rw [hx] at hP1
  have he : (Sum.inl (cA, len, Sum.inl (upd (M t) i.toNatClampNeg x)) : va_E) = L t ad (upd (M t) i.toNatClampNeg x) := by rw [hL]; rfl
  rw [sd_G_set hn he] at hP1
  exact k _ rfl p e s m args below meth c H1 locs1 ls cells slots hC hK (sd_H.ofP hP1) hS1 hl hc hs
theorem x_iret {x : Int32} (d : decode Y.2.1 pc = .ok (.ireturn, 1)) (hr : Y.2.2.2.1 = some .int) (hF : ∀ H : Heap, sd_H D E.1 n ad L M H → F M H) (k : Q (some (.int x)) M) : sdW l E Y D tys b n ad L aF F Q X pc loc [.int x] M rc rs := by
  intro p e s m args below meth c H locs ls cells slots hC hK hH hS hl hc hs
  refine W.widen (k := Y.2.2.2.2.2.2.1) (n := Y.2.2.2.2.2.2.2.1) (by omega) (by omega) (sd_ret ?_)
  exact W.iret hC.1.1 hC.1.2.1 (hC.2.2.1.trans hr) (fun t ht _ => ⟨some (.int x), M, rfl, k, by rw [ht]; exact hF H hH, hS.F ht⟩) hS.2.2 d hC.2.1
theorem x_zret {x : Int32} (d : decode Y.2.1 pc = .ok (.ireturn, 1)) (hr : Y.2.2.2.1 = some .boolean) (hx : narrow .boolean (.int x) = .int x) (hF : ∀ H : Heap, sd_H D E.1 n ad L M H → F M H) (k : Q (some (.int x)) M) : sdW l E Y D tys b n ad L aF F Q X pc loc [.int x] M rc rs := by
  intro p e s m args below meth c H locs ls cells slots hC hK hH hS hl hc hs
  refine W.widen (k := Y.2.2.2.2.2.2.1) (n := Y.2.2.2.2.2.2.2.1) (by omega) (by omega) (sd_ret ?_)
  exact W.zret hC.1.1 hC.1.2.1 (hC.2.2.1.trans hr) hx (fun t ht _ => ⟨some (.int x), M, rfl, k, by rw [ht]; exact hF H hH, hS.F ht⟩) hS.2.2 d hC.2.1
theorem x_vret (d : decode Y.2.1 pc = .ok (.return_, 1)) (hr : Y.2.2.2.1 = none) (hF : ∀ H : Heap, sd_H D E.1 n ad L M H → F M H) (k : Q none M) : sdW l E Y D tys b n ad L aF F Q X pc loc [] M rc rs := by
  intro p e s m args below meth c H locs ls cells slots hC hK hH hS hl hc hs
  refine W.widen (k := Y.2.2.2.2.2.2.1) (n := Y.2.2.2.2.2.2.2.1) (by omega) (by omega) (sd_ret ?_)
  exact W.vret hC.1.1 hC.1.2.1 (hC.2.2.1.trans hr) (fun t ht _ => ⟨none, M, rfl, k, by rw [ht]; exact hF H hH, hS.F ht⟩) hS.2.2 d hC.2.1
theorem x_aret {t : Nat} {nm : String} (d : decode Y.2.1 pc = .ok (.areturn, 1)) (hr : Y.2.2.2.1 = some (.object nm)) (ha : ad t = aF t) (hF : ∀ H : Heap, sd_H D E.1 n ad L M H → F M H) (k : Q (some (.ref t)) M) : sdW l E Y D tys b n ad L aF F Q X pc loc [.ref t] M rc rs := by
  intro p e s m args below meth c H locs ls cells slots hC hK hH hS hl hc hs
  refine W.widen (k := Y.2.2.2.2.2.2.1) (n := Y.2.2.2.2.2.2.2.1) (by omega) (by omega) (sd_ret ?_)
  exact W.aret (v := .ref (ad t)) hC.1.1 hC.1.2.1 (hC.2.2.1.trans hr) (Or.inl ⟨_, rfl⟩) (Or.inr ⟨_, rfl⟩) (fun t' ht _ => ⟨some (.ref t), M, by rw [ha]; rfl, k, by rw [ht]; exact hF H hH, hS.F ht⟩) hS.2.2 d hC.2.1
theorem x_callVg {Y' : sdY} {y : MethodName} {idx na : Nat} {As rest st0 : List Value} {Q' : Option Value → sdM → Prop} {X' : String → sdM → Prop} {t ci N : Nat} {fs : List (Option (Option Nat))} {C : String} {T : u_T} (hCn : sd_Cn l E y Y'.2.2.2.2.1 Y'.2.2.2.2.2.1 Y'.2.2.2.2.2.2.1 Y'.2.2.2.2.2.2.2.1 D tys b n ad L M (.ref t :: As) Q' X') (hcw : sd_cwV Y Y' y idx na C) (hn : t < n) (hL : L t = sd_O ci fs) (hc9 : E.1[ci]? = some (C, T, N)) (d : decode Y.2.1 pc = .ok (.invokevirtual idx, 3)) (hna : As.length = na) (hst : st0 = As.reverse ++ .ref t :: rest) (hcat : (rest.map fun v => v.category).sum ≤ 8) (htb : Y.2.2.2.2.2.2.2.2 = []) (hX : ∀ E' M', X' E' M' → X E' M') (hF : ∀ (M : sdM) (H : Heap), sd_H D E.1 n ad L M H → F M H)
    (k : ∀ (v : Option Value) (M' : sdM), Q' v M' → sdW l E Y D tys b n ad L aF F Q X (pc + 3) loc (v.toList ++ rest) M' rc rs) : sdW l E Y D tys b n ad L aF F Q X pc loc st0 M (rc + Y'.2.2.2.2.2.2.1) (rs + Y'.2.2.2.2.2.2.2.1) := by
  intro p e s m args below meth c H locs ls cells slots hC hK hH hS hl hc hs
  subst hst
  obtain ⟨g1, ⟨ws', g2⟩, ⟨g3, g4, g5, g6⟩, g7, g8⟩ := hcw
  intro T hT X0
  subst hT
  have hat := hH t hn
  rw [hL] at hat
  have gws : GoodIn Y.2.2.2.2.1 Y'.2.2.2.2.1 := fun w h => g1 w (by unfold wsV; exact List.mem_append_right _ h)
  have ok : ∀ w ∈ wsV Y.1 idx C y Y'.2.2.2.2.1, w.before args s = true := fun w h => hC.1.2.2.2.2 w (g1 w h).1
  obtain ⟨rfl, hy1, hy2, hy3⟩ := g7
  have hini : (Cond.initialized y.cls).before args s = true := ok _ (by simp [wsV])
  have hinst : (Cond.instanceMethod y).before args s = true := ok _ (by simp [wsV])
  have hsel : (Cond.selects y.cls y y).before args s = true := ok _ (by simp [wsV])
  have hcode : (Cond.code y Y'.2.1 Y'.2.2.1 Y'.2.2.2.1).before args s = true := hC.1.2.2.2.2 _ (gws _ (by rw [g2]; exact List.mem_cons_self)).1
  obtain ⟨cellB, hcB, hoB, hclB⟩ := va_recv (q0 := 0) (a := ad t) (fs := sd_fv ad (M t) 0 fs) hK.1 (sd_one hat) hc9 rfl
  obtain ⟨mk, methM, hnamed, hmethM, hstM, habM⟩ := Cond.instanceMethod_spec hinst
  obtain ⟨methM', cM, hmethM', -, -, -, -, -, -, hsigM⟩ := Cond.code_spec hnamed hcode
  cases hmethM.symm.trans hmethM'
  obtain ⟨c2, r2, m2, q1, q2, q3, q4, kP, hkP, hkPi⟩ := Cond.selects_spec hsel
  cases hclB.symm.trans q1
  cases (State.methodFound?_of_named hnamed ⟨hy1, hy2⟩).symm.trans q2
  cases hnamed.symm.trans q3
  have hlen : (As.map (sd_v ad)).length = methM.sig.parameters.length := by
    rw [hsigM] at hy3
    rw [List.length_map, hna]
    exact (Option.some.inj hy3).symm
  obtain ⟨vm₁, X₁, st1⟩ := X0.invokevirtual hC.1.1 hC.1.2.2.2.1 (ok (.methodLink Y.1 idx y) (by simp [wsV])) hnamed hmethM hstM hkP hkPi ⟨hy1, hy2⟩ (a := ad t) (cell := cellB) hcB
    (fun z h => by rw [h] at hoB; cases hoB) (by rw [Launch.admits_selectMethod X0.admits]; exact q4) hmethM habM hkP hkPi (g := F0 m pc ls ((As.reverse ++ .ref t :: rest).map (sd_v ad))) rfl (argsL := As.map (sd_v ad)) (rest := rest.map (sd_v ad)) hlen (by show List.map (sd_v ad) (As.reverse ++ .ref t :: rest) = _; simp [List.map_append, List.map_reverse, sd_v]) (by rw [hC.1.2.1]; exact d)
  rcases sd_pay hCn X₁ rfl (hl.1.trans hC.1.2.2.1.symm) (by rw [hC.1.2.1]; exact d) (X₁.named hnamed) (fun w hw => pay_in hC.1.2.2.2.2 gws w hw _ _ X₁.warmed) (pay_in hC.1.2.2.2.2 gws _ (by rw [g2]; exact List.mem_cons_self) _ _ X₁.warmed) (word_at X₁.warmed (Or.inl rfl) hini) g3 g4 g8.1 g8.2 (lv_room (rest := rest.map (sd_v ad)) (by rw [sd_cats]; exact hcat)) (by rw [g5]; omega) (by rw [g6]; omega) ⟨rfl, (hK.move X₁.warmed rfl hS).call, hH⟩ with ⟨v, M', T', L', St', hq, hF', hfr, hL', hst'⟩ | ⟨q, E', M', ce, T', L', St', hx, hF', hce, hcv, hcl, hfr, hL', hst'⟩
  · obtain ⟨t2, a1, b1⟩ := k v M' hq p e s m args below meth c T'.heap (locs ++ L') ls (cells + Y'.2.2.2.2.2.2.1) (slots + Y'.2.2.2.2.2.2.2.1) hC hK hF' (sd_S_next hS hfr hL') hl (by omega) (by omega) T' rfl St'
    refine ⟨t2, st1 _ (fun acts => ?_), b1⟩
    rw [doInvoke_state]
    refine hst'.trans ?_
    cases v <;> exact a1
  · obtain ⟨t2, a1, b1⟩ := sd_out (R := Y.2.2.2.2.2.1) (p := p) (l := l) (e := e) (args := args) (below := below) (pc := pc) (ls := ls) (st := rest.map (sd_v ad)) (aF := aF) (Q := Q) (sd_tb hC htb) hC.2.1 (hX _ _ hx) (hF _ _ hF') hce hcv (by rw [← X₁.warmed.alike.findClass]; exact hcl) (sd_S_next hS hfr hL') (show cells + Y'.2.2.2.2.2.2.1 ≤ Y.2.2.2.2.2.2.1 by omega) (show slots + Y'.2.2.2.2.2.2.2.1 ≤ Y.2.2.2.2.2.2.2.1 by omega) T' rfl St'
    refine ⟨t2, st1 _ (fun acts => ?_), b1⟩
    rw [doInvoke_state]
    exact hst'.trans a1
theorem x_callSg {Y' : sdY} {y : MethodName} {idx na : Nat} {As rest st0 : List Value} {Q' : Option Value → sdM → Prop} {X' : String → sdM → Prop} (hCn : sd_Cn l E y Y'.2.2.2.2.1 Y'.2.2.2.2.2.1 Y'.2.2.2.2.2.2.1 Y'.2.2.2.2.2.2.2.1 D tys b n ad L M As Q' X') (hcw : sd_cwS Y Y' y idx na) (d : decode Y.2.1 pc = .ok (.invokestatic idx, 3)) (hna : As.length = na) (hst : st0 = As.reverse ++ rest) (hcat : (rest.map fun v => v.category).sum ≤ 8) (htb : Y.2.2.2.2.2.2.2.2 = []) (hX : ∀ E' M', X' E' M' → X E' M') (hF : ∀ (M : sdM) (H : Heap), sd_H D E.1 n ad L M H → F M H)
    (k : ∀ (v : Option Value) (M' : sdM), Q' v M' → sdW l E Y D tys b n ad L aF F Q X (pc + 3) loc (v.toList ++ rest) M' rc rs) : sdW l E Y D tys b n ad L aF F Q X pc loc st0 M (rc + Y'.2.2.2.2.2.2.1) (rs + Y'.2.2.2.2.2.2.2.1) := by
  intro p e s m args below meth c H locs ls cells slots hC hK hH hS hl hc hs
  subst hst
  obtain ⟨g1, ⟨ws', g2⟩, ⟨g3, g4, g5, g6⟩, g7, g8⟩ := hcw
  intro T hT X0
  subst hT
  have gws : GoodIn Y.2.2.2.2.1 Y'.2.2.2.2.1 := fun w h => g1 w (by unfold va_wsS; exact List.mem_append_right _ h)
  have ok : ∀ w ∈ va_wsS Y.1 idx y Y'.2.2.2.2.1, w.before args s = true := fun w h => hC.1.2.2.2.2 w (g1 w h).1
  obtain ⟨hy1, hy2, hy3⟩ := g7
  have hini : (Cond.initialized y.cls).before args s = true := ok _ (by simp [va_wsS])
  have hstt : (Cond.static y).before args s = true := ok _ (by simp [va_wsS])
  have hcode : (Cond.code y Y'.2.1 Y'.2.2.1 Y'.2.2.2.1).before args s = true := hC.1.2.2.2.2 _ (gws _ (by rw [g2]; exact List.mem_cons_self)).1
  obtain ⟨mk, hnamed⟩ := Cond.code_named hcode
  obtain ⟨methM, cM, hmethM, -, -, -, -, -, -, hsigM⟩ := Cond.code_spec hnamed hcode
  obtain ⟨kP, hkP, -⟩ := className_of_methodNamed hnamed
  have hlen : (As.map (sd_v ad)).length = methM.sig.parameters.length := by
    rw [hsigM] at hy3
    rw [List.length_map, hna]
    exact (Option.some.inj hy3).symm
  obtain ⟨vm₁, X₁, st1⟩ := X0.invokestatic hC.1.1 hC.1.2.2.2.1 (ok (.methodLink Y.1 idx y) (by simp [va_wsS])) hnamed hmethM (Cond.static_spec hnamed hmethM hstt) hkP (Cond.initialized_spec (findClass_of_methodNamed hnamed) hkP hini) ⟨hy1, hy2⟩ (g := F0 m pc ls ((As.reverse ++ rest).map (sd_v ad))) rfl (argsL := As.map (sd_v ad)) (rest := rest.map (sd_v ad)) hlen (by show List.map (sd_v ad) (As.reverse ++ rest) = _; simp [List.map_append, List.map_reverse]) (by rw [hC.1.2.1]; exact d)
  rcases sd_pay hCn X₁ rfl (hl.1.trans hC.1.2.2.1.symm) (by rw [hC.1.2.1]; exact d) (X₁.named hnamed) (fun w hw => pay_in hC.1.2.2.2.2 gws w hw _ _ X₁.warmed) (pay_in hC.1.2.2.2.2 gws _ (by rw [g2]; exact List.mem_cons_self) _ _ X₁.warmed) (word_at X₁.warmed (Or.inl rfl) hini) g3 g4 g8.1 g8.2 (lv_room (rest := rest.map (sd_v ad)) (by rw [sd_cats]; exact hcat)) (by rw [g5]; omega) (by rw [g6]; omega) ⟨rfl, (hK.move X₁.warmed rfl hS).call, hH⟩ with ⟨v, M', T', L', St', hq, hF', hfr, hL', hst'⟩ | ⟨q, E', M', ce, T', L', St', hx, hF', hce, hcv, hcl, hfr, hL', hst'⟩
  · obtain ⟨t2, a1, b1⟩ := k v M' hq p e s m args below meth c T'.heap (locs ++ L') ls (cells + Y'.2.2.2.2.2.2.1) (slots + Y'.2.2.2.2.2.2.2.1) hC hK hF' (sd_S_next hS hfr hL') hl (by omega) (by omega) T' rfl St'
    refine ⟨t2, st1 _ (fun acts => ?_), b1⟩
    rw [doInvoke_state]
    refine hst'.trans ?_
    cases v <;> exact a1
  · obtain ⟨t2, a1, b1⟩ := sd_out (R := Y.2.2.2.2.2.1) (p := p) (l := l) (e := e) (args := args) (below := below) (pc := pc) (ls := ls) (st := rest.map (sd_v ad)) (aF := aF) (Q := Q) (sd_tb hC htb) hC.2.1 (hX _ _ hx) (hF _ _ hF') hce hcv (by rw [← X₁.warmed.alike.findClass]; exact hcl) (sd_S_next hS hfr hL') (show cells + Y'.2.2.2.2.2.2.1 ≤ Y.2.2.2.2.2.2.1 by omega) (show slots + Y'.2.2.2.2.2.2.2.1 ≤ Y.2.2.2.2.2.2.2.1 by omega) T' rfl St'
    refine ⟨t2, st1 _ (fun acts => ?_), b1⟩
    rw [doInvoke_state]
    exact hst'.trans a1
theorem x_callVi {Y' : sdY} {y : MethodName} {idx na : Nat} {As rest st0 : List Value} {Q0 : Int32 → sdM → Prop} {X' : String → sdM → Prop} {t ci N : Nat} {fs : List (Option (Option Nat))} {C : String} {T : u_T} (hCn : sd_Cn l E y Y'.2.2.2.2.1 Y'.2.2.2.2.2.1 Y'.2.2.2.2.2.2.1 Y'.2.2.2.2.2.2.2.1 D tys b n ad L M (.ref t :: As) (sd_qi Q0) X')  (hcw : sd_cwV Y Y' y idx na C) (hn : t < n) (hL : L t = sd_O ci fs) (hc9 : E.1[ci]? = some (C, T, N)) (d : decode Y.2.1 pc = .ok (.invokevirtual idx, 3)) (hna : As.length = na) (hst : st0 = As.reverse ++ .ref t :: rest) (hcat : (rest.map fun v => v.category).sum ≤ 8) (htb : Y.2.2.2.2.2.2.2.2 = []) (hX : ∀ E' M', X' E' M' → X E' M') (hF : ∀ (M : sdM) (H : Heap), sd_H D E.1 n ad L M H → F M H) (k : ∀ (r : Int32) (M' : sdM), Q0 r M' → sdW l E Y D tys b n ad L aF F Q X (pc + 3) loc (.int r :: rest) M' rc rs) : sdW l E Y D tys b n ad L aF F Q X pc loc st0 M (rc + Y'.2.2.2.2.2.2.1) (rs + Y'.2.2.2.2.2.2.2.1) :=
  x_callVg hCn hcw hn hL hc9 d hna hst hcat htb hX hF (fun v M' hq => by obtain ⟨r, rfl, h⟩ := hq; exact k r M' h)
theorem x_callVv {Y' : sdY} {y : MethodName} {idx na : Nat} {As rest st0 : List Value} {Q0 : sdM → Prop} {X' : String → sdM → Prop} {t ci N : Nat} {fs : List (Option (Option Nat))} {C : String} {T : u_T} (hCn : sd_Cn l E y Y'.2.2.2.2.1 Y'.2.2.2.2.2.1 Y'.2.2.2.2.2.2.1 Y'.2.2.2.2.2.2.2.1 D tys b n ad L M (.ref t :: As) (sd_qv Q0) X')  (hcw : sd_cwV Y Y' y idx na C) (hn : t < n) (hL : L t = sd_O ci fs) (hc9 : E.1[ci]? = some (C, T, N)) (d : decode Y.2.1 pc = .ok (.invokevirtual idx, 3)) (hna : As.length = na) (hst : st0 = As.reverse ++ .ref t :: rest) (hcat : (rest.map fun v => v.category).sum ≤ 8) (htb : Y.2.2.2.2.2.2.2.2 = []) (hX : ∀ E' M', X' E' M' → X E' M') (hF : ∀ (M : sdM) (H : Heap), sd_H D E.1 n ad L M H → F M H) (k : ∀ (M' : sdM), Q0 M' → sdW l E Y D tys b n ad L aF F Q X (pc + 3) loc rest M' rc rs) : sdW l E Y D tys b n ad L aF F Q X pc loc st0 M (rc + Y'.2.2.2.2.2.2.1) (rs + Y'.2.2.2.2.2.2.2.1) :=
  x_callVg hCn hcw hn hL hc9 d hna hst hcat htb hX hF (fun v M' hq => by obtain ⟨rfl, h⟩ := hq; exact k M' h)
theorem x_callVr {Y' : sdY} {y : MethodName} {idx na : Nat} {As rest st0 : List Value} {P0 : Nat → Prop} {Q0 : Nat → sdM → Prop} {X' : String → sdM → Prop} {t ci N : Nat} {fs : List (Option (Option Nat))} {C : String} {T : u_T} (hCn : sd_Cn l E y Y'.2.2.2.2.1 Y'.2.2.2.2.2.1 Y'.2.2.2.2.2.2.1 Y'.2.2.2.2.2.2.2.1 D tys b n ad L M (.ref t :: As) (sd_qr P0 Q0) X')  (hcw : sd_cwV Y Y' y idx na C) (hn : t < n) (hL : L t = sd_O ci fs) (hc9 : E.1[ci]? = some (C, T, N)) (d : decode Y.2.1 pc = .ok (.invokevirtual idx, 3)) (hna : As.length = na) (hst : st0 = As.reverse ++ .ref t :: rest) (hcat : (rest.map fun v => v.category).sum ≤ 8) (htb : Y.2.2.2.2.2.2.2.2 = []) (hX : ∀ E' M', X' E' M' → X E' M') (hF : ∀ (M : sdM) (H : Heap), sd_H D E.1 n ad L M H → F M H) (k : ∀ (r : Nat) (M' : sdM), P0 r → Q0 r M' → sdW l E Y D tys b n ad L aF F Q X (pc + 3) loc (.ref r :: rest) M' rc rs) : sdW l E Y D tys b n ad L aF F Q X pc loc st0 M (rc + Y'.2.2.2.2.2.2.1) (rs + Y'.2.2.2.2.2.2.2.1) :=
  x_callVg hCn hcw hn hL hc9 d hna hst hcat htb hX hF (fun v M' hq => by obtain ⟨r, rfl, h0, h⟩ := hq; exact k r M' h0 h)
theorem x_callSi {Y' : sdY} {y : MethodName} {idx na : Nat} {As rest st0 : List Value} {Q0 : Int32 → sdM → Prop} {X' : String → sdM → Prop}  (hCn : sd_Cn l E y Y'.2.2.2.2.1 Y'.2.2.2.2.2.1 Y'.2.2.2.2.2.2.1 Y'.2.2.2.2.2.2.2.1 D tys b n ad L M As (sd_qi Q0) X') (hcw : sd_cwS Y Y' y idx na) (d : decode Y.2.1 pc = .ok (.invokestatic idx, 3)) (hna : As.length = na) (hst : st0 = As.reverse ++ rest) (hcat : (rest.map fun v => v.category).sum ≤ 8) (htb : Y.2.2.2.2.2.2.2.2 = []) (hX : ∀ E' M', X' E' M' → X E' M') (hF : ∀ (M : sdM) (H : Heap), sd_H D E.1 n ad L M H → F M H) (k : ∀ (r : Int32) (M' : sdM), Q0 r M' → sdW l E Y D tys b n ad L aF F Q X (pc + 3) loc (.int r :: rest) M' rc rs) : sdW l E Y D tys b n ad L aF F Q X pc loc st0 M (rc + Y'.2.2.2.2.2.2.1) (rs + Y'.2.2.2.2.2.2.2.1) :=
  x_callSg hCn hcw d hna hst hcat htb hX hF (fun v M' hq => by obtain ⟨r, rfl, h⟩ := hq; exact k r M' h)
theorem x_callSv {Y' : sdY} {y : MethodName} {idx na : Nat} {As rest st0 : List Value} {Q0 : sdM → Prop} {X' : String → sdM → Prop}  (hCn : sd_Cn l E y Y'.2.2.2.2.1 Y'.2.2.2.2.2.1 Y'.2.2.2.2.2.2.1 Y'.2.2.2.2.2.2.2.1 D tys b n ad L M As (sd_qv Q0) X') (hcw : sd_cwS Y Y' y idx na) (d : decode Y.2.1 pc = .ok (.invokestatic idx, 3)) (hna : As.length = na) (hst : st0 = As.reverse ++ rest) (hcat : (rest.map fun v => v.category).sum ≤ 8) (htb : Y.2.2.2.2.2.2.2.2 = []) (hX : ∀ E' M', X' E' M' → X E' M') (hF : ∀ (M : sdM) (H : Heap), sd_H D E.1 n ad L M H → F M H) (k : ∀ (M' : sdM), Q0 M' → sdW l E Y D tys b n ad L aF F Q X (pc + 3) loc rest M' rc rs) : sdW l E Y D tys b n ad L aF F Q X pc loc st0 M (rc + Y'.2.2.2.2.2.2.1) (rs + Y'.2.2.2.2.2.2.2.1) :=
  x_callSg hCn hcw d hna hst hcat htb hX hF (fun v M' hq => by obtain ⟨rfl, h⟩ := hq; exact k M' h)
theorem x_callSr {Y' : sdY} {y : MethodName} {idx na : Nat} {As rest st0 : List Value} {P0 : Nat → Prop} {Q0 : Nat → sdM → Prop} {X' : String → sdM → Prop}  (hCn : sd_Cn l E y Y'.2.2.2.2.1 Y'.2.2.2.2.2.1 Y'.2.2.2.2.2.2.1 Y'.2.2.2.2.2.2.2.1 D tys b n ad L M As (sd_qr P0 Q0) X') (hcw : sd_cwS Y Y' y idx na) (d : decode Y.2.1 pc = .ok (.invokestatic idx, 3)) (hna : As.length = na) (hst : st0 = As.reverse ++ rest) (hcat : (rest.map fun v => v.category).sum ≤ 8) (htb : Y.2.2.2.2.2.2.2.2 = []) (hX : ∀ E' M', X' E' M' → X E' M') (hF : ∀ (M : sdM) (H : Heap), sd_H D E.1 n ad L M H → F M H) (k : ∀ (r : Nat) (M' : sdM), P0 r → Q0 r M' → sdW l E Y D tys b n ad L aF F Q X (pc + 3) loc (.ref r :: rest) M' rc rs) : sdW l E Y D tys b n ad L aF F Q X pc loc st0 M (rc + Y'.2.2.2.2.2.2.1) (rs + Y'.2.2.2.2.2.2.2.1) :=
  x_callSg hCn hcw d hna hst hcat htb hX hF (fun v M' hq => by obtain ⟨r, rfl, h0, h⟩ := hq; exact k r M' h0 h)
theorem x_alen {t len : Nat} {cA : ClassId} {v : Int32} (d : decode Y.2.1 pc = .ok (.arraylength, 1)) (hn : t < n) (hL : L t = sd_I cA len) (ht : tys[0]? = some (cA, .int)) (hv : Int32.ofNat len = v) (k : sdW l E Y D tys b n ad L aF F Q X (pc + 1) loc (.int v :: st) M rc rs) : sdW l E Y D tys b n ad L aF F Q X pc loc (.ref t :: st) M rc rs := by
  intro p e s m args below meth c H locs ls cells slots hC hK hH hS hl hc hs
  have hat := hH t hn
  rw [hL] at hat
  exact va_alen hC.1.1 hC.1.2.1 hK.1 (ws := [(ad t, .inl (cA, len, .inl (M t)))]) (sd_one hat) 0 0 rfl ht hv d (k p e s m args below meth c H locs ls cells slots hC hK hH hS hl hc hs)
theorem x_tin {dflt lo hi off : Int} {offs : Array Int} {len : Nat} {x : Int32} (tgt : Nat) (d : decode Y.2.1 pc = .ok (.tableswitch dflt lo hi offs, len)) (h1 : ¬ x.toInt < lo) (h2 : ¬ hi < x.toInt) (ho : offs[(x.toInt - lo).toNat]? = some off) (ht : (pc : Int) + off = (tgt : Int)) (k : sdW l E Y D tys b n ad L aF F Q X tgt loc st M rc rs) : sdW l E Y D tys b n ad L aF F Q X pc loc (.int x :: st) M rc rs := by
  intro p e s m args below meth c H locs ls cells slots hC hK hH hS hl hc hs
  exact lv_tableIn hC.1.1 hC.1.2.1 d h1 h2 ho ht (k p e s m args below meth c H locs ls cells slots hC hK hH hS hl hc hs)
theorem x_tout {dflt lo hi : Int} {offs : Array Int} {len : Nat} {x : Int32} (tgt : Nat) (d : decode Y.2.1 pc = .ok (.tableswitch dflt lo hi offs, len)) (h : x.toInt < lo ∨ hi < x.toInt) (ht : (pc : Int) + dflt = (tgt : Int)) (k : sdW l E Y D tys b n ad L aF F Q X tgt loc st M rc rs) : sdW l E Y D tys b n ad L aF F Q X pc loc (.int x :: st) M rc rs := by
  intro p e s m args below meth c H locs ls cells slots hC hK hH hS hl hc hs
  exact lv_tableOut hC.1.1 hC.1.2.1 d h ht (k p e s m args below meth c H locs ls cells slots hC hK hH hS hl hc hs)
theorem x_mmin {idx : Nat} {x y : Int32} (d : decode Y.2.1 pc = .ok (.invokestatic idx, 3)) (h1 : Cond.methodLink Y.1 idx Lib.Math.min.name ∈ Y.2.2.2.2.1) (h2 : Cond.static Lib.Math.min.name ∈ Y.2.2.2.2.1) (h3 : Cond.initialized "java/lang/Math" ∈ Y.2.2.2.2.1) (h4 : Cond.code Lib.Math.min.name Lib.Math.min.code 2 (some .int) ∈ Y.2.2.2.2.1) (hR1 : 1 ≤ Y.2.2.2.2.2.1.frames) (hR2 : (st.map fun v => v.category).sum + 13 ≤ Y.2.2.2.2.2.1.locals) (hR3 : Y.2.2.2.2.2.1.cells = Y.2.2.2.2.2.2.1) (hR4 : Y.2.2.2.2.2.1.slots = Y.2.2.2.2.2.2.2.1) (k : sdW l E Y D tys b n ad L aF F Q X (pc + 3) loc (.int (if y < x then y else x) :: st) M rc rs) : sdW l E Y D tys b n ad L aF F Q X pc loc (.int y :: .int x :: st) M rc rs := by
  intro p e s m args below meth c H locs ls cells slots hC hK hH hS hl hc hs
  exact va_mmin (rest := st.map (sd_v ad)) hC.1.1 hC.1.2.1 (hC.1.2.2.1.trans hl.1.symm) hC.1.2.2.2.1 (hC.1.2.2.2.2 _ h1) (hC.1.2.2.2.2 _ h2) (hC.1.2.2.2.2 _ h3) (hC.1.2.2.2.2 _ h4) hR1 (by rw [sd_cats]; exact hR2) (by rw [hR3]; omega) (by rw [hR4]; omega) d (k p e s m args below meth c H locs ls cells slots hC hK hH hS hl hc hs)
/-- System.arraycopy of int arrays -/
theorem x_copyi {idx t u len len' : Nat} {cA : ClassId} {sp dp z : Int32} (hA : sd_ad b n ad) (d : decode Y.2.1 pc = .ok (.invokestatic idx, 3)) (h1 : Cond.methodLink Y.1 idx arraycopyName ∈ Y.2.2.2.2.1) (h2 : Cond.native arraycopyName ∈ Y.2.2.2.2.1) (h3 : Cond.static arraycopyName ∈ Y.2.2.2.2.1) (h4 : Cond.initialized "java/lang/System" ∈ Y.2.2.2.2.1)
    (hn : t < n) (hL : L t = sd_I cA len) (hn' : u < n) (hL' : L u = sd_I cA len') (ht : tys[0]? = some (cA, .int)) (hi : ¬ sp < 0 ∧ ¬ dp < 0 ∧ ¬ z < 0 ∧ sp.toNatClampNeg + z.toNatClampNeg ≤ len ∧ dp.toNatClampNeg + z.toNatClampNeg ≤ len') (hR1 : 1 ≤ Y.2.2.2.2.2.1.frames) (hR2 : (st.map fun v => v.category).sum + (nativeFrameWords "java/lang/System" "arraycopy" 5 + 11) ≤ Y.2.2.2.2.2.1.locals)
    (k : ∀ M1 : sdM, M1 = va_up M u (va_cpy (M t) (M u) sp.toNatClampNeg dp.toNatClampNeg z.toNatClampNeg) → sdW l E Y D tys b n ad L aF F Q X (pc + 3) loc st M1 rc rs) : sdW l E Y D tys b n ad L aF F Q X pc loc (.int z :: .int dp :: .ref u :: .int sp :: .ref t :: st) M rc rs := by
  intro p e s m args below meth c H locs ls cells slots hC hK hH hS hl hc hs
  have hG : (sd_G n ad L M)[t]? = some (ad t, .inl (cA, len, .inl (M t))) := by rw [sd_G_get hn, hL]; rfl
  have hG' : (sd_G n ad L M)[u]? = some (ad u, .inl (cA, len', .inl (M u))) := by rw [sd_G_get hn', hL']; rfl
  refine va_copyi (rest := st.map (sd_v ad)) hC.1.1 hC.1.2.1 (hC.1.2.2.1.trans hl.1.symm) hC.1.2.2.2.1 (hC.1.2.2.2.2 _ h1) (hC.1.2.2.2.2 _ h2) (hC.1.2.2.2.2 _ h3) (hC.1.2.2.2.2 _ h4) hK.1 hH.toP hA.toD hS t u 0 0 hG hG' ht ht rfl hi.1 hi.2.1 hi.2.2.1 hi.2.2.2.1 hi.2.2.2.2 (fun _ _ => rfl) hR1 (by rw [sd_cats]; exact hR2) d (fun H1 locs1 hP1 _ hS1 => ?_)
  have he : (Sum.inl (cA, len', Sum.inl (va_cpy (M t) (M u) sp.toNatClampNeg dp.toNatClampNeg z.toNatClampNeg)) : va_E) = L u ad (va_cpy (M t) (M u) sp.toNatClampNeg dp.toNatClampNeg z.toNatClampNeg) := by rw [hL']; rfl
  rw [sd_G_set hn' he] at hP1
  exact k _ rfl p e s m args below meth c H1 locs1 ls cells slots hC hK (sd_H.ofP hP1) hS1 hl hc hs
end SDR
theorem sd_enterF {l : Launch} {E : sdE} {Y : sdY} {D : va_G} {tys : List (ClassId × FieldType)} {b n : Nat} {ad : Nat → Nat} {L : Nat → sdL} {F : sdM → Heap → Prop} {Q : Option Value → sdM → Prop} {X : String → sdM → Prop} {M : sdM} {y : MethodName} {ws' : List Cond} {av : List Value}
    (htb : Y.2.2.2.2.2.2.2.2 = []) (hy : plainFor y = true) (hyc : y.cls = Y.1) (hw : Y.2.2.2.2.1 = Cond.code y Y.2.1 Y.2.2.1 Y.2.2.2.1 :: ws') (hn : (lg_sl av).length ≤ Y.2.2.1)
    (k : sdW l E Y D tys b n ad L ad F Q X 0 (lv_args 0 av) [] M Y.2.2.2.2.2.2.1 Y.2.2.2.2.2.2.2.1) : sd_CnF l E y Y.2.2.2.2.1 Y.2.2.2.2.2.1 Y.2.2.2.2.2.2.1 Y.2.2.2.2.2.2.2.1 D tys b n ad L M av F Q X := by
  refine MetFree.of_bodySF (code := Y.2.1) (maxLocals := Y.2.2.1) (ret := Y.2.2.2.1) hy ?_ ?_
  · intro args s m h hn
    obtain ⟨meth, c, h1, h2, h3, h4, h5, h6, -, -⟩ := Cond.code_spec hn (atoms_spec (ws := Y.2.2.2.2.1) h _ (by rw [hw]; exact List.mem_cons_self))
    exact ⟨meth, c, h1, h2, h3, h4, h5, h6⟩
  intro p e s m args below meth c s₁ B hml hv _
  have hx : ∀ x ∈ c.exceptionTable.toList, False := by
    obtain ⟨meth9, c9, h1, h2, -, -, -, -, h7, -⟩ := Cond.code_spec B.named (atoms_spec (ws := Y.2.2.2.2.1) B.pre _ (by rw [hw]; exact List.mem_cons_self))
    cases Option.some.inj (h1.symm.trans B.method)
    cases Option.some.inj (h2.symm.trans (Stand.of_body B).code)
    intro x hx
    rw [Array.isEmpty_iff.mp h7] at hx
    cases hx
  have hx' : c.exceptionTable.toList = tableOf Y.2.2.2.2.2.2.2.2 := by
    rw [htb]
    cases hz : c.exceptionTable.toList with
    | nil => rfl
    | cons z r => exact (hx z (by rw [hz]; exact List.mem_cons_self)).elim
  obtain ⟨rfl, hK, hH⟩ := hv
  have hown : s.vm.findClass Y.1 = some m.cls := by rw [← hyc]; exact findClass_of_methodNamed B.named
  have hl := lv_entry (av.map (sd_v ad)) (n := Y.2.2.1) (by rw [sd_sl]; exact hn)
  have hh0 : s₁.heap = s.heap := by rw [B.state]; rfl
  have key : W p l e Y.2.2.2.2.2.1 s m (av.map (sd_v ad)).toArray below meth c s₁.heap [] 0 0 (sd_Z b ad F Q X Y.2.2.2.2.2.2.1 Y.2.2.2.2.2.2.2.1 below (av.map (sd_v ad)).toArray s) (entryFrame m (av.map (sd_v ad)).toArray Y.2.2.1) := by
    rw [lg_entry_eq, hh0]
    generalize (lg_sl (av.map (sd_v ad)) ++ List.replicate (Y.2.2.1 - (lg_sl (av.map (sd_v ad))).length) Slot.unset).toArray = ls at hl ⊢
    rw [sd_args] at hl
    exact k p e s m _ below meth c s.heap [] ls 0 0 ⟨⟨B.exec, B.bytes, hml, hown, atoms_spec (ws := Y.2.2.2.2.1) B.pre⟩, B.notSynchronized, B.returns, hx', fun y9 b9 n9 r9 w9 h9 => by rw [hw] at h9; cases h9; exact (name_of_methodNamed B.named B.method).1⟩ hK hH va_S.rf hl (by omega) (by omega)
  obtain ⟨t, a1, o, b1, b2, b3⟩ := key s₁ rfl (Stand.of_body B)
  exact ⟨t, o, a1, b1, b2, b3⟩
theorem sd_enter {l : Launch} {E : sdE} {Y : sdY} {D : va_G} {tys : List (ClassId × FieldType)} {b n : Nat} {ad : Nat → Nat} {L : Nat → sdL} {Q : Option Value → sdM → Prop} {X : String → sdM → Prop} {M : sdM} {y : MethodName} {ws' : List Cond} {av : List Value}
    (htb : Y.2.2.2.2.2.2.2.2 = []) (hy : plainFor y = true) (hyc : y.cls = Y.1) (hw : Y.2.2.2.2.1 = Cond.code y Y.2.1 Y.2.2.1 Y.2.2.2.1 :: ws') (hn : (lg_sl av).length ≤ Y.2.2.1)
    (k : sdW l E Y D tys b n ad L ad (sd_H D E.1 n ad L) Q X 0 (lv_args 0 av) [] M Y.2.2.2.2.2.2.1 Y.2.2.2.2.2.2.2.1) : sd_Cn l E y Y.2.2.2.2.1 Y.2.2.2.2.2.1 Y.2.2.2.2.2.2.1 Y.2.2.2.2.2.2.2.1 D tys b n ad L M av Q X := sd_enterF htb hy hyc hw hn k
end
section
/-! the words of the tables that stay good; the classes' fields; array classes -/
def sdB0 : List Cond := lw_tbl.filter goodWord
theorem sdB0_good : ∀ w ∈ sdB0, goodWord w = true := fun w h => (List.mem_filter.mp h).2
theorem sd_tb1 {w : Cond} (i : Nat) (h : tables_1_1[i]? = some w) (g : goodWord w = true) : w ∈ sdB0 := List.mem_filter.mpr ⟨List.mem_append_right _ (show w ∈ tables_1 from List.mem_append_left _ (List.mem_of_getElem? h)), g⟩
theorem sd_tb2 {w : Cond} (i : Nat) (h : tables_1_2[i]? = some w) (g : goodWord w = true) : w ∈ sdB0 := List.mem_filter.mpr ⟨List.mem_append_right _ (show w ∈ tables_1 from List.mem_append_right _ (List.mem_append_left _ (List.mem_of_getElem? h))), g⟩
theorem sd_tb3 {w : Cond} (i : Nat) (h : tables_1_3[i]? = some w) (g : goodWord w = true) : w ∈ sdB0 := List.mem_filter.mpr ⟨List.mem_append_right _ (show w ∈ tables_1 from List.mem_append_right _ (List.mem_append_right _ (List.mem_append_left _ (List.mem_of_getElem? h)))), g⟩
theorem sd_tb4 {w : Cond} (i : Nat) (h : tables_1_4[i]? = some w) (g : goodWord w = true) : w ∈ sdB0 := List.mem_filter.mpr ⟨List.mem_append_right _ (show w ∈ tables_1 from List.mem_append_right _ (List.mem_append_right _ (List.mem_append_right _ (List.mem_append_left _ (List.mem_of_getElem? h))))), g⟩
theorem sd_tb5 {w : Cond} (i : Nat) (h : tables_1_5[i]? = some w) (g : goodWord w = true) : w ∈ sdB0 := List.mem_filter.mpr ⟨List.mem_append_right _ (show w ∈ tables_1 from List.mem_append_right _ (List.mem_append_right _ (List.mem_append_right _ (List.mem_append_right _ (List.mem_of_getElem? h))))), g⟩
theorem sd_tbp {q : MethodName × Nat} (h : q ∈ lw_privs) : Cond.selects q.1.cls q.1 q.1 ∈ sdB0 := List.mem_filter.mpr ⟨List.mem_append_left _ (List.mem_map.mpr ⟨q, h, rfl⟩), rfl⟩
theorem sd_goodB {c c' : Cond} (h : c' ∈ sdB0) : GoodIn (c :: sdB0) (c' :: sdB0) := by
  intro w hw
  have hm : w ∈ sdB0 := by
    rcases List.mem_cons.mp hw with rfl | h1
    · exact h
    · exact h1
  exact ⟨List.mem_cons_of_mem _ hm, good_of_word (sdB0_good w hm)⟩
theorem sd_good1 {c w : Cond} (h : w ∈ sdB0) : w ∈ c :: sdB0 ∧ ((w.onTables && w.keeps) = true ∨ ∃ ty, w = .arrayClass ty) := ⟨List.mem_cons_of_mem _ h, good_of_word (sdB0_good w h)⟩
theorem sd_goodV {c c' : Cond} {own C : String} {idx : Nat} {y : MethodName} (h1 : Cond.methodLink own idx y ∈ sdB0) (h2 : Cond.instanceMethod y ∈ sdB0) (h3 : Cond.selects C y y ∈ sdB0) (h4 : Cond.initialized C ∈ sdB0) (h5 : c' ∈ sdB0) : GoodIn (c :: sdB0) (wsV own idx C y (c' :: sdB0)) := by
  intro w hw
  rcases List.mem_append.mp hw with h | h
  · simp only [List.mem_cons, List.not_mem_nil, or_false] at h
    rcases h with rfl | rfl | rfl | rfl
    · exact sd_good1 h1
    · exact sd_good1 h2
    · exact sd_good1 h3
    · exact sd_good1 h4
  · exact sd_goodB h5 w h
theorem sd_goodS {c c' : Cond} {own : String} {idx : Nat} {y : MethodName} (h1 : Cond.methodLink own idx y ∈ sdB0) (h2 : Cond.static y ∈ sdB0) (h4 : Cond.initialized y.cls ∈ sdB0) (h5 : c' ∈ sdB0) : GoodIn (c :: sdB0) (va_wsS own idx y (c' :: sdB0)) := by
  intro w hw
  rcases List.mem_append.mp hw with h | h
  · simp only [List.mem_cons, List.not_mem_nil, or_false] at h
    rcases h with rfl | rfl | rfl
    · exact sd_good1 h1
    · exact sd_good1 h2
    · exact sd_good1 h4
  · exact sd_goodB h5 w h
def T_D : u_T := fun k => match k with
  | 0 => ("SettingsDesk", "schema", "LSettingsDesk$Schema;", true)
  | 1 => ("SettingsDesk", "running", "LSettingsDesk$Settings;", true)
  | 2 => ("SettingsDesk", "saved", "LSettingsDesk$Settings;", true)
  | 3 => ("SettingsDesk", "outcome", "LSettingsDesk$Settings;", true)
  | 4 => ("SettingsDesk", "older", "[LSettingsDesk$Settings;", true)
  | 5 => ("SettingsDesk", "sessions", "[LSettingsDesk$Session;", true)
  | 6 => ("SettingsDesk", "trouble", "LSettingsDesk$Trouble;", true)
  | 7 => ("SettingsDesk", "changes", "I", false)
  | 8 => ("SettingsDesk", "ticksLeft", "I", false)
  | 9 => ("SettingsDesk", "lockOwner", "I", false)
  | 10 => ("SettingsDesk", "powerOff", "Z", false)
  | _ => ("SettingsDesk", "pagesToFailure", "I", false)
def ty_D : Nat → FieldType := fun k => match k with
  | 0 => .object "SettingsDesk$Schema"
  | 1 => .object "SettingsDesk$Settings"
  | 2 => .object "SettingsDesk$Settings"
  | 3 => .object "SettingsDesk$Settings"
  | 4 => .array (.object "SettingsDesk$Settings")
  | 5 => .array (.object "SettingsDesk$Session")
  | 6 => .object "SettingsDesk$Trouble"
  | 7 => .int
  | 8 => .int
  | 9 => .int
  | 10 => .boolean
  | _ => .int
theorem ty_D_ok : ∀ k, k < 12 → parseFieldDescriptor (T_D k).2.2.1 = some (ty_D k) := by decide +kernel
theorem nm_D : ∀ a, a < 12 → ∀ b, b < 12 → a ≠ b → (T_D a).2.1 ≠ (T_D b).2.1 := by decide +kernel
theorem l_D_0 : (.laysFinal "SettingsDesk" "SettingsDesk" "schema" "LSettingsDesk$Schema;" : Cond) ∈ sdB0 := sd_tb1 212 rfl rfl
theorem l_D_1 : (.laysFinal "SettingsDesk" "SettingsDesk" "running" "LSettingsDesk$Settings;" : Cond) ∈ sdB0 := sd_tb1 214 rfl rfl
theorem l_D_2 : (.laysFinal "SettingsDesk" "SettingsDesk" "saved" "LSettingsDesk$Settings;" : Cond) ∈ sdB0 := sd_tb1 216 rfl rfl
theorem l_D_3 : (.laysFinal "SettingsDesk" "SettingsDesk" "outcome" "LSettingsDesk$Settings;" : Cond) ∈ sdB0 := sd_tb1 218 rfl rfl
theorem l_D_4 : (.laysFinal "SettingsDesk" "SettingsDesk" "older" "[LSettingsDesk$Settings;" : Cond) ∈ sdB0 := sd_tb1 220 rfl rfl
theorem l_D_5 : (.laysFinal "SettingsDesk" "SettingsDesk" "sessions" "[LSettingsDesk$Session;" : Cond) ∈ sdB0 := sd_tb1 222 rfl rfl
theorem l_D_6 : (.laysFinal "SettingsDesk" "SettingsDesk" "trouble" "LSettingsDesk$Trouble;" : Cond) ∈ sdB0 := sd_tb1 224 rfl rfl
theorem l_D_7 : (.lays "SettingsDesk" "SettingsDesk" "changes" "I" : Cond) ∈ sdB0 := sd_tb1 226 rfl rfl
theorem l_D_8 : (.lays "SettingsDesk" "SettingsDesk" "ticksLeft" "I" : Cond) ∈ sdB0 := sd_tb1 228 rfl rfl
theorem l_D_9 : (.lays "SettingsDesk" "SettingsDesk" "lockOwner" "I" : Cond) ∈ sdB0 := sd_tb1 230 rfl rfl
theorem l_D_10 : (.lays "SettingsDesk" "SettingsDesk" "powerOff" "Z" : Cond) ∈ sdB0 := sd_tb1 232 rfl rfl
theorem l_D_11 : (.lays "SettingsDesk" "SettingsDesk" "pagesToFailure" "I" : Cond) ∈ sdB0 := sd_tb1 234 rfl rfl
theorem lay_D {c : Cond} : ∀ w ∈ u_ws "SettingsDesk" T_D 12, w ∈ c :: sdB0 := by
  show ∀ w ∈ ([.laysFinal "SettingsDesk" "SettingsDesk" "schema" "LSettingsDesk$Schema;", .laysFinal "SettingsDesk" "SettingsDesk" "running" "LSettingsDesk$Settings;", .laysFinal "SettingsDesk" "SettingsDesk" "saved" "LSettingsDesk$Settings;", .laysFinal "SettingsDesk" "SettingsDesk" "outcome" "LSettingsDesk$Settings;", .laysFinal "SettingsDesk" "SettingsDesk" "older" "[LSettingsDesk$Settings;", .laysFinal "SettingsDesk" "SettingsDesk" "sessions" "[LSettingsDesk$Session;", .laysFinal "SettingsDesk" "SettingsDesk" "trouble" "LSettingsDesk$Trouble;", .lays "SettingsDesk" "SettingsDesk" "changes" "I", .lays "SettingsDesk" "SettingsDesk" "ticksLeft" "I", .lays "SettingsDesk" "SettingsDesk" "lockOwner" "I", .lays "SettingsDesk" "SettingsDesk" "powerOff" "Z", .lays "SettingsDesk" "SettingsDesk" "pagesToFailure" "I"] : List Cond), w ∈ c :: sdB0
  exact List.forall_mem_cons.mpr ⟨List.mem_cons_of_mem _ l_D_0, List.forall_mem_cons.mpr ⟨List.mem_cons_of_mem _ l_D_1, List.forall_mem_cons.mpr ⟨List.mem_cons_of_mem _ l_D_2, List.forall_mem_cons.mpr ⟨List.mem_cons_of_mem _ l_D_3, List.forall_mem_cons.mpr ⟨List.mem_cons_of_mem _ l_D_4, List.forall_mem_cons.mpr ⟨List.mem_cons_of_mem _ l_D_5, List.forall_mem_cons.mpr ⟨List.mem_cons_of_mem _ l_D_6, List.forall_mem_cons.mpr ⟨List.mem_cons_of_mem _ l_D_7, List.forall_mem_cons.mpr ⟨List.mem_cons_of_mem _ l_D_8, List.forall_mem_cons.mpr ⟨List.mem_cons_of_mem _ l_D_9, List.forall_mem_cons.mpr ⟨List.mem_cons_of_mem _ l_D_10, List.forall_mem_cons.mpr ⟨List.mem_cons_of_mem _ l_D_11, fun _ h => absurd h List.not_mem_nil⟩⟩⟩⟩⟩⟩⟩⟩⟩⟩⟩⟩
def T_C : u_T := fun k => match k with
  | 0 => ("SettingsDesk$Schema", "isReady", "Z", false)
  | 1 => ("SettingsDesk$Schema", "lists", "I", false)
  | 2 => ("SettingsDesk$Schema", "leaves", "[I", true)
  | 3 => ("SettingsDesk$Schema", "leafTable", "[LSettingsDesk$Leaf;", true)
  | 4 => ("SettingsDesk$Schema", "ruleCount", "I", false)
  | _ => ("SettingsDesk$Schema", "rules", "[LSettingsDesk$Rule;", true)
def ty_C : Nat → FieldType := fun k => match k with
  | 0 => .boolean
  | 1 => .int
  | 2 => .array .int
  | 3 => .array (.object "SettingsDesk$Leaf")
  | 4 => .int
  | _ => .array (.object "SettingsDesk$Rule")
theorem ty_C_ok : ∀ k, k < 6 → parseFieldDescriptor (T_C k).2.2.1 = some (ty_C k) := by decide +kernel
theorem nm_C : ∀ a, a < 6 → ∀ b, b < 6 → a ≠ b → (T_C a).2.1 ≠ (T_C b).2.1 := by decide +kernel
theorem l_C_0 : (.lays "SettingsDesk$Schema" "SettingsDesk$Schema" "isReady" "Z" : Cond) ∈ sdB0 := sd_tb1 118 rfl rfl
theorem l_C_1 : (.lays "SettingsDesk$Schema" "SettingsDesk$Schema" "lists" "I" : Cond) ∈ sdB0 := sd_tb1 120 rfl rfl
theorem l_C_2 : (.laysFinal "SettingsDesk$Schema" "SettingsDesk$Schema" "leaves" "[I" : Cond) ∈ sdB0 := sd_tb1 122 rfl rfl
theorem l_C_3 : (.laysFinal "SettingsDesk$Schema" "SettingsDesk$Schema" "leafTable" "[LSettingsDesk$Leaf;" : Cond) ∈ sdB0 := sd_tb1 124 rfl rfl
theorem l_C_4 : (.lays "SettingsDesk$Schema" "SettingsDesk$Schema" "ruleCount" "I" : Cond) ∈ sdB0 := sd_tb1 126 rfl rfl
theorem l_C_5 : (.laysFinal "SettingsDesk$Schema" "SettingsDesk$Schema" "rules" "[LSettingsDesk$Rule;" : Cond) ∈ sdB0 := sd_tb1 128 rfl rfl
theorem lay_C {c : Cond} : ∀ w ∈ u_ws "SettingsDesk$Schema" T_C 6, w ∈ c :: sdB0 := by
  show ∀ w ∈ ([.lays "SettingsDesk$Schema" "SettingsDesk$Schema" "isReady" "Z", .lays "SettingsDesk$Schema" "SettingsDesk$Schema" "lists" "I", .laysFinal "SettingsDesk$Schema" "SettingsDesk$Schema" "leaves" "[I", .laysFinal "SettingsDesk$Schema" "SettingsDesk$Schema" "leafTable" "[LSettingsDesk$Leaf;", .lays "SettingsDesk$Schema" "SettingsDesk$Schema" "ruleCount" "I", .laysFinal "SettingsDesk$Schema" "SettingsDesk$Schema" "rules" "[LSettingsDesk$Rule;"] : List Cond), w ∈ c :: sdB0
  exact List.forall_mem_cons.mpr ⟨List.mem_cons_of_mem _ l_C_0, List.forall_mem_cons.mpr ⟨List.mem_cons_of_mem _ l_C_1, List.forall_mem_cons.mpr ⟨List.mem_cons_of_mem _ l_C_2, List.forall_mem_cons.mpr ⟨List.mem_cons_of_mem _ l_C_3, List.forall_mem_cons.mpr ⟨List.mem_cons_of_mem _ l_C_4, List.forall_mem_cons.mpr ⟨List.mem_cons_of_mem _ l_C_5, fun _ h => absurd h List.not_mem_nil⟩⟩⟩⟩⟩⟩
def T_S : u_T := fun k => match k with
  | 0 => ("SettingsDesk$Settings", "counts", "[I", true)
  | 1 => ("SettingsDesk$Settings", "keys", "[I", true)
  | 2 => ("SettingsDesk$Settings", "values", "[I", true)
  | _ => ("SettingsDesk$Settings", "given", "[I", true)
def ty_S : Nat → FieldType := fun k => match k with
  | 0 => .array .int
  | 1 => .array .int
  | 2 => .array .int
  | _ => .array .int
theorem ty_S_ok : ∀ k, k < 4 → parseFieldDescriptor (T_S k).2.2.1 = some (ty_S k) := by decide +kernel
theorem nm_S : ∀ a, a < 4 → ∀ b, b < 4 → a ≠ b → (T_S a).2.1 ≠ (T_S b).2.1 := by decide +kernel
theorem l_S_0 : (.laysFinal "SettingsDesk$Settings" "SettingsDesk$Settings" "counts" "[I" : Cond) ∈ sdB0 := sd_tb1 144 rfl rfl
theorem l_S_1 : (.laysFinal "SettingsDesk$Settings" "SettingsDesk$Settings" "keys" "[I" : Cond) ∈ sdB0 := sd_tb1 146 rfl rfl
theorem l_S_2 : (.laysFinal "SettingsDesk$Settings" "SettingsDesk$Settings" "values" "[I" : Cond) ∈ sdB0 := sd_tb1 148 rfl rfl
theorem l_S_3 : (.laysFinal "SettingsDesk$Settings" "SettingsDesk$Settings" "given" "[I" : Cond) ∈ sdB0 := sd_tb1 150 rfl rfl
theorem lay_S {c : Cond} : ∀ w ∈ u_ws "SettingsDesk$Settings" T_S 4, w ∈ c :: sdB0 := by
  show ∀ w ∈ ([.laysFinal "SettingsDesk$Settings" "SettingsDesk$Settings" "counts" "[I", .laysFinal "SettingsDesk$Settings" "SettingsDesk$Settings" "keys" "[I", .laysFinal "SettingsDesk$Settings" "SettingsDesk$Settings" "values" "[I", .laysFinal "SettingsDesk$Settings" "SettingsDesk$Settings" "given" "[I"] : List Cond), w ∈ c :: sdB0
  exact List.forall_mem_cons.mpr ⟨List.mem_cons_of_mem _ l_S_0, List.forall_mem_cons.mpr ⟨List.mem_cons_of_mem _ l_S_1, List.forall_mem_cons.mpr ⟨List.mem_cons_of_mem _ l_S_2, List.forall_mem_cons.mpr ⟨List.mem_cons_of_mem _ l_S_3, fun _ h => absurd h List.not_mem_nil⟩⟩⟩⟩
def T_N : u_T := fun k => match k with
  | 0 => ("SettingsDesk$Session", "begun", "Z", false)
  | 1 => ("SettingsDesk$Session", "candidate", "LSettingsDesk$Settings;", true)
  | _ => ("SettingsDesk$Session", "base", "LSettingsDesk$Settings;", true)
def ty_N : Nat → FieldType := fun k => match k with
  | 0 => .boolean
  | 1 => .object "SettingsDesk$Settings"
  | _ => .object "SettingsDesk$Settings"
theorem ty_N_ok : ∀ k, k < 3 → parseFieldDescriptor (T_N k).2.2.1 = some (ty_N k) := by decide +kernel
theorem nm_N : ∀ a, a < 3 → ∀ b, b < 3 → a ≠ b → (T_N a).2.1 ≠ (T_N b).2.1 := by decide +kernel
theorem l_N_0 : (.lays "SettingsDesk$Session" "SettingsDesk$Session" "begun" "Z" : Cond) ∈ sdB0 := sd_tb1 193 rfl rfl
theorem l_N_1 : (.laysFinal "SettingsDesk$Session" "SettingsDesk$Session" "candidate" "LSettingsDesk$Settings;" : Cond) ∈ sdB0 := sd_tb1 195 rfl rfl
theorem l_N_2 : (.laysFinal "SettingsDesk$Session" "SettingsDesk$Session" "base" "LSettingsDesk$Settings;" : Cond) ∈ sdB0 := sd_tb1 197 rfl rfl
theorem lay_N {c : Cond} : ∀ w ∈ u_ws "SettingsDesk$Session" T_N 3, w ∈ c :: sdB0 := by
  show ∀ w ∈ ([.lays "SettingsDesk$Session" "SettingsDesk$Session" "begun" "Z", .laysFinal "SettingsDesk$Session" "SettingsDesk$Session" "candidate" "LSettingsDesk$Settings;", .laysFinal "SettingsDesk$Session" "SettingsDesk$Session" "base" "LSettingsDesk$Settings;"] : List Cond), w ∈ c :: sdB0
  exact List.forall_mem_cons.mpr ⟨List.mem_cons_of_mem _ l_N_0, List.forall_mem_cons.mpr ⟨List.mem_cons_of_mem _ l_N_1, List.forall_mem_cons.mpr ⟨List.mem_cons_of_mem _ l_N_2, fun _ h => absurd h List.not_mem_nil⟩⟩⟩
def T_T : u_T := fun k => match k with
  | 0 => ("SettingsDesk$Trouble", "fault", "I", false)
  | 1 => ("SettingsDesk$Trouble", "atList", "I", false)
  | 2 => ("SettingsDesk$Trouble", "atKey", "I", false)
  | _ => ("SettingsDesk$Trouble", "atPart", "I", false)
def ty_T : Nat → FieldType := fun k => match k with
  | 0 => .int
  | 1 => .int
  | 2 => .int
  | _ => .int
theorem ty_T_ok : ∀ k, k < 4 → parseFieldDescriptor (T_T k).2.2.1 = some (ty_T k) := by decide +kernel
theorem nm_T : ∀ a, a < 4 → ∀ b, b < 4 → a ≠ b → (T_T a).2.1 ≠ (T_T b).2.1 := by decide +kernel
theorem l_T_0 : (.lays "SettingsDesk$Trouble" "SettingsDesk$Trouble" "fault" "I" : Cond) ∈ sdB0 := sd_tb1 170 rfl rfl
theorem l_T_1 : (.lays "SettingsDesk$Trouble" "SettingsDesk$Trouble" "atList" "I" : Cond) ∈ sdB0 := sd_tb1 172 rfl rfl
theorem l_T_2 : (.lays "SettingsDesk$Trouble" "SettingsDesk$Trouble" "atKey" "I" : Cond) ∈ sdB0 := sd_tb1 174 rfl rfl
theorem l_T_3 : (.lays "SettingsDesk$Trouble" "SettingsDesk$Trouble" "atPart" "I" : Cond) ∈ sdB0 := sd_tb1 176 rfl rfl
theorem lay_T {c : Cond} : ∀ w ∈ u_ws "SettingsDesk$Trouble" T_T 4, w ∈ c :: sdB0 := by
  show ∀ w ∈ ([.lays "SettingsDesk$Trouble" "SettingsDesk$Trouble" "fault" "I", .lays "SettingsDesk$Trouble" "SettingsDesk$Trouble" "atList" "I", .lays "SettingsDesk$Trouble" "SettingsDesk$Trouble" "atKey" "I", .lays "SettingsDesk$Trouble" "SettingsDesk$Trouble" "atPart" "I"] : List Cond), w ∈ c :: sdB0
  exact List.forall_mem_cons.mpr ⟨List.mem_cons_of_mem _ l_T_0, List.forall_mem_cons.mpr ⟨List.mem_cons_of_mem _ l_T_1, List.forall_mem_cons.mpr ⟨List.mem_cons_of_mem _ l_T_2, List.forall_mem_cons.mpr ⟨List.mem_cons_of_mem _ l_T_3, fun _ h => absurd h List.not_mem_nil⟩⟩⟩⟩
def T_F : u_T := fun k => match k with
  | 0 => ("SettingsDesk$Leaf", "isReference", "Z", false)
  | 1 => ("SettingsDesk$Leaf", "low", "I", false)
  | 2 => ("SettingsDesk$Leaf", "high", "I", false)
  | 3 => ("SettingsDesk$Leaf", "required", "Z", false)
  | 4 => ("SettingsDesk$Leaf", "unique", "Z", false)
  | 5 => ("SettingsDesk$Leaf", "hasStandard", "Z", false)
  | _ => ("SettingsDesk$Leaf", "standardValue", "I", false)
def ty_F : Nat → FieldType := fun k => match k with
  | 0 => .boolean
  | 1 => .int
  | 2 => .int
  | 3 => .boolean
  | 4 => .boolean
  | 5 => .boolean
  | _ => .int
theorem ty_F_ok : ∀ k, k < 7 → parseFieldDescriptor (T_F k).2.2.1 = some (ty_F k) := by decide +kernel
theorem nm_F : ∀ a, a < 7 → ∀ b, b < 7 → a ≠ b → (T_F a).2.1 ≠ (T_F b).2.1 := by decide +kernel
theorem l_F_0 : (.lays "SettingsDesk$Leaf" "SettingsDesk$Leaf" "isReference" "Z" : Cond) ∈ sdB0 := sd_tb1 62 rfl rfl
theorem l_F_1 : (.lays "SettingsDesk$Leaf" "SettingsDesk$Leaf" "low" "I" : Cond) ∈ sdB0 := sd_tb1 64 rfl rfl
theorem l_F_2 : (.lays "SettingsDesk$Leaf" "SettingsDesk$Leaf" "high" "I" : Cond) ∈ sdB0 := sd_tb1 66 rfl rfl
theorem l_F_3 : (.lays "SettingsDesk$Leaf" "SettingsDesk$Leaf" "required" "Z" : Cond) ∈ sdB0 := sd_tb1 68 rfl rfl
theorem l_F_4 : (.lays "SettingsDesk$Leaf" "SettingsDesk$Leaf" "unique" "Z" : Cond) ∈ sdB0 := sd_tb1 70 rfl rfl
theorem l_F_5 : (.lays "SettingsDesk$Leaf" "SettingsDesk$Leaf" "hasStandard" "Z" : Cond) ∈ sdB0 := sd_tb1 72 rfl rfl
theorem l_F_6 : (.lays "SettingsDesk$Leaf" "SettingsDesk$Leaf" "standardValue" "I" : Cond) ∈ sdB0 := sd_tb1 74 rfl rfl
theorem lay_F {c : Cond} : ∀ w ∈ u_ws "SettingsDesk$Leaf" T_F 7, w ∈ c :: sdB0 := by
  show ∀ w ∈ ([.lays "SettingsDesk$Leaf" "SettingsDesk$Leaf" "isReference" "Z", .lays "SettingsDesk$Leaf" "SettingsDesk$Leaf" "low" "I", .lays "SettingsDesk$Leaf" "SettingsDesk$Leaf" "high" "I", .lays "SettingsDesk$Leaf" "SettingsDesk$Leaf" "required" "Z", .lays "SettingsDesk$Leaf" "SettingsDesk$Leaf" "unique" "Z", .lays "SettingsDesk$Leaf" "SettingsDesk$Leaf" "hasStandard" "Z", .lays "SettingsDesk$Leaf" "SettingsDesk$Leaf" "standardValue" "I"] : List Cond), w ∈ c :: sdB0
  exact List.forall_mem_cons.mpr ⟨List.mem_cons_of_mem _ l_F_0, List.forall_mem_cons.mpr ⟨List.mem_cons_of_mem _ l_F_1, List.forall_mem_cons.mpr ⟨List.mem_cons_of_mem _ l_F_2, List.forall_mem_cons.mpr ⟨List.mem_cons_of_mem _ l_F_3, List.forall_mem_cons.mpr ⟨List.mem_cons_of_mem _ l_F_4, List.forall_mem_cons.mpr ⟨List.mem_cons_of_mem _ l_F_5, List.forall_mem_cons.mpr ⟨List.mem_cons_of_mem _ l_F_6, fun _ h => absurd h List.not_mem_nil⟩⟩⟩⟩⟩⟩⟩
def T_R : u_T := fun k => match k with
  | 0 => ("SettingsDesk$Rule", "ofList", "I", false)
  | 1 => ("SettingsDesk$Rule", "a", "I", false)
  | 2 => ("SettingsDesk$Rule", "value", "I", false)
  | 3 => ("SettingsDesk$Rule", "b", "I", false)
  | _ => ("SettingsDesk$Rule", "there", "Z", false)
def ty_R : Nat → FieldType := fun k => match k with
  | 0 => .int
  | 1 => .int
  | 2 => .int
  | 3 => .int
  | _ => .boolean
theorem ty_R_ok : ∀ k, k < 5 → parseFieldDescriptor (T_R k).2.2.1 = some (ty_R k) := by decide +kernel
theorem nm_R : ∀ a, a < 5 → ∀ b, b < 5 → a ≠ b → (T_R a).2.1 ≠ (T_R b).2.1 := by decide +kernel
theorem l_R_0 : (.lays "SettingsDesk$Rule" "SettingsDesk$Rule" "ofList" "I" : Cond) ∈ sdB0 := sd_tb1 93 rfl rfl
theorem l_R_1 : (.lays "SettingsDesk$Rule" "SettingsDesk$Rule" "a" "I" : Cond) ∈ sdB0 := sd_tb1 95 rfl rfl
theorem l_R_2 : (.lays "SettingsDesk$Rule" "SettingsDesk$Rule" "value" "I" : Cond) ∈ sdB0 := sd_tb1 97 rfl rfl
theorem l_R_3 : (.lays "SettingsDesk$Rule" "SettingsDesk$Rule" "b" "I" : Cond) ∈ sdB0 := sd_tb1 99 rfl rfl
theorem l_R_4 : (.lays "SettingsDesk$Rule" "SettingsDesk$Rule" "there" "Z" : Cond) ∈ sdB0 := sd_tb1 101 rfl rfl
theorem lay_R {c : Cond} : ∀ w ∈ u_ws "SettingsDesk$Rule" T_R 5, w ∈ c :: sdB0 := by
  show ∀ w ∈ ([.lays "SettingsDesk$Rule" "SettingsDesk$Rule" "ofList" "I", .lays "SettingsDesk$Rule" "SettingsDesk$Rule" "a" "I", .lays "SettingsDesk$Rule" "SettingsDesk$Rule" "value" "I", .lays "SettingsDesk$Rule" "SettingsDesk$Rule" "b" "I", .lays "SettingsDesk$Rule" "SettingsDesk$Rule" "there" "Z"] : List Cond), w ∈ c :: sdB0
  exact List.forall_mem_cons.mpr ⟨List.mem_cons_of_mem _ l_R_0, List.forall_mem_cons.mpr ⟨List.mem_cons_of_mem _ l_R_1, List.forall_mem_cons.mpr ⟨List.mem_cons_of_mem _ l_R_2, List.forall_mem_cons.mpr ⟨List.mem_cons_of_mem _ l_R_3, List.forall_mem_cons.mpr ⟨List.mem_cons_of_mem _ l_R_4, fun _ h => absurd h List.not_mem_nil⟩⟩⟩⟩⟩
def T_G : u_T := fun k => match k with
  | 0 => ("SettingsDesk$Merge", "candidate", "LSettingsDesk$Settings;", true)
  | 1 => ("SettingsDesk$Merge", "base", "LSettingsDesk$Settings;", true)
  | 2 => ("SettingsDesk$Merge", "running", "LSettingsDesk$Settings;", true)
  | 3 => ("SettingsDesk$Merge", "outcome", "LSettingsDesk$Settings;", true)
  | _ => ("SettingsDesk$Merge", "trouble", "LSettingsDesk$Trouble;", true)
def ty_G : Nat → FieldType := fun k => match k with
  | 0 => .object "SettingsDesk$Settings"
  | 1 => .object "SettingsDesk$Settings"
  | 2 => .object "SettingsDesk$Settings"
  | 3 => .object "SettingsDesk$Settings"
  | _ => .object "SettingsDesk$Trouble"
theorem ty_G_ok : ∀ k, k < 5 → parseFieldDescriptor (T_G k).2.2.1 = some (ty_G k) := by decide +kernel
theorem nm_G : ∀ a, a < 5 → ∀ b, b < 5 → a ≠ b → (T_G a).2.1 ≠ (T_G b).2.1 := by decide +kernel
theorem l_G_0 : (.laysFinal "SettingsDesk$Merge" "SettingsDesk$Merge" "candidate" "LSettingsDesk$Settings;" : Cond) ∈ sdB0 := sd_tb3 221 rfl rfl
theorem l_G_1 : (.laysFinal "SettingsDesk$Merge" "SettingsDesk$Merge" "base" "LSettingsDesk$Settings;" : Cond) ∈ sdB0 := sd_tb3 223 rfl rfl
theorem l_G_2 : (.laysFinal "SettingsDesk$Merge" "SettingsDesk$Merge" "running" "LSettingsDesk$Settings;" : Cond) ∈ sdB0 := sd_tb3 225 rfl rfl
theorem l_G_3 : (.laysFinal "SettingsDesk$Merge" "SettingsDesk$Merge" "outcome" "LSettingsDesk$Settings;" : Cond) ∈ sdB0 := sd_tb3 227 rfl rfl
theorem l_G_4 : (.laysFinal "SettingsDesk$Merge" "SettingsDesk$Merge" "trouble" "LSettingsDesk$Trouble;" : Cond) ∈ sdB0 := sd_tb3 229 rfl rfl
theorem lay_G {c : Cond} : ∀ w ∈ u_ws "SettingsDesk$Merge" T_G 5, w ∈ c :: sdB0 := by
  show ∀ w ∈ ([.laysFinal "SettingsDesk$Merge" "SettingsDesk$Merge" "candidate" "LSettingsDesk$Settings;", .laysFinal "SettingsDesk$Merge" "SettingsDesk$Merge" "base" "LSettingsDesk$Settings;", .laysFinal "SettingsDesk$Merge" "SettingsDesk$Merge" "running" "LSettingsDesk$Settings;", .laysFinal "SettingsDesk$Merge" "SettingsDesk$Merge" "outcome" "LSettingsDesk$Settings;", .laysFinal "SettingsDesk$Merge" "SettingsDesk$Merge" "trouble" "LSettingsDesk$Trouble;"] : List Cond), w ∈ c :: sdB0
  exact List.forall_mem_cons.mpr ⟨List.mem_cons_of_mem _ l_G_0, List.forall_mem_cons.mpr ⟨List.mem_cons_of_mem _ l_G_1, List.forall_mem_cons.mpr ⟨List.mem_cons_of_mem _ l_G_2, List.forall_mem_cons.mpr ⟨List.mem_cons_of_mem _ l_G_3, List.forall_mem_cons.mpr ⟨List.mem_cons_of_mem _ l_G_4, fun _ h => absurd h List.not_mem_nil⟩⟩⟩⟩⟩
def T_K : u_T := fun k => match k with
  | 0 => ("SettingsDesk$Check", "schema", "LSettingsDesk$Schema;", true)
  | 1 => ("SettingsDesk$Check", "settings", "LSettingsDesk$Settings;", true)
  | _ => ("SettingsDesk$Check", "trouble", "LSettingsDesk$Trouble;", true)
def ty_K : Nat → FieldType := fun k => match k with
  | 0 => .object "SettingsDesk$Schema"
  | 1 => .object "SettingsDesk$Settings"
  | _ => .object "SettingsDesk$Trouble"
theorem ty_K_ok : ∀ k, k < 3 → parseFieldDescriptor (T_K k).2.2.1 = some (ty_K k) := by decide +kernel
theorem nm_K : ∀ a, a < 3 → ∀ b, b < 3 → a ≠ b → (T_K a).2.1 ≠ (T_K b).2.1 := by decide +kernel
theorem l_K_0 : (.laysFinal "SettingsDesk$Check" "SettingsDesk$Check" "schema" "LSettingsDesk$Schema;" : Cond) ∈ sdB0 := sd_tb3 13 rfl rfl
theorem l_K_1 : (.laysFinal "SettingsDesk$Check" "SettingsDesk$Check" "settings" "LSettingsDesk$Settings;" : Cond) ∈ sdB0 := sd_tb3 15 rfl rfl
theorem l_K_2 : (.laysFinal "SettingsDesk$Check" "SettingsDesk$Check" "trouble" "LSettingsDesk$Trouble;" : Cond) ∈ sdB0 := sd_tb3 17 rfl rfl
theorem lay_K {c : Cond} : ∀ w ∈ u_ws "SettingsDesk$Check" T_K 3, w ∈ c :: sdB0 := by
  show ∀ w ∈ ([.laysFinal "SettingsDesk$Check" "SettingsDesk$Check" "schema" "LSettingsDesk$Schema;", .laysFinal "SettingsDesk$Check" "SettingsDesk$Check" "settings" "LSettingsDesk$Settings;", .laysFinal "SettingsDesk$Check" "SettingsDesk$Check" "trouble" "LSettingsDesk$Trouble;"] : List Cond), w ∈ c :: sdB0
  exact List.forall_mem_cons.mpr ⟨List.mem_cons_of_mem _ l_K_0, List.forall_mem_cons.mpr ⟨List.mem_cons_of_mem _ l_K_1, List.forall_mem_cons.mpr ⟨List.mem_cons_of_mem _ l_K_2, fun _ h => absurd h List.not_mem_nil⟩⟩⟩
def T_E : u_T := fun k => match k with
  | 0 => ("SettingsDesk$Difference", "candidate", "LSettingsDesk$Settings;", true)
  | 1 => ("SettingsDesk$Difference", "running", "LSettingsDesk$Settings;", true)
  | 2 => ("SettingsDesk$Difference", "toPass", "I", false)
  | 3 => ("SettingsDesk$Difference", "found", "Z", false)
  | 4 => ("SettingsDesk$Difference", "atList", "I", false)
  | 5 => ("SettingsDesk$Difference", "atKey", "I", false)
  | 6 => ("SettingsDesk$Difference", "atLeaf", "I", false)
  | _ => ("SettingsDesk$Difference", "kind", "I", false)
def ty_E : Nat → FieldType := fun k => match k with
  | 0 => .object "SettingsDesk$Settings"
  | 1 => .object "SettingsDesk$Settings"
  | 2 => .int
  | 3 => .boolean
  | 4 => .int
  | 5 => .int
  | 6 => .int
  | _ => .int
theorem ty_E_ok : ∀ k, k < 8 → parseFieldDescriptor (T_E k).2.2.1 = some (ty_E k) := by decide +kernel
theorem nm_E : ∀ a, a < 8 → ∀ b, b < 8 → a ≠ b → (T_E a).2.1 ≠ (T_E b).2.1 := by decide +kernel
theorem l_E_0 : (.laysFinal "SettingsDesk$Difference" "SettingsDesk$Difference" "candidate" "LSettingsDesk$Settings;" : Cond) ∈ sdB0 := sd_tb4 89 rfl rfl
theorem l_E_1 : (.laysFinal "SettingsDesk$Difference" "SettingsDesk$Difference" "running" "LSettingsDesk$Settings;" : Cond) ∈ sdB0 := sd_tb4 91 rfl rfl
theorem l_E_2 : (.lays "SettingsDesk$Difference" "SettingsDesk$Difference" "toPass" "I" : Cond) ∈ sdB0 := sd_tb4 93 rfl rfl
theorem l_E_3 : (.lays "SettingsDesk$Difference" "SettingsDesk$Difference" "found" "Z" : Cond) ∈ sdB0 := sd_tb4 95 rfl rfl
theorem l_E_4 : (.lays "SettingsDesk$Difference" "SettingsDesk$Difference" "atList" "I" : Cond) ∈ sdB0 := sd_tb4 97 rfl rfl
theorem l_E_5 : (.lays "SettingsDesk$Difference" "SettingsDesk$Difference" "atKey" "I" : Cond) ∈ sdB0 := sd_tb4 99 rfl rfl
theorem l_E_6 : (.lays "SettingsDesk$Difference" "SettingsDesk$Difference" "atLeaf" "I" : Cond) ∈ sdB0 := sd_tb4 101 rfl rfl
theorem l_E_7 : (.lays "SettingsDesk$Difference" "SettingsDesk$Difference" "kind" "I" : Cond) ∈ sdB0 := sd_tb4 103 rfl rfl
theorem lay_E {c : Cond} : ∀ w ∈ u_ws "SettingsDesk$Difference" T_E 8, w ∈ c :: sdB0 := by
  show ∀ w ∈ ([.laysFinal "SettingsDesk$Difference" "SettingsDesk$Difference" "candidate" "LSettingsDesk$Settings;", .laysFinal "SettingsDesk$Difference" "SettingsDesk$Difference" "running" "LSettingsDesk$Settings;", .lays "SettingsDesk$Difference" "SettingsDesk$Difference" "toPass" "I", .lays "SettingsDesk$Difference" "SettingsDesk$Difference" "found" "Z", .lays "SettingsDesk$Difference" "SettingsDesk$Difference" "atList" "I", .lays "SettingsDesk$Difference" "SettingsDesk$Difference" "atKey" "I", .lays "SettingsDesk$Difference" "SettingsDesk$Difference" "atLeaf" "I", .lays "SettingsDesk$Difference" "SettingsDesk$Difference" "kind" "I"] : List Cond), w ∈ c :: sdB0
  exact List.forall_mem_cons.mpr ⟨List.mem_cons_of_mem _ l_E_0, List.forall_mem_cons.mpr ⟨List.mem_cons_of_mem _ l_E_1, List.forall_mem_cons.mpr ⟨List.mem_cons_of_mem _ l_E_2, List.forall_mem_cons.mpr ⟨List.mem_cons_of_mem _ l_E_3, List.forall_mem_cons.mpr ⟨List.mem_cons_of_mem _ l_E_4, List.forall_mem_cons.mpr ⟨List.mem_cons_of_mem _ l_E_5, List.forall_mem_cons.mpr ⟨List.mem_cons_of_mem _ l_E_6, List.forall_mem_cons.mpr ⟨List.mem_cons_of_mem _ l_E_7, fun _ h => absurd h List.not_mem_nil⟩⟩⟩⟩⟩⟩⟩⟩
def T_O : u_T := fun k => match k with
  | 0 => ("SettingsDeskModel", "thrown", "I", false)
  | 1 => ("SettingsDeskModel", "ready", "Z", false)
  | 2 => ("SettingsDeskModel", "lists", "I", false)
  | 3 => ("SettingsDeskModel", "leaves", "[I", true)
  | 4 => ("SettingsDeskModel", "refers", "[Z", true)
  | 5 => ("SettingsDeskModel", "lows", "[I", true)
  | 6 => ("SettingsDeskModel", "highs", "[I", true)
  | 7 => ("SettingsDeskModel", "flags", "[I", true)
  | 8 => ("SettingsDeskModel", "hasStandard", "[Z", true)
  | 9 => ("SettingsDeskModel", "standards", "[I", true)
  | 10 => ("SettingsDeskModel", "rules", "I", false)
  | 11 => ("SettingsDeskModel", "ruleList", "[I", true)
  | 12 => ("SettingsDeskModel", "ruleA", "[I", true)
  | 13 => ("SettingsDeskModel", "ruleValue", "[I", true)
  | 14 => ("SettingsDeskModel", "ruleB", "[I", true)
  | 15 => ("SettingsDeskModel", "ruleThere", "[Z", true)
  | 16 => ("SettingsDeskModel", "sizes", "[I", true)
  | 17 => ("SettingsDeskModel", "keys", "[I", true)
  | 18 => ("SettingsDeskModel", "bits", "[I", true)
  | 19 => ("SettingsDeskModel", "values", "[I", true)
  | 20 => ("SettingsDeskModel", "older", "I", false)
  | 21 => ("SettingsDeskModel", "changes", "I", false)
  | 22 => ("SettingsDeskModel", "begun", "[Z", true)
  | 23 => ("SettingsDeskModel", "holder", "I", false)
  | 24 => ("SettingsDeskModel", "waits", "I", false)
  | 25 => ("SettingsDeskModel", "off", "Z", false)
  | 26 => ("SettingsDeskModel", "failing", "I", false)
  | 27 => ("SettingsDeskModel", "fault", "I", false)
  | 28 => ("SettingsDeskModel", "faultList", "I", false)
  | 29 => ("SettingsDeskModel", "faultKey", "I", false)
  | 30 => ("SettingsDeskModel", "faultLeaf", "I", false)
  | 31 => ("SettingsDeskModel", "foundList", "I", false)
  | 32 => ("SettingsDeskModel", "foundKey", "I", false)
  | 33 => ("SettingsDeskModel", "foundLeaf", "I", false)
  | _ => ("SettingsDeskModel", "foundKind", "I", false)
def ty_O : Nat → FieldType := fun k => match k with
  | 0 => .int
  | 1 => .boolean
  | 2 => .int
  | 3 => .array .int
  | 4 => .array .boolean
  | 5 => .array .int
  | 6 => .array .int
  | 7 => .array .int
  | 8 => .array .boolean
  | 9 => .array .int
  | 10 => .int
  | 11 => .array .int
  | 12 => .array .int
  | 13 => .array .int
  | 14 => .array .int
  | 15 => .array .boolean
  | 16 => .array .int
  | 17 => .array .int
  | 18 => .array .int
  | 19 => .array .int
  | 20 => .int
  | 21 => .int
  | 22 => .array .boolean
  | 23 => .int
  | 24 => .int
  | 25 => .boolean
  | 26 => .int
  | 27 => .int
  | 28 => .int
  | 29 => .int
  | 30 => .int
  | 31 => .int
  | 32 => .int
  | 33 => .int
  | _ => .int
theorem ty_O_ok : ∀ k, k < 35 → parseFieldDescriptor (T_O k).2.2.1 = some (ty_O k) := by decide +kernel
theorem nm_O : ∀ a, a < 35 → ∀ b, b < 35 → a ≠ b → (T_O a).2.1 ≠ (T_O b).2.1 := by decide +kernel
theorem l_O_0 : (.lays "SettingsDeskModel" "SettingsDeskModel" "thrown" "I" : Cond) ∈ sdB0 := sd_tb4 194 rfl rfl
theorem l_O_1 : (.lays "SettingsDeskModel" "SettingsDeskModel" "ready" "Z" : Cond) ∈ sdB0 := sd_tb4 196 rfl rfl
theorem l_O_2 : (.lays "SettingsDeskModel" "SettingsDeskModel" "lists" "I" : Cond) ∈ sdB0 := sd_tb4 198 rfl rfl
theorem l_O_3 : (.laysFinal "SettingsDeskModel" "SettingsDeskModel" "leaves" "[I" : Cond) ∈ sdB0 := sd_tb4 200 rfl rfl
theorem l_O_4 : (.laysFinal "SettingsDeskModel" "SettingsDeskModel" "refers" "[Z" : Cond) ∈ sdB0 := sd_tb4 202 rfl rfl
theorem l_O_5 : (.laysFinal "SettingsDeskModel" "SettingsDeskModel" "lows" "[I" : Cond) ∈ sdB0 := sd_tb4 204 rfl rfl
theorem l_O_6 : (.laysFinal "SettingsDeskModel" "SettingsDeskModel" "highs" "[I" : Cond) ∈ sdB0 := sd_tb4 206 rfl rfl
theorem l_O_7 : (.laysFinal "SettingsDeskModel" "SettingsDeskModel" "flags" "[I" : Cond) ∈ sdB0 := sd_tb4 208 rfl rfl
theorem l_O_8 : (.laysFinal "SettingsDeskModel" "SettingsDeskModel" "hasStandard" "[Z" : Cond) ∈ sdB0 := sd_tb4 210 rfl rfl
theorem l_O_9 : (.laysFinal "SettingsDeskModel" "SettingsDeskModel" "standards" "[I" : Cond) ∈ sdB0 := sd_tb4 212 rfl rfl
theorem l_O_10 : (.lays "SettingsDeskModel" "SettingsDeskModel" "rules" "I" : Cond) ∈ sdB0 := sd_tb4 214 rfl rfl
theorem l_O_11 : (.laysFinal "SettingsDeskModel" "SettingsDeskModel" "ruleList" "[I" : Cond) ∈ sdB0 := sd_tb4 216 rfl rfl
theorem l_O_12 : (.laysFinal "SettingsDeskModel" "SettingsDeskModel" "ruleA" "[I" : Cond) ∈ sdB0 := sd_tb4 218 rfl rfl
theorem l_O_13 : (.laysFinal "SettingsDeskModel" "SettingsDeskModel" "ruleValue" "[I" : Cond) ∈ sdB0 := sd_tb4 220 rfl rfl
theorem l_O_14 : (.laysFinal "SettingsDeskModel" "SettingsDeskModel" "ruleB" "[I" : Cond) ∈ sdB0 := sd_tb4 222 rfl rfl
theorem l_O_15 : (.laysFinal "SettingsDeskModel" "SettingsDeskModel" "ruleThere" "[Z" : Cond) ∈ sdB0 := sd_tb4 224 rfl rfl
theorem l_O_16 : (.laysFinal "SettingsDeskModel" "SettingsDeskModel" "sizes" "[I" : Cond) ∈ sdB0 := sd_tb4 226 rfl rfl
theorem l_O_17 : (.laysFinal "SettingsDeskModel" "SettingsDeskModel" "keys" "[I" : Cond) ∈ sdB0 := sd_tb4 228 rfl rfl
theorem l_O_18 : (.laysFinal "SettingsDeskModel" "SettingsDeskModel" "bits" "[I" : Cond) ∈ sdB0 := sd_tb4 230 rfl rfl
theorem l_O_19 : (.laysFinal "SettingsDeskModel" "SettingsDeskModel" "values" "[I" : Cond) ∈ sdB0 := sd_tb4 232 rfl rfl
theorem l_O_20 : (.lays "SettingsDeskModel" "SettingsDeskModel" "older" "I" : Cond) ∈ sdB0 := sd_tb4 234 rfl rfl
theorem l_O_21 : (.lays "SettingsDeskModel" "SettingsDeskModel" "changes" "I" : Cond) ∈ sdB0 := sd_tb4 236 rfl rfl
theorem l_O_22 : (.laysFinal "SettingsDeskModel" "SettingsDeskModel" "begun" "[Z" : Cond) ∈ sdB0 := sd_tb4 238 rfl rfl
theorem l_O_23 : (.lays "SettingsDeskModel" "SettingsDeskModel" "holder" "I" : Cond) ∈ sdB0 := sd_tb5 0 rfl rfl
theorem l_O_24 : (.lays "SettingsDeskModel" "SettingsDeskModel" "waits" "I" : Cond) ∈ sdB0 := sd_tb5 2 rfl rfl
theorem l_O_25 : (.lays "SettingsDeskModel" "SettingsDeskModel" "off" "Z" : Cond) ∈ sdB0 := sd_tb5 4 rfl rfl
theorem l_O_26 : (.lays "SettingsDeskModel" "SettingsDeskModel" "failing" "I" : Cond) ∈ sdB0 := sd_tb5 6 rfl rfl
theorem l_O_27 : (.lays "SettingsDeskModel" "SettingsDeskModel" "fault" "I" : Cond) ∈ sdB0 := sd_tb5 8 rfl rfl
theorem l_O_28 : (.lays "SettingsDeskModel" "SettingsDeskModel" "faultList" "I" : Cond) ∈ sdB0 := sd_tb5 10 rfl rfl
theorem l_O_29 : (.lays "SettingsDeskModel" "SettingsDeskModel" "faultKey" "I" : Cond) ∈ sdB0 := sd_tb5 12 rfl rfl
theorem l_O_30 : (.lays "SettingsDeskModel" "SettingsDeskModel" "faultLeaf" "I" : Cond) ∈ sdB0 := sd_tb5 14 rfl rfl
theorem l_O_31 : (.lays "SettingsDeskModel" "SettingsDeskModel" "foundList" "I" : Cond) ∈ sdB0 := sd_tb5 16 rfl rfl
theorem l_O_32 : (.lays "SettingsDeskModel" "SettingsDeskModel" "foundKey" "I" : Cond) ∈ sdB0 := sd_tb5 18 rfl rfl
theorem l_O_33 : (.lays "SettingsDeskModel" "SettingsDeskModel" "foundLeaf" "I" : Cond) ∈ sdB0 := sd_tb5 20 rfl rfl
theorem l_O_34 : (.lays "SettingsDeskModel" "SettingsDeskModel" "foundKind" "I" : Cond) ∈ sdB0 := sd_tb5 22 rfl rfl
theorem lay_O {c : Cond} : ∀ w ∈ u_ws "SettingsDeskModel" T_O 35, w ∈ c :: sdB0 := by
  show ∀ w ∈ ([.lays "SettingsDeskModel" "SettingsDeskModel" "thrown" "I", .lays "SettingsDeskModel" "SettingsDeskModel" "ready" "Z", .lays "SettingsDeskModel" "SettingsDeskModel" "lists" "I", .laysFinal "SettingsDeskModel" "SettingsDeskModel" "leaves" "[I", .laysFinal "SettingsDeskModel" "SettingsDeskModel" "refers" "[Z", .laysFinal "SettingsDeskModel" "SettingsDeskModel" "lows" "[I", .laysFinal "SettingsDeskModel" "SettingsDeskModel" "highs" "[I", .laysFinal "SettingsDeskModel" "SettingsDeskModel" "flags" "[I", .laysFinal "SettingsDeskModel" "SettingsDeskModel" "hasStandard" "[Z", .laysFinal "SettingsDeskModel" "SettingsDeskModel" "standards" "[I", .lays "SettingsDeskModel" "SettingsDeskModel" "rules" "I", .laysFinal "SettingsDeskModel" "SettingsDeskModel" "ruleList" "[I", .laysFinal "SettingsDeskModel" "SettingsDeskModel" "ruleA" "[I", .laysFinal "SettingsDeskModel" "SettingsDeskModel" "ruleValue" "[I", .laysFinal "SettingsDeskModel" "SettingsDeskModel" "ruleB" "[I", .laysFinal "SettingsDeskModel" "SettingsDeskModel" "ruleThere" "[Z", .laysFinal "SettingsDeskModel" "SettingsDeskModel" "sizes" "[I", .laysFinal "SettingsDeskModel" "SettingsDeskModel" "keys" "[I", .laysFinal "SettingsDeskModel" "SettingsDeskModel" "bits" "[I", .laysFinal "SettingsDeskModel" "SettingsDeskModel" "values" "[I", .lays "SettingsDeskModel" "SettingsDeskModel" "older" "I", .lays "SettingsDeskModel" "SettingsDeskModel" "changes" "I", .laysFinal "SettingsDeskModel" "SettingsDeskModel" "begun" "[Z", .lays "SettingsDeskModel" "SettingsDeskModel" "holder" "I", .lays "SettingsDeskModel" "SettingsDeskModel" "waits" "I", .lays "SettingsDeskModel" "SettingsDeskModel" "off" "Z", .lays "SettingsDeskModel" "SettingsDeskModel" "failing" "I", .lays "SettingsDeskModel" "SettingsDeskModel" "fault" "I", .lays "SettingsDeskModel" "SettingsDeskModel" "faultList" "I", .lays "SettingsDeskModel" "SettingsDeskModel" "faultKey" "I", .lays "SettingsDeskModel" "SettingsDeskModel" "faultLeaf" "I", .lays "SettingsDeskModel" "SettingsDeskModel" "foundList" "I", .lays "SettingsDeskModel" "SettingsDeskModel" "foundKey" "I", .lays "SettingsDeskModel" "SettingsDeskModel" "foundLeaf" "I", .lays "SettingsDeskModel" "SettingsDeskModel" "foundKind" "I"] : List Cond), w ∈ c :: sdB0
  exact List.forall_mem_cons.mpr ⟨List.mem_cons_of_mem _ l_O_0, List.forall_mem_cons.mpr ⟨List.mem_cons_of_mem _ l_O_1, List.forall_mem_cons.mpr ⟨List.mem_cons_of_mem _ l_O_2, List.forall_mem_cons.mpr ⟨List.mem_cons_of_mem _ l_O_3, List.forall_mem_cons.mpr ⟨List.mem_cons_of_mem _ l_O_4, List.forall_mem_cons.mpr ⟨List.mem_cons_of_mem _ l_O_5, List.forall_mem_cons.mpr ⟨List.mem_cons_of_mem _ l_O_6, List.forall_mem_cons.mpr ⟨List.mem_cons_of_mem _ l_O_7, List.forall_mem_cons.mpr ⟨List.mem_cons_of_mem _ l_O_8, List.forall_mem_cons.mpr ⟨List.mem_cons_of_mem _ l_O_9, List.forall_mem_cons.mpr ⟨List.mem_cons_of_mem _ l_O_10, List.forall_mem_cons.mpr ⟨List.mem_cons_of_mem _ l_O_11, List.forall_mem_cons.mpr ⟨List.mem_cons_of_mem _ l_O_12, List.forall_mem_cons.mpr ⟨List.mem_cons_of_mem _ l_O_13, List.forall_mem_cons.mpr ⟨List.mem_cons_of_mem _ l_O_14, List.forall_mem_cons.mpr ⟨List.mem_cons_of_mem _ l_O_15, List.forall_mem_cons.mpr ⟨List.mem_cons_of_mem _ l_O_16, List.forall_mem_cons.mpr ⟨List.mem_cons_of_mem _ l_O_17, List.forall_mem_cons.mpr ⟨List.mem_cons_of_mem _ l_O_18, List.forall_mem_cons.mpr ⟨List.mem_cons_of_mem _ l_O_19, List.forall_mem_cons.mpr ⟨List.mem_cons_of_mem _ l_O_20, List.forall_mem_cons.mpr ⟨List.mem_cons_of_mem _ l_O_21, List.forall_mem_cons.mpr ⟨List.mem_cons_of_mem _ l_O_22, List.forall_mem_cons.mpr ⟨List.mem_cons_of_mem _ l_O_23, List.forall_mem_cons.mpr ⟨List.mem_cons_of_mem _ l_O_24, List.forall_mem_cons.mpr ⟨List.mem_cons_of_mem _ l_O_25, List.forall_mem_cons.mpr ⟨List.mem_cons_of_mem _ l_O_26, List.forall_mem_cons.mpr ⟨List.mem_cons_of_mem _ l_O_27, List.forall_mem_cons.mpr ⟨List.mem_cons_of_mem _ l_O_28, List.forall_mem_cons.mpr ⟨List.mem_cons_of_mem _ l_O_29, List.forall_mem_cons.mpr ⟨List.mem_cons_of_mem _ l_O_30, List.forall_mem_cons.mpr ⟨List.mem_cons_of_mem _ l_O_31, List.forall_mem_cons.mpr ⟨List.mem_cons_of_mem _ l_O_32, List.forall_mem_cons.mpr ⟨List.mem_cons_of_mem _ l_O_33, List.forall_mem_cons.mpr ⟨List.mem_cons_of_mem _ l_O_34, fun _ h => absurd h List.not_mem_nil⟩⟩⟩⟩⟩⟩⟩⟩⟩⟩⟩⟩⟩⟩⟩⟩⟩⟩⟩⟩⟩⟩⟩⟩⟩⟩⟩⟩⟩⟩⟩⟩⟩⟩⟩
abbrev sdCl : List vw_C := [("SettingsDesk", T_D, 12), ("SettingsDesk$Schema", T_C, 6), ("SettingsDesk$Settings", T_S, 4), ("SettingsDesk$Session", T_N, 3), ("SettingsDesk$Trouble", T_T, 4), ("SettingsDesk$Leaf", T_F, 7), ("SettingsDesk$Rule", T_R, 5), ("SettingsDesk$Merge", T_G, 5), ("SettingsDesk$Check", T_K, 3), ("SettingsDesk$Difference", T_E, 8), ("SettingsDeskModel", T_O, 35)]
def sd_tys (dA : Nat → ClassId) : List (ClassId × FieldType) := [(dA 0, .int), (dA 1, .boolean), (dA 2, .long), (dA 3, .object "SettingsDesk$Leaf"), (dA 4, .object "SettingsDesk$Rule"), (dA 5, .object "SettingsDesk$Settings"), (dA 6, .object "SettingsDesk$Session")]
def sdNw : List Cond := [.arrayOver (.object "SettingsDesk$Leaf"), .arrayOver (.object "SettingsDesk$Rule"), .methodLinkNest "SettingsDesk$Schema" 38 ⟨"SettingsDesk$Leaf", "<init>", "()V"⟩ "SettingsDesk", .methodLinkNest "SettingsDesk$Schema" 39 ⟨"SettingsDesk$Rule", "<init>", "()V"⟩ "SettingsDesk", .arrayOver (.object "SettingsDesk$Settings"), .arrayOver (.object "SettingsDesk$Session"), .methodLinkNest "SettingsDesk" 41 ⟨"SettingsDesk$Trouble", "<init>", "()V"⟩ "SettingsDesk", .methodLinkNest "SettingsDesk" 63 ⟨"SettingsDesk$Session", "<init>", "()V"⟩ "SettingsDesk", .castable "java/lang/IllegalStateException" "java/lang/IllegalStateException", .declares ⟨"java/lang/RuntimeException", "<init>", "()V"⟩, .declares ⟨"java/lang/RuntimeException", "<init>", "(Ljava/lang/String;)V"⟩, .declares ⟨"java/lang/Exception", "<init>", "()V"⟩, .declares ⟨"java/lang/Exception", "<init>", "(Ljava/lang/String;)V"⟩, .declares ⟨"java/lang/Throwable", "<init>", "()V"⟩, .declares ⟨"java/lang/Throwable", "<init>", "(Ljava/lang/String;)V"⟩, .castable "java/lang/IndexOutOfBoundsException" "java/lang/IndexOutOfBoundsException", .castable "java/lang/IllegalArgumentException" "java/lang/IllegalArgumentException", .castable "java/lang/UnsupportedOperationException" "java/lang/UnsupportedOperationException"]
def sdSs : List (String × Nat × String) := [("SettingsDesk", 292, "the power is off, or the schema is ready"), ("SettingsDesk", 72, "there are as many lists as there may be"), ("SettingsDesk", 299, "there is no such list"), ("SettingsDesk", 85, "the list has as many leaves as it may have"), ("SettingsDesk", 93, "there can be no such leaf"), ("SettingsDesk", 304, "there is no such list or leaf"), ("SettingsDesk", 117, "the leaf can have no such standard"), ("SettingsDesk", 128, "there are as many rules as there may be"), ("SettingsDesk", 294, "the power is off, or the schema is not ready"), ("SettingsDesk", 306, "there is no such session"), ("SettingsDesk", 308, "the session has not begun"), ("SettingsDesk", 166, "there can be no such entry"), ("SettingsDesk", 183, "the list has as many entries as it may have"), ("SettingsDesk", 310, "the candidate has no such entry"), ("SettingsDesk", 193, "the leaf takes no such value"), ("SettingsDesk", 208, "there is no such set"), ("SettingsDesk", 219, "there is no such entry, or the leaf is nothing"), ("SettingsDesk", 225, "there can be no such number of ticks"), ("SettingsDesk", 245, "there are not so many older sets"), ("SettingsDesk", 255, "there is no such difference, or nothing such of it"), ("SettingsDesk", 279, "there can be no such number of pages")]
abbrev sdE0 (sc : Option (Nat × Nat × (Nat → Int32))) : sdE := (sdCl, sdNw, sdSs, sc)
def isI (n : Nat) (L : Nat → sdL) (c : ClassId) (t len : Nat) : Prop := t < n ∧ L t = sd_I c len
def isQ (n : Nat) (L : Nat → sdL) (c : ClassId) (t len : Nat) (g : Nat → Nat) : Prop := t < n ∧ L t = sd_Q c len g
def isT (n : Nat) (L : Nat → sdL) (o : Nat) : Prop := o < n ∧ L o = sd_O 4 [none, none, none, none]
def isF (n : Nat) (L : Nat → sdL) (o : Nat) : Prop := o < n ∧ L o = sd_O 5 [none, none, none, none, none, none, none]
def isR (n : Nat) (L : Nat → sdL) (o : Nat) : Prop := o < n ∧ L o = sd_O 6 [none, none, none, none, none]
def isS (n : Nat) (L : Nat → sdL) (dA : Nat → ClassId) (o : Nat) : Prop := o < n ∧ L o = sd_O 2 [some (some (o + 1)), some (some (o + 2)), some (some (o + 3)), some (some (o + 4))] ∧ isI n L (dA 0) (o + 1) 4 ∧ isI n L (dA 0) (o + 2) 48 ∧ isI n L (dA 0) (o + 3) 192 ∧ isI n L (dA 0) (o + 4) 48
theorem isS.counts {n : Nat} {L : Nat → sdL} {dA : Nat → ClassId} {o : Nat} (h : isS n L dA o) : isI n L (dA 0) (o + 1) 4 := h.2.2.1
theorem isS.keys {n : Nat} {L : Nat → sdL} {dA : Nat → ClassId} {o : Nat} (h : isS n L dA o) : isI n L (dA 0) (o + 2) 48 := h.2.2.2.1
theorem isS.values {n : Nat} {L : Nat → sdL} {dA : Nat → ClassId} {o : Nat} (h : isS n L dA o) : isI n L (dA 0) (o + 3) 192 := h.2.2.2.2.1
theorem isS.given {n : Nat} {L : Nat → sdL} {dA : Nat → ClassId} {o : Nat} (h : isS n L dA o) : isI n L (dA 0) (o + 4) 48 := h.2.2.2.2.2
def isN (n : Nat) (L : Nat → sdL) (dA : Nat → ClassId) (o : Nat) : Prop := o < n ∧ L o = sd_O 3 [none, some (some (o + 1)), some (some (o + 6))] ∧ isS n L dA (o + 1) ∧ isS n L dA (o + 6)
theorem isN.candidate {n : Nat} {L : Nat → sdL} {dA : Nat → ClassId} {o : Nat} (h : isN n L dA o) : isS n L dA (o + 1) := h.2.2.1
theorem isN.base {n : Nat} {L : Nat → sdL} {dA : Nat → ClassId} {o : Nat} (h : isN n L dA o) : isS n L dA (o + 6) := h.2.2.2
def isC (n : Nat) (L : Nat → sdL) (dA : Nat → ClassId) : Prop := 1 < n ∧ L 1 = sd_O 1 [none, none, some (some 2), some (some 3), none, some (some 4)] ∧ isI n L (dA 0) 2 4 ∧ isQ n L (dA 3) 3 16 (fun j => 5 + j) ∧ isQ n L (dA 4) 4 4 (fun j => 21 + j) ∧ (∀ j, j < 16 → isF n L (5 + j)) ∧ ∀ j, j < 4 → isR n L (21 + j)
theorem isC.leaves {n : Nat} {L : Nat → sdL} {dA : Nat → ClassId} (h : isC n L dA) : isI n L (dA 0) 2 4 := h.2.2.1
theorem isC.leafTable {n : Nat} {L : Nat → sdL} {dA : Nat → ClassId} (h : isC n L dA) : isQ n L (dA 3) 3 16 (fun j => 5 + j) := h.2.2.2.1
theorem isC.rules {n : Nat} {L : Nat → sdL} {dA : Nat → ClassId} (h : isC n L dA) : isQ n L (dA 4) 4 4 (fun j => 21 + j) := h.2.2.2.2.1
theorem sd_lt {i : Int32} {n : Nat} (h : vp_in i n) : i.toNatClampNeg < n := Nat.not_le.mp fun q => h (Or.inr q)
theorem isC.leafTableAt {n : Nat} {L : Nat → sdL} {dA : Nat → ClassId} (h : isC n L dA) {i : Int32} (hi : vp_in i 16) : isF n L (5 + i.toNatClampNeg) := h.2.2.2.2.2.1 _ (sd_lt hi)
theorem isC.rulesAt {n : Nat} {L : Nat → sdL} {dA : Nat → ClassId} (h : isC n L dA) {i : Int32} (hi : vp_in i 4) : isR n L (21 + i.toNatClampNeg) := h.2.2.2.2.2.2 _ (sd_lt hi)
def isD (n : Nat) (L : Nat → sdL) (dA : Nat → ClassId) : Prop := 0 < n ∧ L 0 = sd_O 0 [some (some 1), some (some 25), some (some 30), some (some 35), some (some 40), some (some 41), some (some 42), none, none, none, none, none] ∧ isC n L dA ∧ isS n L dA 25 ∧ isS n L dA 30 ∧ isS n L dA 35 ∧ isQ n L (dA 5) 40 8 (fun j => 43 + 5 * j) ∧ isQ n L (dA 6) 41 3 (fun j => 83 + 11 * j) ∧ isT n L 42 ∧ (∀ j, j < 8 → isS n L dA (43 + 5 * j)) ∧ ∀ j, j < 3 → isN n L dA (83 + 11 * j)
theorem isD.schema {n : Nat} {L : Nat → sdL} {dA : Nat → ClassId} (h : isD n L dA) : isC n L dA := h.2.2.1
theorem isD.running {n : Nat} {L : Nat → sdL} {dA : Nat → ClassId} (h : isD n L dA) : isS n L dA 25 := h.2.2.2.1
theorem isD.saved {n : Nat} {L : Nat → sdL} {dA : Nat → ClassId} (h : isD n L dA) : isS n L dA 30 := h.2.2.2.2.1
theorem isD.outcome {n : Nat} {L : Nat → sdL} {dA : Nat → ClassId} (h : isD n L dA) : isS n L dA 35 := h.2.2.2.2.2.1
theorem isD.older {n : Nat} {L : Nat → sdL} {dA : Nat → ClassId} (h : isD n L dA) : isQ n L (dA 5) 40 8 (fun j => 43 + 5 * j) := h.2.2.2.2.2.2.1
theorem isD.sessions {n : Nat} {L : Nat → sdL} {dA : Nat → ClassId} (h : isD n L dA) : isQ n L (dA 6) 41 3 (fun j => 83 + 11 * j) := h.2.2.2.2.2.2.2.1
theorem isD.trouble {n : Nat} {L : Nat → sdL} {dA : Nat → ClassId} (h : isD n L dA) : isT n L 42 := h.2.2.2.2.2.2.2.2.1
theorem isD.olderAt {n : Nat} {L : Nat → sdL} {dA : Nat → ClassId} (h : isD n L dA) {i : Int32} (hi : vp_in i 8) : isS n L dA (43 + 5 * i.toNatClampNeg) := h.2.2.2.2.2.2.2.2.2.1 _ (sd_lt hi)
theorem isD.sessionsAt {n : Nat} {L : Nat → sdL} {dA : Nat → ClassId} (h : isD n L dA) {i : Int32} (hi : vp_in i 3) : isN n L dA (83 + 11 * i.toNatClampNeg) := h.2.2.2.2.2.2.2.2.2.2 _ (sd_lt hi)
def isG (n : Nat) (L : Nat → sdL) (dA : Nat → ClassId) (o ca ba ru ou tr : Nat) : Prop := o < n ∧ L o = sd_O 7 [some (some ca), some (some ba), some (some ru), some (some ou), some (some tr)] ∧ isS n L dA ca ∧ isS n L dA ba ∧ isS n L dA ru ∧ isS n L dA ou ∧ isT n L tr
theorem isG.candidate {n : Nat} {L : Nat → sdL} {dA : Nat → ClassId} {o ca ba ru ou tr : Nat} (h : isG n L dA o ca ba ru ou tr) : isS n L dA ca := h.2.2.1
theorem isG.base {n : Nat} {L : Nat → sdL} {dA : Nat → ClassId} {o ca ba ru ou tr : Nat} (h : isG n L dA o ca ba ru ou tr) : isS n L dA ba := h.2.2.2.1
theorem isG.running {n : Nat} {L : Nat → sdL} {dA : Nat → ClassId} {o ca ba ru ou tr : Nat} (h : isG n L dA o ca ba ru ou tr) : isS n L dA ru := h.2.2.2.2.1
theorem isG.outcome {n : Nat} {L : Nat → sdL} {dA : Nat → ClassId} {o ca ba ru ou tr : Nat} (h : isG n L dA o ca ba ru ou tr) : isS n L dA ou := h.2.2.2.2.2.1
theorem isG.trouble {n : Nat} {L : Nat → sdL} {dA : Nat → ClassId} {o ca ba ru ou tr : Nat} (h : isG n L dA o ca ba ru ou tr) : isT n L tr := h.2.2.2.2.2.2
def isK (n : Nat) (L : Nat → sdL) (dA : Nat → ClassId) (o se tr : Nat) : Prop := o < n ∧ L o = sd_O 8 [some (some 1), some (some se), some (some tr)] ∧ isC n L dA ∧ isS n L dA se ∧ isT n L tr
theorem isK.schema {n : Nat} {L : Nat → sdL} {dA : Nat → ClassId} {o se tr : Nat} (h : isK n L dA o se tr) : isC n L dA := h.2.2.1
theorem isK.settings {n : Nat} {L : Nat → sdL} {dA : Nat → ClassId} {o se tr : Nat} (h : isK n L dA o se tr) : isS n L dA se := h.2.2.2.1
theorem isK.trouble {n : Nat} {L : Nat → sdL} {dA : Nat → ClassId} {o se tr : Nat} (h : isK n L dA o se tr) : isT n L tr := h.2.2.2.2
def isE (n : Nat) (L : Nat → sdL) (dA : Nat → ClassId) (o ca ru : Nat) : Prop := o < n ∧ L o = sd_O 9 [some (some ca), some (some ru), none, none, none, none, none, none] ∧ isS n L dA ca ∧ isS n L dA ru
theorem isE.candidate {n : Nat} {L : Nat → sdL} {dA : Nat → ClassId} {o ca ru : Nat} (h : isE n L dA o ca ru) : isS n L dA ca := h.2.2.1
theorem isE.running {n : Nat} {L : Nat → sdL} {dA : Nat → ClassId} {o ca ru : Nat} (h : isE n L dA o ca ru) : isS n L dA ru := h.2.2.2
def isO (n : Nat) (L : Nat → sdL) (dA : Nat → ClassId) : Prop := 116 < n ∧ L 116 = sd_O 10 [none, none, none, some (some 117), some (some 118), some (some 119), some (some 120), some (some 121), some (some 122), some (some 123), none, some (some 124), some (some 125), some (some 126), some (some 127), some (some 128), some (some 129), some (some 130), some (some 131), some (some 132), none, none, some (some 133), none, none, none, none, none, none, none, none, none, none, none, none] ∧ isI n L (dA 0) 117 4 ∧ isI n L (dA 1) 118 16 ∧ isI n L (dA 0) 119 16 ∧ isI n L (dA 0) 120 16 ∧ isI n L (dA 0) 121 16 ∧ isI n L (dA 1) 122 16 ∧ isI n L (dA 0) 123 16 ∧ isI n L (dA 0) 124 4 ∧ isI n L (dA 0) 125 4 ∧ isI n L (dA 0) 126 4 ∧ isI n L (dA 0) 127 4 ∧ isI n L (dA 1) 128 4 ∧ isI n L (dA 0) 129 68 ∧ isI n L (dA 0) 130 816 ∧ isI n L (dA 0) 131 816 ∧ isI n L (dA 0) 132 3264 ∧ isI n L (dA 1) 133 3
theorem isO.leaves {n : Nat} {L : Nat → sdL} {dA : Nat → ClassId} (h : isO n L dA) : isI n L (dA 0) 117 4 := h.2.2.1
theorem isO.refers {n : Nat} {L : Nat → sdL} {dA : Nat → ClassId} (h : isO n L dA) : isI n L (dA 1) 118 16 := h.2.2.2.1
theorem isO.lows {n : Nat} {L : Nat → sdL} {dA : Nat → ClassId} (h : isO n L dA) : isI n L (dA 0) 119 16 := h.2.2.2.2.1
theorem isO.highs {n : Nat} {L : Nat → sdL} {dA : Nat → ClassId} (h : isO n L dA) : isI n L (dA 0) 120 16 := h.2.2.2.2.2.1
theorem isO.flags {n : Nat} {L : Nat → sdL} {dA : Nat → ClassId} (h : isO n L dA) : isI n L (dA 0) 121 16 := h.2.2.2.2.2.2.1
theorem isO.hasStandard {n : Nat} {L : Nat → sdL} {dA : Nat → ClassId} (h : isO n L dA) : isI n L (dA 1) 122 16 := h.2.2.2.2.2.2.2.1
theorem isO.standards {n : Nat} {L : Nat → sdL} {dA : Nat → ClassId} (h : isO n L dA) : isI n L (dA 0) 123 16 := h.2.2.2.2.2.2.2.2.1
theorem isO.ruleList {n : Nat} {L : Nat → sdL} {dA : Nat → ClassId} (h : isO n L dA) : isI n L (dA 0) 124 4 := h.2.2.2.2.2.2.2.2.2.1
theorem isO.ruleA {n : Nat} {L : Nat → sdL} {dA : Nat → ClassId} (h : isO n L dA) : isI n L (dA 0) 125 4 := h.2.2.2.2.2.2.2.2.2.2.1
theorem isO.ruleValue {n : Nat} {L : Nat → sdL} {dA : Nat → ClassId} (h : isO n L dA) : isI n L (dA 0) 126 4 := h.2.2.2.2.2.2.2.2.2.2.2.1
theorem isO.ruleB {n : Nat} {L : Nat → sdL} {dA : Nat → ClassId} (h : isO n L dA) : isI n L (dA 0) 127 4 := h.2.2.2.2.2.2.2.2.2.2.2.2.1
theorem isO.ruleThere {n : Nat} {L : Nat → sdL} {dA : Nat → ClassId} (h : isO n L dA) : isI n L (dA 1) 128 4 := h.2.2.2.2.2.2.2.2.2.2.2.2.2.1
theorem isO.sizes {n : Nat} {L : Nat → sdL} {dA : Nat → ClassId} (h : isO n L dA) : isI n L (dA 0) 129 68 := h.2.2.2.2.2.2.2.2.2.2.2.2.2.2.1
theorem isO.keys {n : Nat} {L : Nat → sdL} {dA : Nat → ClassId} (h : isO n L dA) : isI n L (dA 0) 130 816 := h.2.2.2.2.2.2.2.2.2.2.2.2.2.2.2.1
theorem isO.bits {n : Nat} {L : Nat → sdL} {dA : Nat → ClassId} (h : isO n L dA) : isI n L (dA 0) 131 816 := h.2.2.2.2.2.2.2.2.2.2.2.2.2.2.2.2.1
theorem isO.values {n : Nat} {L : Nat → sdL} {dA : Nat → ClassId} (h : isO n L dA) : isI n L (dA 0) 132 3264 := h.2.2.2.2.2.2.2.2.2.2.2.2.2.2.2.2.2.1
theorem isO.begun {n : Nat} {L : Nat → sdL} {dA : Nat → ClassId} (h : isO n L dA) : isI n L (dA 1) 133 3 := h.2.2.2.2.2.2.2.2.2.2.2.2.2.2.2.2.2.2
end
section
/-! exceptions: 'throw new E("text")' out of a method -/
/-- the frame of a method, seen from here: as if it had been entered in this heap -/
theorem sd_anew {p : Program} {l : Launch} {e : Env} {R : Room} {s : State} {m : MethodId} {args : Array Value} {below : List Frame} {meth : Method} {c : Code} {T : State} {locs : List Loc} {cells slots kc ks : Nat}
    (X : Stand p l e R s m args below meth c T locs cells slots) (h1 : cells + kc ≤ R.cells) (h2 : slots + ks ≤ R.slots) :
    Stand p l e { frames := R.frames, locals := R.locals, cells := kc, slots := ks } ((T.setVm s.vm).setFrames (.invoking m args :: below)) m args below meth c T [] 0 0 := by
  have hcur : (T.setVm s.vm).cur < (T.setVm s.vm).threads.size := State.cur_lt_of_top (show (T.setVm s.vm).topJava?.isSome from X.here.top)
  have hF : ((T.setVm s.vm).setFrames (.invoking m args :: below)).frames = .invoking m args :: below := State.frames_setFrames _ hcur
  have hlim : e.platform.stackLimits (T.setVm s.vm).me = e.platform.stackLimits s.me := X.limits
  have hbyt : (T.setVm s.vm).me.stackBytes = s.me.stackBytes := X.bytes
  have hnil : ∀ a : Array Cell, a.toList.drop a.size = [] := fun a => List.drop_eq_nil_of_le (Nat.le_of_eq Array.length_toList)
  refine { admits := X.admits, cas := X.cas, clock := X.clock, frames := hF, room := ?_, hears := X.hears, method := X.method, code := X.code, here := X.here, tail := X.tail, warmed := X.warmed, limits := ?_, bytes := ?_, same := ?_ }
  · have h := X.room
    have e1 := State.localsInUse_invoking hF X.method X.code
    have e2 := State.localsInUse_invoking X.frames X.method X.code
    have q1 := X.heapSize
    have q2 := X.used
    simp only [State.hasRoom, Bool.and_eq_true, decide_eq_true_eq, e1, e2, hF, X.frames, List.length_cons, State.stackLimits_setFrames, State.stackBytes_setFrames, hlim, hbyt] at h ⊢
    obtain ⟨⟨⟨⟨a1, a2, a3, a4, a5, a6⟩, a7⟩, a8⟩, a9⟩ := h
    refine ⟨⟨⟨⟨by omega, by omega, by omega, by omega, by omega, a6⟩, ?_⟩, ?_⟩, X.book⟩
    · show T.heap.size + kc ≤ e.platform.maxCells
      omega
    · show T.slotsUsed + ks ≤ e.platform.maxSlots
      omega
  · rw [State.stackLimits_setFrames]; rfl
  · rw [State.stackBytes_setFrames]; rfl
  · obtain ⟨g0, hg0⟩ := X.frames_eq
    obtain ⟨th, hth, -⟩ := State.frames_cons (show (T.setVm s.vm).frames = .java g0 :: below from hg0)
    refine ⟨?_, Nat.le_refl _, Nat.le_refl _, ?_, ?_, fun a c9 h9 => ⟨c9, h9, rfl, rfl, fun _ _ => rfl⟩⟩
    · show T.setVm s.vm = { ((T.setVm s.vm).setFrames (.invoking m args :: below)).setFrames (T.setVm s.vm).frames with heap := T.heap, slotsUsed := T.slotsUsed }
      rw [State.setFrames_setFrames, State.setFrames_self hth]
      rfl
    · show T.slotsUsed = T.slotsUsed + ((T.heap.toList.drop T.heap.size).map (·.slots.size)).sum
      rw [hnil]; rfl
    · show ((T.heap.toList.drop T.heap.size).map (·.slots.size)).sum ≤ 0
      rw [hnil]; exact Nat.le_refl _
/-- nothing old was written: every old cell is as it was -/
theorem sd_same0 {s U : State} {k n : Nat} (h : s.sameButNew U [] k n) : s.heap.size ≤ U.heap.size ∧ ∀ q : Nat, q < s.heap.size → U.heap[q]? = s.heap[q]? := by
  obtain ⟨-, h2, -, -, -, h6⟩ := h
  refine ⟨h2, fun q hq => ?_⟩
  obtain ⟨c9, e1, e2, e3, e4⟩ := h6 q _ (Array.getElem?_eq_getElem hq)
  have hs : c9.slots = (s.heap[q]).slots := Array.ext_getElem? fun i => e4 i (fun hm => nomatch hm)
  rw [hs] at e2
  rw [e1, e2, Array.getElem?_eq_getElem hq]
/-- a word of the tables, one that stays, or one of the four on Throwable's statics -/
def sd_ok (ws nw : List Cond) (w : Cond) : Prop := w ∈ ws ∨ w ∈ nw ∨ w = .isRef (.static Bundle.tN "UNASSIGNED_STACK" Bundle.steD) ∨ w = .isRef (.static Bundle.tN "SUPPRESSED_SENTINEL" Bundle.listD) ∨ w = .laysStatic Bundle.tN "UNASSIGNED_STACK" Bundle.steD ∨ w = .laysStatic Bundle.tN "SUPPRESSED_SENTINEL" Bundle.listD
section
variable {l : Launch} {E : sdE} {Y : sdY} {D : va_G} {tys : List (ClassId × FieldType)} {b n : Nat} {ad : Nat → Nat} {L : Nat → sdL} {aF : Nat → Nat} {F : sdM → Heap → Prop} {Q : Option Value → sdM → Prop} {X : String → sdM → Prop}
variable {pc : Nat} {loc : List (Nat × Value)} {st : List Value} {M : sdM} {rc rs : Nat}
set_option maxHeartbeats 1000000 in
theorem x_throwS {cls text : String} {names : List String} {ik is ic wd : Nat} (hT : l.stackTraces = false) (htb : Y.2.2.2.2.2.2.2.2 = []) (hcls : Bundle.fit cls = true) (hnames : ∀ n ∈ names, Bundle.fit n = true) (hgw : GoodIn Y.2.2.2.2.1 Y.2.2.2.2.1) (hk : Cond.classLink Y.1 ik cls ∈ Y.2.2.2.2.1) (hini : Cond.initialized cls ∈ Y.2.2.2.2.1) (hins : Cond.instantiable cls 6 ∈ Y.2.2.2.2.1) (hss : (Y.1, is, text) ∈ E.2.2.1)
    (hat : ∀ w ∈ Bundle.ownAtoms Y.1 ic cls names, sd_ok Y.2.2.2.2.1 E.2.1 w)
    (d0 : decode Y.2.1 pc = .ok (.new ik, 3)) (d3 : decode Y.2.1 (pc + 3) = .ok (.dup, 1)) (d4 : (decode Y.2.1 (pc + 4) = .ok (.ldc is, 2) ∧ wd = 2) ∨ (decode Y.2.1 (pc + 4) = .ok (.ldc_w is, 3) ∧ wd = 3)) (d6 : decode Y.2.1 (pc + 4 + wd) = .ok (.invokespecial ic, 3)) (d9 : decode Y.2.1 (pc + 4 + wd + 3) = .ok (.athrow, 1))
    (hR1 : names.length + 3 < Y.2.2.2.2.2.1.frames) (hR2 : (st.map fun v => v.category).sum + (13 * (names.length + 1) + 43) ≤ Y.2.2.2.2.2.1.locals) (hR3 : Y.2.2.2.2.2.1.cells = Y.2.2.2.2.2.2.1) (hR4 : Y.2.2.2.2.2.1.slots = Y.2.2.2.2.2.2.2.1)
    (hF : ∀ (M : sdM) (H : Heap), sd_H D E.1 n ad L M H → F M H) (k : X cls M) : sdW l E Y D tys b n ad L aF F Q X pc loc st M (rc + 1) (rs + 6) := by
  intro p e s m args below meth c H locs ls cells slots hC hK hH hS hl hc hs T hT0 X0
  subst hT0
  have htr : e.platform.stackTraces = false := (show e.platform.stackTraces = l.stackTraces by rw [X0.admits.platform]).trans hT
  have Z := sd_anew X0 (kc := 1) (ks := 6) (by rw [hR3]; omega) (by rw [hR4]; omega)
  obtain ⟨s', hs'⟩ : ∃ z, z = (T.setVm s.vm).setFrames (.invoking m args :: below) := ⟨_, rfl⟩
  rw [← hs'] at Z
  have hvm : s'.vm = s.vm := by rw [hs']; rfl
  have hhp : s'.heap = T.heap := by rw [hs']; rfl
  have hW0 : s.WarmedH s'.vm := by rw [hvm]; exact State.WarmedH.refl s
  have hK' := hK.move hW0 hhp hS
  have hws : ∀ w ∈ Y.2.2.2.2.1, w.before args s' = true := fun w hw => word_at hW0 (hgw w hw).2 (hC.1.2.2.2.2 w hw)
  have h : ∀ w ∈ Bundle.ownAtoms Y.1 ic cls names, w.before args s' = true := by
    intro w hw
    rcases hat w hw with h | h | h | h | h | h
    · exact hws w h
    · exact va_Nw.use (hK'.2.1 w h).2.1 (hK'.2.1 w h).1
    · rw [h]; exact hK'.2.2.2.1.1.ref
    · rw [h]; exact hK'.2.2.2.1.2.ref
    · rw [h]; exact hK'.2.2.2.1.1.lays
    · rw [h]; exact hK'.2.2.2.1.2.lays
  have hown' : s'.vm.findClass Y.1 = some m.cls := by rw [hvm]; exact hC.1.2.2.2.1
  obtain ⟨sa, hsa⟩ := hK'.2.2.1 _ hss
  have hres : W p l e { frames := Y.2.2.2.2.2.1.frames, locals := Y.2.2.2.2.2.1.locals, cells := 1, slots := 6 } s' m args below meth c T.heap [] 0 0 (sd_Z b aF F Q X Y.2.2.2.2.2.2.1 Y.2.2.2.2.2.2.2.1 below args s) (F0 m pc ls (st.map (sd_v ad))) := by
    refine W.newc hC.1.1 hC.1.2.1 hown' (hws _ hk) (hws _ hins) (hws _ hini) rfl d0 (Nat.le_refl _) (Nat.le_refl _) fun cX kX g1 g2 g3 g4 => ?_
    refine W.eq (g2 := F0 m (pc + 3) ls (.ref T.heap.size :: st.map (sd_v ad))) rfl ?_
    refine lv_dup hC.1.1 hC.1.2.1 d3 rfl ?_
    have fin : W p l e { frames := Y.2.2.2.2.2.1.frames, locals := Y.2.2.2.2.2.1.locals, cells := 1, slots := 6 } s' m args below meth c (T.heap.push { cls := cX, slots := kX.instanceTypes.map defaultValue, vm := .none }) [] (0 + 1) (0 + 6) (sd_Z b aF F Q X Y.2.2.2.2.2.2.1 Y.2.2.2.2.2.2.2.1 below args s) (F0 m (pc + 4 + wd) ls (.ref sa :: .ref T.heap.size :: .ref T.heap.size :: st.map (sd_v ad))) := by
      intro T2 hT2 X2
      obtain ⟨U, hsteps, hrun, hend, hWm, hsame, ce, hce, hO⟩ := X2.ctorThrowS hC.1.1 htr (own := Y.1) (cls := cls) (names := names) (ic := ic) hown' hcls hnames h (fun x hx => nomatch hx) g1 g2 (a := T.heap.size) (by rw [hT2]; simp) (by rw [hhp]; exact Nat.le_refl _) (msg := .ref sa) rfl
        (g := F0 m (pc + 4 + wd) ls (.ref sa :: .ref T.heap.size :: .ref T.heap.size :: st.map (sd_v ad))) rfl (hl.1.trans hC.1.2.2.1.symm) rfl rfl (rest := st.map (sd_v ad)) rfl (by rw [hC.1.2.1]; exact d6) (by rw [hC.1.2.1]; exact d9) (fun x hx => (sd_tb hC htb x hx).elim) hR1
        (by
          have hcat := sd_cats ad st
          have h1 : (Value.ref T.heap.size).category = 1 := rfl
          show 2 * 0 + ((Value.ref T.heap.size :: st.map (sd_v ad)).map fun v => v.category).sum + (13 * (names.length + 1) + 42) ≤ Y.2.2.2.2.2.1.locals
          simp only [List.map_cons, List.sum_cons, h1, hcat]
          omega) hC.2.1
      obtain ⟨f1, f2⟩ := sd_same0 hsame
      rw [hhp] at f1 f2
      have hcl : s.vm.findClass cls = some ce.cls := by
        have h9 := hO.cls
        rw [hvm] at h9
        exact h9
      have hall : s.sameButNew ({ U with vm := s.vm } : State) locs Y.2.2.2.2.2.2.1 Y.2.2.2.2.2.2.2.1 := by
        subst hs'
        obtain ⟨e1, e2⟩ := hsame
        rw [State.setFrames_setFrames] at e1
        have h2 : (T.setVm s.vm).sameButNew ({ U with vm := s.vm } : State) [] (0 + 1) (0 + 6) := ⟨e1, e2⟩
        have h3 := X0.same.trans h2
        rw [List.append_nil] at h3
        exact h3.mono (by omega) (by omega)
      refine ⟨U, hsteps, .threw T.heap.size, hrun, hend, Or.inr ⟨T.heap.size, rfl, cls, M, ce, locs, k, hF _ _ (fun j hj => (hH j hj).kept (f2 _ (hH j hj).lt)), hce, hO.vm, hcl, ⟨Nat.le_trans hS.1 f1, fun q h1 h2 => ?_⟩, State.WarmedH.trans hW0 hWm, hall, hS.2.2⟩⟩
      rw [show U.heap[q]? = T.heap[q]? from f2 q (Nat.lt_of_lt_of_le h1 hS.1)]
      exact hS.2.1 q h1 h2
    rcases d4 with ⟨d4, rfl⟩ | ⟨d4, rfl⟩
    · exact va_ldcS hC.1.1 hC.1.2.1 hown' hsa d4 fin
    · intro T2 hT2 X2
      obtain ⟨t, a1, b1⟩ := fin T2 hT2 X2
      exact ⟨t, X2.ldcStringW hC.1.1 hown' (text := text) (a := sa) hsa.1 hsa.2 (g := F0 m (pc + 4) ls (.ref T.heap.size :: .ref T.heap.size :: st.map (sd_v ad))) rfl (by rw [hC.1.2.1]; exact d4) t a1, b1⟩
  exact hres T rfl Z
end
end
section
/-! cells that are made: worlds that grow -/
def sd_loc (n : Nat) (L : Nat → sdL) : Prop := ∀ k, k < n → ∀ (a a' : Nat → Nat) (f : Nat → Int32), (∀ t, t < n → a t = a' t) → L k a f = L k a' f
def sd_up (n : Nat) (L : Nat → sdL) (n2 : Nat) (L2 : Nat → sdL) : Prop := n ≤ n2 ∧ ∀ k, k < n → L2 k = L k
theorem sd_up.trans {n n2 n3 : Nat} {L L2 L3 : Nat → sdL} (h : sd_up n L n2 L2) (h2 : sd_up n2 L2 n3 L3) : sd_up n L n3 L3 := ⟨Nat.le_trans h.1 h2.1, fun k hk => (h2.2 k (Nat.lt_of_lt_of_le hk h.1)).trans (h.2 k hk)⟩
def sd_bel (n : Nat) (v : Value) : Prop := ∀ k, v = .ref k → k < n
theorem sd_bel_i {n : Nat} {x : Int32} : sd_bel n (.int x) := fun _ h => nomatch h
theorem sd_bel_r {n k : Nat} (h : k < n) : sd_bel n (.ref k) := fun _ e => by cases e; exact h
theorem sd_v_ext {n : Nat} {ad ad2 : Nat → Nat} (h : ∀ k, k < n → ad2 k = ad k) {v : Value} (hv : sd_bel n v) : sd_v ad2 v = sd_v ad v := by
  cases v with
  | ref k => show Value.ref (ad2 k) = Value.ref (ad k); rw [h k (hv k rfl)]
  | _ => rfl
theorem sd_map_ext {n : Nat} {ad ad2 : Nat → Nat} (h : ∀ k, k < n → ad2 k = ad k) {l : List Value} (hl : ∀ v ∈ l, sd_bel n v) : l.map (sd_v ad2) = l.map (sd_v ad) := List.map_congr_left (fun v hv => sd_v_ext h (hl v hv))
theorem sd_l_ext {n : Nat} {ad ad2 : Nat → Nat} (h : ∀ k, k < n → ad2 k = ad k) {l : List (Nat × Value)} (hl : ∀ q ∈ l, sd_bel n q.2) : sd_l ad2 l = sd_l ad l := List.map_congr_left (fun q hq => by rw [sd_v_ext h (hl q hq)])
theorem sd_H.down {D : va_G} {cl : List vw_C} {n n2 : Nat} {ad ad2 : Nat → Nat} {L L2 : Nat → sdL} {M : sdM} {H : Heap} (hloc : sd_loc n L) (hu : sd_up n L n2 L2) (ha : ∀ k, k < n → ad2 k = ad k) (h : sd_H D cl n2 ad2 L2 M H) : sd_H D cl n ad L M H := fun k hk => by
  have h1 := h k (Nat.lt_of_lt_of_le hk hu.1)
  rw [ha k hk, hu.2 k hk, hloc k hk ad2 ad (M k) (fun t ht => ha t ht)] at h1
  exact h1
/-- a new cell behind the others -/
theorem sd_grow {D : va_G} {cl : List vw_C} {b n q : Nat} {ad : Nat → Nat} {L : Nat → sdL} {M : sdM} {H1 : Heap} {ly : sdL} {f : Nat → Int32} {e : va_E} (hloc : sd_loc n L) (hly : ∀ a f, ly a f = ly ad f) (he : e = ly ad f) (hP : va_P D cl (sd_G n ad L M ++ [(q, e)]) H1) (hD : va_D (sd_A b) (sd_G n ad L M ++ [(q, e)])) :
    sd_H D cl (n + 1) (va_up ad n q) (va_up L n ly) (va_up M n f) H1 ∧ sd_ad b (n + 1) (va_up ad n q) ∧ sd_loc (n + 1) (va_up L n ly) ∧ sd_up n L (n + 1) (va_up L n ly) ∧ ∀ k, k < n → va_up ad n q k = ad k := by
  have hne : ∀ k, k < n → k ≠ n := fun k hk => Nat.ne_of_lt hk
  have had : ∀ k, k < n → va_up ad n q k = ad k := fun k hk => va_up_ne ad q (hne k hk)
  have old : ∀ k, k < n → (sd_G n ad L M ++ [(q, e)])[k]? = some (ad k, L k ad (M k)) := fun k hk => by rw [List.getElem?_append_left (by rw [sd_G_len]; exact hk), sd_G_get hk]
  have new : (sd_G n ad L M ++ [(q, e)])[n]? = some (q, e) := by rw [List.getElem?_append_right (by rw [sd_G_len]; exact Nat.le_refl _), sd_G_len, Nat.sub_self]; rfl
  have both : ∀ k, k < n + 1 → ∃ x : va_E, (sd_G n ad L M ++ [(q, e)])[k]? = some (va_up ad n q k, x) := fun k hk => by
    by_cases h : k = n
    · subst h; exact ⟨e, by rw [va_up_self]; exact new⟩
    · exact ⟨_, by rw [had k (by omega)]; exact old k (by omega)⟩
  refine ⟨fun k hk => ?_, ⟨fun i j hi hj hij => ?_, fun k hk => ?_⟩, fun k hk a a' f9 h => ?_, ⟨Nat.le_succ n, fun k hk => va_up_ne L ly (hne k hk)⟩, had⟩
  · by_cases h : k = n
    · subst h
      rw [va_up_self, va_up_self, va_up_self, hly, ← he]
      exact hP _ _ new
    · have hk2 : k < n := by omega
      rw [had k hk2, va_up_ne L ly h, va_up_ne M f h, hloc k hk2 (va_up ad n q) ad (M k) (fun t ht => had t ht)]
      exact hP _ _ (old k hk2)
  · obtain ⟨x, hx⟩ := both i hi
    obtain ⟨y, hy⟩ := both j hj
    exact hD.1 i j _ _ hx hy hij
  · obtain ⟨x, hx⟩ := both k hk
    exact hD.2 k _ hx
  · by_cases h9 : k = n
    · subst h9
      rw [va_up_self, hly, hly a']
    · rw [va_up_ne L ly h9]
      exact hloc k (by omega) a a' f9 (fun t ht => h t (by omega))
/-- the fields of a new object hold no reference -/
def sd_noref (fs : List (Option (Option Nat))) : Prop := ∀ q ∈ fs, ∀ t, q ≠ some (some t)
theorem sd_fv_noref {ad ad2 : Nat → Nat} {f : Nat → Int32} : ∀ (fs : List (Option (Option Nat))) (i : Nat), sd_noref fs → sd_fv ad f i fs = sd_fv ad2 f i fs
  | [], i, h => rfl
  | q :: r, i, h => by
    simp only [sd_fv]
    rw [sd_fv_noref (ad := ad) (ad2 := ad2) r (i + 1) (fun x hx => h x (List.mem_cons_of_mem _ hx))]
    have h1 : sd_fx ad (f i) q = sd_fx ad2 (f i) q := by
      cases q with
      | none => rfl
      | some q => cases q with
        | none => rfl
        | some t => exact absurd rfl (h _ List.mem_cons_self t)
    rw [h1]
section
variable {l : Launch} {E : sdE} {Y : sdY} {D : va_G} {tys : List (ClassId × FieldType)} {b n : Nat} {ad : Nat → Nat} {L : Nat → sdL} {aF : Nat → Nat} {F : sdM → Heap → Prop} {Q : Option Value → sdM → Prop} {X : String → sdM → Prop}
variable {pc : Nat} {loc : List (Nat × Value)} {st : List Value} {M : sdM} {rc rs : Nat}
theorem x_objInit {t idx : Nat} (d : decode Y.2.1 pc = .ok (.invokespecial idx, 3)) (h1 : Cond.methodLink Y.1 idx Lib.objectInit ∈ Y.2.2.2.2.1) (h2 : Cond.instanceMethod Lib.objectInit ∈ Y.2.2.2.2.1) (h3 : Cond.code Lib.objectInit ⟨#[0xb1]⟩ 1 none ∈ Y.2.2.2.2.1) (hR1 : 1 ≤ Y.2.2.2.2.2.1.frames) (hR2 : (st.map fun v => v.category).sum + 12 ≤ Y.2.2.2.2.2.1.locals)
    (k : sdW l E Y D tys b n ad L aF F Q X (pc + 3) loc st M rc rs) : sdW l E Y D tys b n ad L aF F Q X pc loc (.ref t :: st) M rc rs := by
  intro p e s m args below meth c H locs ls cells slots hC hK hH hS hl hc hs
  refine W.objInit (a := ad t) (rest := st.map (sd_v ad)) hC.1.1 hC.1.2.1 hC.1.2.2.2.1 (hC.1.2.2.2.2 _ h1) (hC.1.2.2.2.2 _ h2) (hC.1.2.2.2.2 _ h3) rfl (hl.1.trans hC.1.2.2.1.symm) rfl d hR1 (by rw [sd_cats]; show 2 * 0 + _ + 12 ≤ _; omega) ?_
  exact k p e s m args below meth c H locs ls cells slots hC hK hH hS hl hc hs
theorem x_new {ci N idx : Nat} {C : String} {T : u_T} (fs : List (Option (Option Nat))) (hA : sd_ad b n ad) (hloc : sd_loc n L) (hb1 : ∀ q ∈ loc, sd_bel n q.2) (hb2 : ∀ v ∈ st, sd_bel n v) (d : decode Y.2.1 pc = .ok (.new idx, 3)) (hc9 : E.1[ci]? = some (C, T, N)) (ty : Nat → FieldType) (hty : ∀ k, k < N → parseFieldDescriptor (T k).2.2.1 = some (ty k)) (hin : ∀ w ∈ u_ws C T N, w ∈ Y.2.2.2.2.1)
    (h1 : Cond.classLink Y.1 idx C ∈ Y.2.2.2.2.1) (h2 : Cond.instantiable C N ∈ Y.2.2.2.2.1) (h3 : Cond.initialized C ∈ Y.2.2.2.2.1) (hnr : sd_noref fs) (hfs : ∀ j, j < N → defaultValue (ty j) = vp_V (sd_fv (fun _ => 0) (fun _ => 0) 0 fs) j) (hR3 : Y.2.2.2.2.2.1.cells = Y.2.2.2.2.2.2.1) (hR4 : Y.2.2.2.2.2.1.slots = Y.2.2.2.2.2.2.2.1)
    (k : ∀ (ad2 : Nat → Nat) (L2 : Nat → sdL) (M2 : sdM), sd_ad b (n + 1) ad2 → sd_loc (n + 1) L2 → sd_up n L (n + 1) L2 → L2 n = sd_O ci fs → (∀ k, k < n → ad2 k = ad k) → M2 = va_up M n (fun _ => 0) → sdW l E Y D tys b (n + 1) ad2 L2 aF F Q X (pc + 3) loc (.ref n :: st) M2 rc rs) : sdW l E Y D tys b n ad L aF F Q X pc loc st M (rc + 1) (rs + N) := by
  intro p e s m args below meth c H locs ls cells slots hC hK hH hS hl hc hs
  refine va_new (ci := ci) (fs := sd_fv ad (fun _ => 0) 0 fs) hC.1.1 hC.1.2.1 hC.1.2.2.2.2 hin ty hty hC.1.2.2.2.1 (hC.1.2.2.2.2 _ h1) (hC.1.2.2.2.2 _ h2) (hC.1.2.2.2.2 _ h3) hK.1 hH.toP hA.toD hS (fun q h => Nat.le_trans hK.2.2.2.2.1 h) hc9 (by rw [sd_fv_noref (ad2 := fun _ => 0) fs 0 hnr]; exact hfs) (by rw [hR3]; omega) (by rw [hR4]; omega) d (fun q H1 hP1 hD1 hS1 => ?_)
  obtain ⟨g1, g2, g3, g4, g5⟩ := sd_grow (ly := sd_O ci fs) (f := fun _ => 0) hloc (fun a f => by show Sum.inr (ci, sd_fv a f 0 fs) = Sum.inr (ci, sd_fv ad f 0 fs); rw [sd_fv_noref (ad := a) (ad2 := ad) fs 0 hnr]) rfl hP1 hD1
  have key := k _ _ _ g2 g3 g4 (va_up_self _ _ _) g5 rfl p e s m args below meth c H1 locs ls (cells + 1) (slots + N) hC hK g1 hS1 (by rw [sd_l_ext g5 hb1]; exact hl) (by omega) (by omega)
  have hst : List.map (sd_v (va_up ad n q)) (.ref n :: st) = .ref q :: st.map (sd_v ad) := by
    rw [List.map_cons, sd_map_ext g5 hb2]
    show Value.ref (va_up ad n q n) :: _ = _
    rw [va_up_self]
  rw [hst] at key
  exact key
/-- a final field of the object that is being made gets a reference -/
theorem x_putr (j u : Nat) {t ci N : Nat} {fs : List (Option (Option Nat))} {C ref : String} {T : u_T} {idx : Nat} {ty : FieldType} (hA : sd_ad b n ad) (hi9 : ∀ (s : State) (m : MethodId) (meth : Method) (c : Code) (args : Array Value) (p : Program), sd_C Y p s m args meth c → meth.name = "<init>") (d : decode Y.2.1 pc = .ok (.putfield idx, 3)) (hn : t < n) (hL : L t = sd_O ci fs) (hj : j < fs.length) (hc9 : E.1[ci]? = some (C, T, N)) (hN : j < N) (hin : ∀ w ∈ u_ws C T N, w ∈ Y.2.2.2.2.1) (hlk : Cond.fieldLink Y.1 idx ref (T j).2.1 (T j).2.2.1 ∈ Y.2.2.2.2.1) (href : ref = (T j).1)
    (ty0 : Nat → FieldType) (hty : ∀ k, k < N → parseFieldDescriptor (T k).2.2.1 = some (ty0 k)) (hnm : ∀ a, a < N → ∀ b, b < N → a ≠ b → (T a).2.1 ≠ (T b).2.1) (hfin : (T j).2.2.2 = true) (hdecl : (T j).1 = Y.1) (hd : parseFieldDescriptor (T j).2.2.1 = some ty) (hnr : narrow ty (.ref (ad u)) = .ref (ad u)) (hft : fits ty (.ref (ad u)) = true)
    (k : sdW l E Y D tys b n ad (va_up L t (sd_O ci (fs.set j (some (some u))))) aF F Q X (pc + 3) loc st M rc rs) : sdW l E Y D tys b n ad L aF F Q X pc loc (.ref u :: .ref t :: st) M rc rs := by
  intro p e s m args below meth c H locs ls cells slots hC hK hH hS hl hc hs
  subst href
  have hG : (sd_G n ad L M)[t]? = some (ad t, .inr (ci, sd_fv ad (M t) 0 fs)) := by rw [sd_G_get hn, hL]; rfl
  refine va_putF (v := .ref (ad u)) hC.1.1 hC.1.2.1 hC.1.2.2.2.2 hin ty0 hty hnm hC.1.2.2.2.1 hK.1 hH.toP hA.toD hS t hG hc9 j hN (hC.1.2.2.2.2 _ hlk) (fun _ h => h) hfin (hi9 s m meth c args p hC) hdecl hd hnr hft (by rw [sd_fv_len]; exact hj) d (fun H1 locs1 hP1 _ hS1 => ?_)
  have hset : (sd_G n ad L M).set t (ad t, .inr (ci, (sd_fv ad (M t) 0 fs).set j (.ref (ad u)))) = sd_G n ad (va_up L t (sd_O ci (fs.set j (some (some u))))) M := by
    apply List.ext_getElem?
    intro i
    by_cases hi : i = t
    · subst hi
      rw [List.getElem?_set_self (by rw [sd_G_len]; exact hn), sd_G_get hn, va_up_self, sd_fv_setr]
      rfl
    · rw [List.getElem?_set_ne (Ne.symm hi)]
      by_cases h : i < n
      · rw [sd_G_get h, sd_G_get h, va_up_ne L _ hi]
      · rw [List.getElem?_eq_none (by rw [sd_G_len]; omega), List.getElem?_eq_none (by rw [sd_G_len]; omega)]
  rw [hset] at hP1
  exact k p e s m args below meth c H1 locs1 ls cells slots hC hK (sd_H.ofP hP1) hS1 hl hc hs
set_option maxHeartbeats 1000000 in
/-- a call of a constructor, that may leave another world -/
theorem x_callIg {Y' : sdY} {y : MethodName} {idx na t : Nat} {host : String} {As rest st0 : List Value} {F' : sdM → Heap → Prop} {Q' : Option Value → sdM → Prop} {X' : String → sdM → Prop}
    (hCn : sd_CnF l E y Y'.2.2.2.2.1 Y'.2.2.2.2.2.1 Y'.2.2.2.2.2.2.1 Y'.2.2.2.2.2.2.2.1 D tys b n ad L M (.ref t :: As) F' Q' X')
    (gws : GoodIn Y.2.2.2.2.1 Y'.2.2.2.2.1) (g2 : ∃ ws', Y'.2.2.2.2.1 = Cond.code y Y'.2.1 Y'.2.2.1 none :: ws') (hin9 : Cond.initialized y.cls ∈ Y.2.2.2.2.1) (him : Cond.instanceMethod y ∈ Y.2.2.2.2.1) (hlk : Cond.methodLink Y.1 idx y ∈ Y.2.2.2.2.1 ∨ Cond.methodLinkNest Y.1 idx y host ∈ E.2.1)
    (g7 : y.name = "<init>" ∧ y.cls ≠ "java/lang/invoke/MethodHandle" ∧ y.cls ≠ "java/lang/invoke/VarHandle" ∧ (parseMethodDescriptor y.desc).map (fun d => d.parameters.length) = some na)
    (g3 : Y'.2.2.2.2.2.1.cells = Y'.2.2.2.2.2.2.1 ∧ Y'.2.2.2.2.2.1.slots = Y'.2.2.2.2.2.2.2.1 ∧ Y.2.2.2.2.2.1.cells = Y.2.2.2.2.2.2.1 ∧ Y.2.2.2.2.2.1.slots = Y.2.2.2.2.2.2.2.1) (g8 : Y'.2.2.2.2.2.1.frames + 1 ≤ Y.2.2.2.2.2.1.frames ∧ 8 + (Y'.2.2.1 + 11) + Y'.2.2.2.2.2.1.locals ≤ Y.2.2.2.2.2.1.locals)
    (d : decode Y.2.1 pc = .ok (.invokespecial idx, 3)) (hna : As.length = na) (hst : st0 = As.reverse ++ .ref t :: rest) (hcat : (rest.map fun v => v.category).sum ≤ 8) (hX : ∀ E' M', X' E' M' → False)
    (k : ∀ (v : Option Value) (M' : sdM) (H1 : Heap), Q' v M' → F' M' H1 → v = none ∧ ∃ (n2 : Nat) (ad2 : Nat → Nat) (L2 : Nat → sdL), sd_H D E.1 n2 ad2 L2 M' H1 ∧ sd_l ad2 loc = sd_l ad loc ∧ rest.map (sd_v ad2) = rest.map (sd_v ad) ∧ sdW l E Y D tys b n2 ad2 L2 aF F Q X (pc + 3) loc rest M' rc rs) : sdW l E Y D tys b n ad L aF F Q X pc loc st0 M (rc + Y'.2.2.2.2.2.2.1) (rs + Y'.2.2.2.2.2.2.2.1) := by
  intro p e s m args below meth c H locs ls cells slots hC hK hH hS hl hc hs
  subst hst
  obtain ⟨ws', g2⟩ := g2
  obtain ⟨g3, g4, g5, g6⟩ := g3
  intro T hT X0
  subst hT
  obtain ⟨hy1, hy2, hy3, hy4⟩ := g7
  have hini : (Cond.initialized y.cls).before args s = true := hC.1.2.2.2.2 _ hin9
  have hinst : (Cond.instanceMethod y).before args s = true := hC.1.2.2.2.2 _ him
  have hcode : (Cond.code y Y'.2.1 Y'.2.2.1 none).before args s = true := hC.1.2.2.2.2 _ (gws _ (by rw [g2]; exact List.mem_cons_self)).1
  have hpl : e.platform.magicAccessors = ({} : Platform).magicAccessors := by rw [X0.admits.platform]
  have hlen : ∀ sig, parseMethodDescriptor y.desc = some sig → (As.map (sd_v ad)).length = sig.parameters.length := fun sig h => by
    rw [h] at hy4
    rw [List.length_map, hna]
    exact (Option.some.inj hy4).symm
  have hstk : (F0 m pc ls ((As.reverse ++ .ref t :: rest).map (sd_v ad))).stack = (As.map (sd_v ad)).reverse ++ .ref (ad t) :: rest.map (sd_v ad) := by
    show List.map (sd_v ad) (As.reverse ++ .ref t :: rest) = _
    simp [List.map_append, List.map_reverse, sd_v]
  have hstep : ∃ (mk : MethodId) (vm₁ : Vm), s.methodNamed? y = some mk ∧ s.WarmedH vm₁ ∧ ∀ target, (∀ acts, Steps p.tables e below (doInvoke e ((T.setVm vm₁).setTop { F0 m pc ls ((As.reverse ++ .ref t :: rest).map (sd_v ad)) with stack := rest.map (sd_v ad) }) acts mk (Value.ref (ad t) :: As.map (sd_v ad)).toArray).1 target) → Steps p.tables e below (T.setTop (F0 m pc ls ((As.reverse ++ .ref t :: rest).map (sd_v ad)))) target := by
    rcases hlk with hlk | hlk
    · obtain ⟨mk, methM, cM, kP, vm₁, hnamed, hmethM, hcodeM, -, hlocalsM, -, hkP, -, hW₁, hstep₁⟩ := Steps.initColdArgs (e := e) (f := F0 m pc ls ((As.reverse ++ .ref t :: rest).map (sd_v ad))) X0.here hC.1.1 X0.warmed hpl hC.1.2.2.2.1 hy1 ⟨hy2, hy3⟩ (hC.1.2.2.2.2 _ hlk) hinst hcode rfl hlen hstk (by rw [hC.1.2.1]; exact d)
      exact ⟨mk, vm₁, hnamed, hW₁, hstep₁⟩
    · obtain ⟨mk, methM, cM, kP, vm₁, hnamed, hmethM, hcodeM, -, hlocalsM, -, hkP, -, hW₁, hstep₁⟩ := Steps.initColdArgsNest (e := e) (f := F0 m pc ls ((As.reverse ++ .ref t :: rest).map (sd_v ad))) X0.here hC.1.1 X0.warmed hpl hC.1.2.2.2.1 hy1 ⟨hy2, hy3⟩ (va_Nw.use (hK.2.1 _ hlk).2.1 (hK.2.1 _ hlk).1) hinst hcode rfl hlen hstk (by rw [hC.1.2.1]; exact d)
      exact ⟨mk, vm₁, hnamed, hW₁, hstep₁⟩
  obtain ⟨mk, vm₁, hnamed, hW₁, st1⟩ := hstep
  have X₁ := X0.noted hW₁
  rcases sd_pay (g := { F0 m pc ls ((As.reverse ++ .ref t :: rest).map (sd_v ad)) with stack := rest.map (sd_v ad) }) (a := (Value.ref (ad t) :: As.map (sd_v ad)).toArray) hCn X₁ rfl (hl.1.trans hC.1.2.2.1.symm) (by rw [hC.1.2.1]; exact d) (X₁.named hnamed) (fun w hw => pay_in hC.1.2.2.2.2 gws w hw _ _ X₁.warmed) (pay_in hC.1.2.2.2.2 gws _ (by rw [g2]; exact List.mem_cons_self) _ _ X₁.warmed) (word_at X₁.warmed (Or.inl rfl) hini) g3 g4 g8.1 g8.2 (lv_room (rest := rest.map (sd_v ad)) (by rw [sd_cats]; exact hcat)) (by rw [g5]; omega) (by rw [g6]; omega) ⟨rfl, (hK.move X₁.warmed rfl hS).call, hH⟩ with ⟨v, M', T', L', St', hq, hF', hfr, hL', hst'⟩ | ⟨q, E', M', ce, T', L', St', hx, hF', hce, hcv, hcl, hfr, hL', hst'⟩
  · obtain ⟨rfl, n2, ad2, L2, hH2, e1, e2, k2⟩ := k v M' T'.heap hq hF'
    obtain ⟨t2, a1, b1⟩ := k2 p e s m args below meth c T'.heap (locs ++ L') ls (cells + Y'.2.2.2.2.2.2.1) (slots + Y'.2.2.2.2.2.2.2.1) hC hK hH2 (sd_S_next hS hfr hL') (by rw [e1]; exact hl) (by omega) (by omega) T' rfl St'
    refine ⟨t2, st1 _ (fun acts => ?_), b1⟩
    rw [doInvoke_state]
    rw [e2] at a1
    exact hst'.trans a1
  · exact (hX _ _ hx).elim
/-- the same, where the world stays but for the memory and the layout L2 -/
theorem x_callIv {Y' : sdY} {y : MethodName} {idx na t : Nat} {host : String} {As rest st0 : List Value} {L2 : Nat → sdL} {Q0 : sdM → Prop}
    (hCn : sd_CnF l E y Y'.2.2.2.2.1 Y'.2.2.2.2.2.1 Y'.2.2.2.2.2.2.1 Y'.2.2.2.2.2.2.2.1 D tys b n ad L M (.ref t :: As) (sd_H D E.1 n ad L2) (sd_qv Q0) sd_xf)
    (gws : GoodIn Y.2.2.2.2.1 Y'.2.2.2.2.1) (g2 : ∃ ws', Y'.2.2.2.2.1 = Cond.code y Y'.2.1 Y'.2.2.1 none :: ws') (hin9 : Cond.initialized y.cls ∈ Y.2.2.2.2.1) (him : Cond.instanceMethod y ∈ Y.2.2.2.2.1) (hlk : Cond.methodLink Y.1 idx y ∈ Y.2.2.2.2.1 ∨ Cond.methodLinkNest Y.1 idx y host ∈ E.2.1)
    (g7 : y.name = "<init>" ∧ y.cls ≠ "java/lang/invoke/MethodHandle" ∧ y.cls ≠ "java/lang/invoke/VarHandle" ∧ (parseMethodDescriptor y.desc).map (fun d => d.parameters.length) = some na)
    (g3 : Y'.2.2.2.2.2.1.cells = Y'.2.2.2.2.2.2.1 ∧ Y'.2.2.2.2.2.1.slots = Y'.2.2.2.2.2.2.2.1 ∧ Y.2.2.2.2.2.1.cells = Y.2.2.2.2.2.2.1 ∧ Y.2.2.2.2.2.1.slots = Y.2.2.2.2.2.2.2.1) (g8 : Y'.2.2.2.2.2.1.frames + 1 ≤ Y.2.2.2.2.2.1.frames ∧ 8 + (Y'.2.2.1 + 11) + Y'.2.2.2.2.2.1.locals ≤ Y.2.2.2.2.2.1.locals)
    (d : decode Y.2.1 pc = .ok (.invokespecial idx, 3)) (hna : As.length = na) (hst : st0 = As.reverse ++ .ref t :: rest) (hcat : (rest.map fun v => v.category).sum ≤ 8)
    (k : ∀ (M' : sdM), Q0 M' → sdW l E Y D tys b n ad L2 aF F Q X (pc + 3) loc rest M' rc rs) : sdW l E Y D tys b n ad L aF F Q X pc loc st0 M (rc + Y'.2.2.2.2.2.2.1) (rs + Y'.2.2.2.2.2.2.2.1) :=
  x_callIg hCn gws g2 hin9 him hlk g7 g3 g8 d hna hst hcat (fun _ _ h => h) (fun v M' H1 hq hF' => ⟨hq.1, n, ad, L2, hF', rfl, rfl, k M' hq.2⟩)
end
end
section
/-! the layouts' predicates in a world that has grown -/
theorem sd_nr {fs : List (Option (Option Nat))} (h : fs.all (fun q => q == none || q == some none) = true) : sd_noref fs := by
  intro q hq t e
  have h1 := List.all_eq_true.mp h q hq
  subst e
  simp at h1
section
variable {n n2 : Nat} {L L2 : Nat → sdL} {dA : Nat → ClassId}
theorem isI.up {c : ClassId} {t len : Nat} (h : isI n L c t len) (u : sd_up n L n2 L2) : isI n2 L2 c t len := ⟨Nat.lt_of_lt_of_le h.1 u.1, (u.2 _ h.1).trans h.2⟩
theorem isQ.up {c : ClassId} {t len : Nat} {g : Nat → Nat} (h : isQ n L c t len g) (u : sd_up n L n2 L2) : isQ n2 L2 c t len g := ⟨Nat.lt_of_lt_of_le h.1 u.1, (u.2 _ h.1).trans h.2⟩
theorem isT.up {o : Nat} (h : isT n L o) (u : sd_up n L n2 L2) : isT n2 L2 o := ⟨Nat.lt_of_lt_of_le h.1 u.1, (u.2 _ h.1).trans h.2⟩
theorem isF.up {o : Nat} (h : isF n L o) (u : sd_up n L n2 L2) : isF n2 L2 o := ⟨Nat.lt_of_lt_of_le h.1 u.1, (u.2 _ h.1).trans h.2⟩
theorem isR.up {o : Nat} (h : isR n L o) (u : sd_up n L n2 L2) : isR n2 L2 o := ⟨Nat.lt_of_lt_of_le h.1 u.1, (u.2 _ h.1).trans h.2⟩
theorem isS.up {o : Nat} (h : isS n L dA o) (u : sd_up n L n2 L2) : isS n2 L2 dA o := ⟨Nat.lt_of_lt_of_le h.1 u.1, (u.2 _ h.1).trans h.2.1, h.counts.up u, h.keys.up u, h.values.up u, h.given.up u⟩
theorem isN.up {o : Nat} (h : isN n L dA o) (u : sd_up n L n2 L2) : isN n2 L2 dA o := ⟨Nat.lt_of_lt_of_le h.1 u.1, (u.2 _ h.1).trans h.2.1, h.candidate.up u, h.base.up u⟩
theorem isC.up (h : isC n L dA) (u : sd_up n L n2 L2) : isC n2 L2 dA := ⟨Nat.lt_of_lt_of_le h.1 u.1, (u.2 _ h.1).trans h.2.1, h.leaves.up u, h.leafTable.up u, h.rules.up u, fun j hj => (h.2.2.2.2.2.1 j hj).up u, fun j hj => (h.2.2.2.2.2.2 j hj).up u⟩
theorem isD.up (h : isD n L dA) (u : sd_up n L n2 L2) : isD n2 L2 dA := ⟨Nat.lt_of_lt_of_le h.1 u.1, (u.2 _ h.1).trans h.2.1, h.schema.up u, h.running.up u, h.saved.up u, h.outcome.up u, h.older.up u, h.sessions.up u, h.trouble.up u, fun j hj => (h.2.2.2.2.2.2.2.2.2.1 j hj).up u, fun j hj => (h.2.2.2.2.2.2.2.2.2.2 j hj).up u⟩
theorem isG.up {o ca ba ru ou tr : Nat} (h : isG n L dA o ca ba ru ou tr) (u : sd_up n L n2 L2) : isG n2 L2 dA o ca ba ru ou tr := ⟨Nat.lt_of_lt_of_le h.1 u.1, (u.2 _ h.1).trans h.2.1, h.candidate.up u, h.base.up u, h.running.up u, h.outcome.up u, h.trouble.up u⟩
theorem isK.up {o se tr : Nat} (h : isK n L dA o se tr) (u : sd_up n L n2 L2) : isK n2 L2 dA o se tr := ⟨Nat.lt_of_lt_of_le h.1 u.1, (u.2 _ h.1).trans h.2.1, h.schema.up u, h.settings.up u, h.trouble.up u⟩
theorem isE.up {o ca ru : Nat} (h : isE n L dA o ca ru) (u : sd_up n L n2 L2) : isE n2 L2 dA o ca ru := ⟨Nat.lt_of_lt_of_le h.1 u.1, (u.2 _ h.1).trans h.2.1, h.candidate.up u, h.running.up u⟩
/-- one cell of the world is laid out anew: what lies below it stays -/
theorem sd_up_at {o : Nat} {ly : sdL} (h : o ≤ n) : sd_up o L n (va_up L o ly) := ⟨h, fun _ hk => va_up_ne L ly (Nat.ne_of_lt hk)⟩
theorem sd_loc_at {o : Nat} {ly : sdL} (h : sd_loc n L) (hly : ∀ (a a' : Nat → Nat) (f : Nat → Int32), (∀ t, t < n → a t = a' t) → ly a f = ly a' f) : sd_loc n (va_up L o ly) := fun k hk a a' f e => by
  by_cases h9 : k = o
  · subst h9; rw [va_up_self]; exact hly a a' f e
  · rw [va_up_ne L ly h9]; exact h k hk a a' f e
end
end
section
/-! new arrays -/
section
variable {l : Launch} {E : sdE} {Y : sdY} {D : va_G} {tys : List (ClassId × FieldType)} {b n : Nat} {ad : Nat → Nat} {L : Nat → sdL} {aF : Nat → Nat} {F : sdM → Heap → Prop} {Q : Option Value → sdM → Prop} {X : String → sdM → Prop}
variable {pc : Nat} {loc : List (Nat × Value)} {st : List Value} {M : sdM} {rc rs : Nat}
/-- new int[len], new boolean[len] -/
theorem x_newI {atype : ArrayType} {ty : FieldType} {t0 len : Nat} {cA : ClassId} {x : Int32} (hA : sd_ad b n ad) (hloc : sd_loc n L) (hb1 : ∀ q ∈ loc, sd_bel n q.2) (hb2 : ∀ v ∈ st, sd_bel n v) (d : decode Y.2.1 pc = .ok (.newarray atype, 2)) (hty : newarray.typeOf atype = ty) (hz : ty = .int ∨ ty = .boolean) (harr : Cond.arrayClass (newarray.typeOf atype) ∈ Y.2.2.2.2.1) (ht : tys[t0]? = some (cA, ty)) (hx : ¬ x < 0) (hN : x.toNatClampNeg = len) (hsz : len * componentBytes ty ≤ 536870912) (hR3 : Y.2.2.2.2.2.1.cells = Y.2.2.2.2.2.2.1) (hR4 : Y.2.2.2.2.2.1.slots = Y.2.2.2.2.2.2.2.1)
    (k : ∀ (ad2 : Nat → Nat) (M2 : sdM), sd_ad b (n + 1) ad2 → sd_loc (n + 1) (va_up L n (sd_I cA len)) → sd_up n L (n + 1) (va_up L n (sd_I cA len)) → (∀ k, k < n → ad2 k = ad k) → M2 = va_up M n (fun _ => 0) → sdW l E Y D tys b (n + 1) ad2 (va_up L n (sd_I cA len)) aF F Q X (pc + 2) loc (.ref n :: st) M2 rc rs) : sdW l E Y D tys b n ad L aF F Q X pc loc (.int x :: st) M (rc + 1) (rs + len) := by
  intro p e s m args below meth c H locs ls cells slots hC hK hH hS hl hc hs
  refine va_newa (a0 := (len, .inl (fun _ => 0))) hC.1.1 hC.1.2.1 (hC.1.2.2.2.2 _ harr) hty hK.1 hH.toP hA.toD hS (fun q h => Nat.le_trans hK.2.2.2.2.1 h) (fun cA9 => by rcases hz with rfl | rfl <;> rfl) hx hN hsz (by rw [hR3]; omega) (by rw [hR4]; omega) d (fun q cA9 H1 hK1 hP1 hD1 hS1 => ?_)
  have he : cA9 = cA := by
    have h1 := (hK1.2 tys.length (cA9, ty) (by rw [List.getElem?_append_right (Nat.le_refl _), Nat.sub_self]; rfl)).2
    have h2 := (hK.1.2 t0 (cA, ty) ht).2
    rcases hz with rfl | rfl <;> exact Option.some.inj (h1.symm.trans h2)
  subst he
  obtain ⟨g1, g2, g3, g4, g5⟩ := sd_grow (ly := sd_I cA9 len) (f := fun _ => 0) hloc (fun a f => rfl) rfl hP1 hD1
  have key := k _ _ g2 g3 g4 g5 rfl p e s m args below meth c H1 locs ls (cells + 1) (slots + len) hC hK g1 hS1 (by rw [sd_l_ext g5 hb1]; exact hl) (by omega) (by omega)
  have hst : List.map (sd_v (va_up ad n q)) (.ref n :: st) = .ref q :: st.map (sd_v ad) := by
    rw [List.map_cons, sd_map_ext g5 hb2]
    show Value.ref (va_up ad n q n) :: _ = _
    rw [va_up_self]
  rw [hst] at key
  exact key
end
/-- an array of references that is being filled -/
def sd_P (c : ClassId) (n : Nat) (g : Nat → Option Nat) : sdL := fun ad _ => .inl (c, n, .inr (.inr (.inr (.inr (fun j => (g j).map ad)))))
section
variable {l : Launch} {E : sdE} {Y : sdY} {D : va_G} {tys : List (ClassId × FieldType)} {b n : Nat} {ad : Nat → Nat} {L : Nat → sdL} {aF : Nat → Nat} {F : sdM → Heap → Prop} {Q : Option Value → sdM → Prop} {X : String → sdM → Prop}
variable {pc : Nat} {loc : List (Nat × Value)} {st : List Value} {M : sdM} {rc rs : Nat}
/-- new C[len] -/
theorem x_newQ {C : String} {idx t0 len : Nat} {cA : ClassId} {x : Int32} (hA : sd_ad b n ad) (hloc : sd_loc n L) (hb1 : ∀ q ∈ loc, sd_bel n q.2) (hb2 : ∀ v ∈ st, sd_bel n v) (d : decode Y.2.1 pc = .ok (.anewarray idx, 3)) (h1 : Cond.classLink Y.1 idx C ∈ Y.2.2.2.2.1) (h2 : Cond.arrayOver (.object C) ∈ E.2.1) (ht : tys[t0]? = some (cA, .object C)) (hx : ¬ x < 0) (hN : x.toNatClampNeg = len) (hsz : len * 4 ≤ 536870912) (hR3 : Y.2.2.2.2.2.1.cells = Y.2.2.2.2.2.2.1) (hR4 : Y.2.2.2.2.2.1.slots = Y.2.2.2.2.2.2.2.1)
    (k : ∀ (ad2 : Nat → Nat) (M2 : sdM), sd_ad b (n + 1) ad2 → sd_loc (n + 1) (va_up L n (sd_P cA len (fun _ => none))) → sd_up n L (n + 1) (va_up L n (sd_P cA len (fun _ => none))) → (∀ k, k < n → ad2 k = ad k) → M2 = va_up M n (fun _ => 0) → sdW l E Y D tys b (n + 1) ad2 (va_up L n (sd_P cA len (fun _ => none))) aF F Q X (pc + 3) loc (.ref n :: st) M2 rc rs) : sdW l E Y D tys b n ad L aF F Q X pc loc (.int x :: st) M (rc + 1) (rs + len) := by
  intro p e s m args below meth c H locs ls cells slots hC hK hH hS hl hc hs
  refine va_newq hC.1.1 hC.1.2.1 hC.1.2.2.2.1 (hC.1.2.2.2.2 _ h1) (hK.2.1 _ h2).1 hK.1 hH.toP hA.toD hS (fun q h => Nat.le_trans hK.2.2.2.2.1 h) hx hN hsz (by rw [hR3]; omega) (by rw [hR4]; omega) d (fun q cA9 H1 hK1 hP1 hD1 hS1 => ?_)
  have he : cA9 = cA := by
    obtain ⟨_, _, _, _, _, g4⟩ := (hK1.2 tys.length (cA9, .object C) (by rw [List.getElem?_append_right (Nat.le_refl _), Nat.sub_self]; rfl)).2
    obtain ⟨_, _, _, _, _, g5⟩ := (hK.1.2 t0 (cA, .object C) ht).2
    exact Option.some.inj (g4.symm.trans g5)
  subst he
  obtain ⟨g1, g2, g3, g4, g5⟩ := sd_grow (ly := sd_P cA9 len (fun _ => none)) (f := fun _ => 0) hloc (fun a f => rfl) rfl hP1 hD1
  have key := k _ _ g2 g3 g4 g5 rfl p e s m args below meth c H1 locs ls (cells + 1) (slots + len) hC hK g1 hS1 (by rw [sd_l_ext g5 hb1]; exact hl) (by omega) (by omega)
  have hst : List.map (sd_v (va_up ad n q)) (.ref n :: st) = .ref q :: st.map (sd_v ad) := by
    rw [List.map_cons, sd_map_ext g5 hb2]
    show Value.ref (va_up ad n q n) :: _ = _
    rw [va_up_self]
  rw [hst] at key
  exact key
/-- a reference into such an array -/
theorem x_aast {t u t0 len ci N : Nat} {cA : ClassId} {C : String} {T : u_T} {fs : List (Option (Option Nat))} {g : Nat → Option Nat} {i : Int32} (hA : sd_ad b n ad) (d : decode Y.2.1 pc = .ok (.aastore, 1)) (hn : t < n) (hL : L t = sd_P cA len g) (hn2 : u < n) (hL2 : L u = sd_O ci fs) (hc9 : E.1[ci]? = some (C, T, N)) (ht : tys[t0]? = some (cA, .object C)) (hi : vp_in i len)
    (k : sdW l E Y D tys b n ad (va_up L t (sd_P cA len (va_up g i.toNatClampNeg (some u)))) aF F Q X (pc + 1) loc st M rc rs) : sdW l E Y D tys b n ad L aF F Q X pc loc (.ref u :: .int i :: .ref t :: st) M rc rs := by
  intro p e s m args below meth c H locs ls cells slots hC hK hH hS hl hc hs
  have hG : (sd_G n ad L M)[t]? = some (ad t, .inl (cA, len, .inr (.inr (.inr (.inr (fun j => (g j).map ad)))))) := by rw [sd_G_get hn, hL]; rfl
  have hG2 : (sd_G n ad L M)[u]? = some (ad u, .inr (ci, sd_fv ad (M u) 0 fs)) := by rw [sd_G_get hn2, hL2]; rfl
  refine va_astq (r := (C, T, N)) hC.1.1 hC.1.2.1 hK.1 hH.toP hA.toD hS t t0 u ci hG ht hG2 hc9 hi d (fun H1 locs1 hP1 _ hS1 => ?_)
  have hset : (sd_G n ad L M).set t (ad t, .inl (cA, len, .inr (.inr (.inr (.inr (va_up (fun j => (g j).map ad) i.toNatClampNeg (some (ad u)))))))) = sd_G n ad (va_up L t (sd_P cA len (va_up g i.toNatClampNeg (some u)))) M := by
    apply List.ext_getElem?
    intro q
    by_cases hq : q = t
    · subst hq
      rw [List.getElem?_set_self (by rw [sd_G_len]; exact hn), sd_G_get hn, va_up_self]
      have hf : (va_up (fun j => (g j).map ad) i.toNatClampNeg (some (ad u))) = (fun j => (va_up g i.toNatClampNeg (some u) j).map ad) := by
        funext j
        by_cases hj : j = i.toNatClampNeg
        · subst hj; rw [va_up_self, va_up_self]; rfl
        · rw [va_up_ne _ _ hj, va_up_ne _ _ hj]
      rw [hf]
      rfl
    · rw [List.getElem?_set_ne (Ne.symm hq)]
      by_cases h : q < n
      · rw [sd_G_get h, sd_G_get h, va_up_ne L _ hq]
      · rw [List.getElem?_eq_none (by rw [sd_G_len]; omega), List.getElem?_eq_none (by rw [sd_G_len]; omega)]
  rw [hset] at hP1
  exact k p e s m args below meth c H1 locs1 ls cells slots hC hK (sd_H.ofP hP1) hS1 hl hc hs
end
section
variable {n n2 : Nat} {L L2 : Nat → sdL} {dA : Nat → ClassId}
theorem isI.cg {c : ClassId} {t len : Nat} (h : isI n L c t len) (hn : n ≤ n2) (he : L2 t = L t) : isI n2 L2 c t len := ⟨Nat.lt_of_lt_of_le h.1 hn, he.trans h.2⟩
theorem isS.cg {o : Nat} (h : isS n L dA o) (hn : n ≤ n2) (he : ∀ k, o ≤ k → k ≤ o + 4 → L2 k = L k) : isS n2 L2 dA o :=
  ⟨Nat.lt_of_lt_of_le h.1 hn, (he _ (by omega) (by omega)).trans h.2.1, h.counts.cg hn (he _ (by omega) (by omega)), h.keys.cg hn (he _ (by omega) (by omega)), h.values.cg hn (he _ (by omega) (by omega)), h.given.cg hn (he _ (by omega) (by omega))⟩
theorem isN.cg {o : Nat} (h : isN n L dA o) (hn : n ≤ n2) (he : ∀ k, o ≤ k → k ≤ o + 10 → L2 k = L k) : isN n2 L2 dA o :=
  ⟨Nat.lt_of_lt_of_le h.1 hn, (he _ (by omega) (by omega)).trans h.2.1, h.candidate.cg hn (fun k h1 h2 => he k (by omega) (by omega)), h.base.cg hn (fun k h1 h2 => he k (by omega) (by omega))⟩
theorem isC.cg (h : isC n L dA) (hn : n ≤ n2) (he : ∀ k, 1 ≤ k → k ≤ 24 → L2 k = L k) : isC n2 L2 dA :=
  ⟨Nat.lt_of_lt_of_le h.1 hn, (he _ (by omega) (by omega)).trans h.2.1, h.leaves.cg hn (he _ (by omega) (by omega)), ⟨Nat.lt_of_lt_of_le h.leafTable.1 hn, (he _ (by omega) (by omega)).trans h.leafTable.2⟩, ⟨Nat.lt_of_lt_of_le h.rules.1 hn, (he _ (by omega) (by omega)).trans h.rules.2⟩, fun j hj => ⟨Nat.lt_of_lt_of_le (h.2.2.2.2.2.1 j hj).1 hn, (he _ (by omega) (by omega)).trans (h.2.2.2.2.2.1 j hj).2⟩, fun j hj => ⟨Nat.lt_of_lt_of_le (h.2.2.2.2.2.2 j hj).1 hn, (he _ (by omega) (by omega)).trans (h.2.2.2.2.2.2 j hj).2⟩⟩
end
/-- one cell's content under another layout -/
theorem sd_H_at {D : va_G} {cl : List vw_C} {n t : Nat} {ad : Nat → Nat} {L : Nat → sdL} {M : sdM} {H : Heap} {ly : sdL} (h : sd_H D cl n ad L M H) (he : t < n → va_at D cl (ad t, L t ad (M t)) H → va_at D cl (ad t, ly ad (M t)) H) : sd_H D cl n ad (va_up L t ly) M H := fun k hk => by
  by_cases hkt : k = t
  · subst hkt; rw [va_up_self]; exact he hk (h k hk)
  · rw [va_up_ne L ly hkt]; exact h k hk
/-- a filled array of references -/
theorem sd_full {D : va_G} {cl : List vw_C} {a len : Nat} {ad : Nat → Nat} {f : Nat → Int32} {H : Heap} {c : ClassId} {g : Nat → Option Nat} {g2 : Nat → Nat} (hg : ∀ j, j < len → g j = some (g2 j)) (h : va_at D cl (a, sd_P c len g ad f) H) : va_at D cl (a, sd_Q c len g2 ad f) H := by
  have h1 : H[a]? = some (arrV c len (fun j => va_rf ((g j).map ad))) := h
  show H[a]? = some (arrV c len (fun j => va_rf (if j < len then some (ad (g2 j)) else none)))
  rw [h1]
  have h2 : arrV c len (fun j => va_rf ((g j).map ad)) = arrV c len (fun j => va_rf (if j < len then some (ad (g2 j)) else none)) := by
    unfold arrV
    congr 1
    apply congrArg
    funext j
    show va_rf ((g j.val).map ad) = va_rf (if j.val < len then some (ad (g2 j.val)) else none)
    rw [hg j.val j.isLt, if_pos j.isLt]
    rfl
  rw [h2]
def sd_Pl (n : Nat) (g : Nat → Option Nat) : Prop := ∀ j t, g j = some t → t < n
theorem sd_Pl_none {n : Nat} : sd_Pl n (fun _ => none) := fun _ _ h => nomatch h
theorem sd_Pl_up {n i t : Nat} {g : Nat → Option Nat} (h : sd_Pl n g) (ht : t < n) : sd_Pl n (va_up g i (some t)) := fun j u e => by
  by_cases hj : j = i
  · subst hj
    rw [va_up_self] at e
    cases e
    exact ht
  · rw [va_up_ne g _ hj] at e
    exact h j u e
theorem sd_P_loc {n len : Nat} {c : ClassId} {g : Nat → Option Nat} (h : sd_Pl n g) : ∀ (a a' : Nat → Nat) (f : Nat → Int32), (∀ t, t < n → a t = a' t) → sd_P c len g a f = sd_P c len g a' f := fun a a' f e => by
  have hf : (fun j => (g j).map a) = (fun j => (g j).map a') := by
    funext j
    cases hg : g j with
    | none => rfl
    | some t => show some (a t) = some (a' t); rw [e t (h j t hg)]
  unfold sd_P
  rw [hf]
theorem sd_Q_loc {n len : Nat} {c : ClassId} {g : Nat → Nat} (h : ∀ j, j < len → g j < n) : ∀ (a a' : Nat → Nat) (f : Nat → Int32), (∀ t, t < n → a t = a' t) → sd_Q c len g a f = sd_Q c len g a' f := fun a a' f e => by
  have hf : (fun j => if j < len then some (a (g j)) else none) = (fun j => if j < len then some (a' (g j)) else none) := by
    funext j
    by_cases hj : j < len
    · rw [if_pos hj, if_pos hj, e _ (h j hj)]
    · rw [if_neg hj, if_neg hj]
  unfold sd_Q
  rw [hf]
end
section
/-! what is thrown and caught in a method's own table -/
theorem sd_go {e : Env} {s : State} {args : Array Value} {own A : String} {g : JFrame} {a : Addr} {ce : Cell} {hpc : Nat} (hpl : e.platform.magicAccessors = ({} : Platform).magicAccessors) (hown : s.vm.findClass own = some g.method.cls) (hcv : ce.vm = .none) (hA : s.vm.findClass A = some ce.cls) :
    ∀ (hs : List ((Nat × Nat × Nat × Nat) × String)) (u : State), s.WarmedH u.vm → u.heap[a]? = some ce →
      (∀ q ∈ hs, covers ⟨q.1.1, q.1.2.1, q.1.2.2.1, q.1.2.2.2⟩ g.pc = true ∧ q.1.2.2.2 ≠ 0 ∧ (Cond.classLink own q.1.2.2.2 q.2).before args s = true ∧ (q.2 ≠ A → ∀ cB, s.vm.findClass q.2 = some cB → s.vm.assignable ce.cls cB = false)) →
      (hs.find? (fun q => q.2 == A)).map (fun q => q.1.2.2.1) = some hpc →
      ∃ vm', s.WarmedH vm' ∧ ∀ (Q : Handler → Pre) (E : CtlPost) (d : Bool) (acts : List Action), wp (findHandler.go g a (tableOf (hs.map (·.1)))) Q E e d acts u ↔ Q (.found hpc) d acts (u.setVm vm')
  | [], u, hW, ha, hq, hf => by simp at hf
  | (⟨x1, x2, x3, x4⟩, nm) :: t, u, hW, ha, hq, hf => by
    obtain ⟨h1, h2, h3, h4⟩ := hq _ List.mem_cons_self
    obtain ⟨cB, hcB, hcl⟩ := Cond.classLink_spec hown h3 e.platform hpl
    obtain ⟨dk, _, _, kt, hd, _, _, _, _, hkt, _, hopen⟩ := hcl.here
    have hcl₀ := hW.classLinks hcl
    have hW' : s.WarmedH (u.vm.noted g.method.cls x4 (.cls cB)) := hW.noted hd hopen (State.rightAt_cls hcl)
    obtain ⟨o1, o2⟩ := (resolveClass_links e.toSetting hcl₀).op (op := VmOp.resolveClass g.method.cls x4) rfl
    obtain ⟨k1, hk1⟩ := Vm.classAt_of_findClass hA
    obtain ⟨k1', hk1', -⟩ := hW'.alike.2.2 _ _ hk1
    obtain ⟨k2', hk2', -⟩ := hW'.alike.2.2 _ _ hkt
    have hobj : ∀ k, ce.vm ≠ .statics k := fun k hk => by rw [hcv] at hk; cases hk
    simp only [covers] at h1
    have h2' : ¬ x4 = 0 := h2
    by_cases he : nm = A
    · subst he
      cases hA.symm.trans hcB
      have hfit : (u.vm.noted g.method.cls x4 (.cls ce.cls)).assignable ce.cls ce.cls = true := by
        show Vm.assignableAux _ (255 + 1) ce.cls ce.cls = true
        rw [Vm.assignableAux, Bool.or_eq_true]
        exact Or.inl (beq_self_eq_true _)
      have hh : x3 = hpc := by simpa [List.find?] using hf
      refine ⟨_, hW', fun Q E d acts => ?_⟩
      simp [tableOf, findHandler.go, h1, h2', o1, o2, ha, hobj, hk1', hk2', hfit, VmOp.dirties, VmOp.acts, hh]
    · have hfit : (u.vm.noted g.method.cls x4 (.cls cB)).assignable ce.cls cB = false := by rw [hW'.alike.assignable]; exact h4 he cB hcB
      have hb : (nm == A) = false := by simpa using he
      rw [List.find?_cons, hb] at hf
      obtain ⟨vm', w1, w2⟩ := sd_go hpl hown hcv hA t (u.setVm (u.vm.noted g.method.cls x4 (.cls cB))) hW' ha (fun q h => hq q (List.mem_cons_of_mem _ h)) hf
      refine ⟨vm', w1, fun Q E d acts => ?_⟩
      have w3 := w2 Q E d acts
      refine Iff.trans ?_ w3
      simp [tableOf, findHandler.go, h1, h2', o1, o2, ha, hobj, hk1', hk2', hfit, VmOp.dirties, VmOp.acts]
theorem sd_caught {p : Program} {l : Launch} {e : Env} {R : Room} {s : State} {m : MethodId} {args : Array Value} {below : List Frame} {meth : Method} {c : Code} {T : State} {locs : List Loc} {cells slots : Nat} {g : JFrame} {a : Addr} {pc : Nat} {vm' : Vm} {target : State} (X : Stand p l e R s m args below meth c T locs cells slots) (hg : g.method = m)
    (hfind : ∀ (Q : Handler → Pre) (E : CtlPost) (d : Bool) (acts : List Action), wp (findHandler g a) Q E e d acts ((T.setTop g).pushFrame (.throwing a)) ↔ Q (.found pc) d acts (((T.setTop g).pushFrame (.throwing a)).setVm vm'))
    (hrest : Steps p.tables e below ((T.setVm vm').setTop { g with pc := pc, stack := [.ref a] }) target) : Steps p.tables e below ((T.setTop g).pushFrame (.throwing a)) target := by
  have h : At T g.method c below := by rw [hg]; exact X.here
  obtain ⟨hgo, hw⟩ := h.throwing a
  refine Steps.head hgo hw ?_
  have hst : ∀ r, (stepThrowing e ((T.setTop g).pushFrame (.throwing a)) a (.java g :: r)).1 = (((T.setTop g).pushFrame (.throwing a)).setVm vm').setFrames (.java { g with pc := pc, stack := [.ref a] } :: r) := by
    intro r
    simp only [stepThrowing, searchFrame, vmDo]
    generalize hr : Sem.go _ e false [] _ = res
    obtain ⟨as, rfl, ha⟩ := Sem.eq_ok_of hr (a := Handler.found pc) (s' := ((T.setTop g).pushFrame (.throwing a)).setVm vm') (acts' := []) (by simp [hfind _ _ _ _])
    rfl
  rw [stepThread_throwing (frames_entered h.top _), hst]
  obtain ⟨g₀, hg0⟩ := Option.isSome_iff_exists.mp h.top
  obtain ⟨r, hr⟩ := State.topJava?_eq_some.mp hg0
  have hr' : (T.setVm vm').frames = .java g₀ :: r := hr
  rw [State.setTop_of_frames _ hr'] at hrest
  have sw : ∀ (u : State) (F G : List Frame), ((u.setFrames F).setVm vm').setFrames G = (u.setVm vm').setFrames G := fun u F G => by
    rw [show (u.setFrames F).setVm vm' = (u.setVm vm').setFrames F from rfl, State.setFrames_setFrames]
  rw [hr, List.tail_cons, State.pushFrame, sw, State.setTop_of_frames _ hr, sw]
  exact hrest
theorem lv_tl {ls : Array Slot} {nL : Nat} {q : Nat × Value} {r : List (Nat × Value)} (h : lv_has ls nL (q :: r)) : lv_has ls nL r := ⟨h.1, h.2.1, fun x hx => h.2.2 x (List.mem_cons_of_mem _ hx)⟩
section
variable {l : Launch} {E : sdE} {Y : sdY} {D : va_G} {tys : List (ClassId × FieldType)} {b n : Nat} {ad : Nat → Nat} {L : Nat → sdL} {aF : Nat → Nat} {F : sdM → Heap → Prop} {Q : Option Value → sdM → Prop} {X : String → sdM → Prop}
variable {pc : Nat} {loc : List (Nat × Value)} {st : List Value} {M : sdM} {rc rs : Nat}
/-- the handler's first instruction lays what was caught away -/
def sd_as (cc : ByteArray) (hpc i nx : Nat) : Prop := (∃ f : Fin 4, decode cc hpc = .ok (.astore_n f, 1) ∧ (f : Nat) = i ∧ nx = hpc + 1) ∨ (decode cc hpc = .ok (.astore i, 2) ∧ nx = hpc + 2)
/-- a call of a virtual method under a table of handlers that cover it -/
theorem x_callVc {Y' : sdY} {y : MethodName} {idx na : Nat} {As rest st0 : List Value} {Q' : Option Value → sdM → Prop} {X' : String → sdM → Prop} {t ci N : Nat} {fs : List (Option (Option Nat))} {C : String} {T : u_T} (hs : List ((Nat × Nat × Nat × Nat) × String)) (htb : Y.2.2.2.2.2.2.2.2 = hs.map (·.1)) (hhs : ∀ q ∈ hs, covers ⟨q.1.1, q.1.2.1, q.1.2.2.1, q.1.2.2.2⟩ pc = true ∧ q.1.2.2.2 ≠ 0 ∧ Cond.classLink Y.1 q.1.2.2.2 q.2 ∈ Y.2.2.2.2.1 ∧ q.2 ∈ sdEx4)
    (hCn : sd_Cn l E y Y'.2.2.2.2.1 Y'.2.2.2.2.2.1 Y'.2.2.2.2.2.2.1 Y'.2.2.2.2.2.2.2.1 D tys b n ad L M (.ref t :: As) Q' X') (hcw : sd_cwV Y Y' y idx na C) (hn : t < n) (hL : L t = sd_O ci fs) (hc9 : E.1[ci]? = some (C, T, N)) (d : decode Y.2.1 pc = .ok (.invokevirtual idx, 3)) (hna : As.length = na) (hst : st0 = As.reverse ++ .ref t :: rest) (hcat : (rest.map fun v => v.category).sum ≤ 8)
    (kc : ∀ E' M', X' E' M' → E' ∈ sdEx4 ∧ ∃ hpc i nx, (hs.find? (fun q => q.2 == E')).map (fun q => q.1.2.2.1) = some hpc ∧ sd_as Y.2.1 hpc i nx ∧ i < Y.2.2.1 ∧ sdW l E Y D tys b n ad L aF F Q X nx (loc.filter (fun q => !(q.1 == i) && !(q.1 + 1 == i && q.2.category == 2))) [] M' rc rs)
    (k : ∀ (v : Option Value) (M' : sdM), Q' v M' → sdW l E Y D tys b n ad L aF F Q X (pc + 3) loc (v.toList ++ rest) M' rc rs) : sdW l E Y D tys b n ad L aF F Q X pc loc st0 M (rc + Y'.2.2.2.2.2.2.1) (rs + Y'.2.2.2.2.2.2.2.1) := by
  intro p e s m args below meth c H locs ls cells slots hC hK hH hS hl hc hs9
  subst hst
  obtain ⟨g1, ⟨ws', g2⟩, ⟨g3, g4, g5, g6⟩, g7, g8⟩ := hcw
  intro T hT X0
  subst hT
  have hat := hH t hn
  rw [hL] at hat
  have gws : GoodIn Y.2.2.2.2.1 Y'.2.2.2.2.1 := fun w h => g1 w (by unfold wsV; exact List.mem_append_right _ h)
  have ok : ∀ w ∈ wsV Y.1 idx C y Y'.2.2.2.2.1, w.before args s = true := fun w h => hC.1.2.2.2.2 w (g1 w h).1
  obtain ⟨rfl, hy1, hy2, hy3⟩ := g7
  have hini : (Cond.initialized y.cls).before args s = true := ok _ (by simp [wsV])
  have hinst : (Cond.instanceMethod y).before args s = true := ok _ (by simp [wsV])
  have hsel : (Cond.selects y.cls y y).before args s = true := ok _ (by simp [wsV])
  have hcode : (Cond.code y Y'.2.1 Y'.2.2.1 Y'.2.2.2.1).before args s = true := hC.1.2.2.2.2 _ (gws _ (by rw [g2]; exact List.mem_cons_self)).1
  obtain ⟨cellB, hcB, hoB, hclB⟩ := va_recv (q0 := 0) (a := ad t) (fs := sd_fv ad (M t) 0 fs) hK.1 (sd_one hat) hc9 rfl
  obtain ⟨mk, methM, hnamed, hmethM, hstM, habM⟩ := Cond.instanceMethod_spec hinst
  obtain ⟨methM', cM, hmethM', -, -, -, -, -, -, hsigM⟩ := Cond.code_spec hnamed hcode
  cases hmethM.symm.trans hmethM'
  obtain ⟨c2, r2, m2, q1, q2, q3, q4, kP, hkP, hkPi⟩ := Cond.selects_spec hsel
  cases hclB.symm.trans q1
  cases (State.methodFound?_of_named hnamed ⟨hy1, hy2⟩).symm.trans q2
  cases hnamed.symm.trans q3
  have hlen : (As.map (sd_v ad)).length = methM.sig.parameters.length := by
    rw [hsigM] at hy3
    rw [List.length_map, hna]
    exact (Option.some.inj hy3).symm
  obtain ⟨vm₁, X₁, st1⟩ := X0.invokevirtual hC.1.1 hC.1.2.2.2.1 (ok (.methodLink Y.1 idx y) (by simp [wsV])) hnamed hmethM hstM hkP hkPi ⟨hy1, hy2⟩ (a := ad t) (cell := cellB) hcB
    (fun z h => by rw [h] at hoB; cases hoB) (by rw [Launch.admits_selectMethod X0.admits]; exact q4) hmethM habM hkP hkPi (g := F0 m pc ls ((As.reverse ++ .ref t :: rest).map (sd_v ad))) rfl (argsL := As.map (sd_v ad)) (rest := rest.map (sd_v ad)) hlen (by show List.map (sd_v ad) (As.reverse ++ .ref t :: rest) = _; simp [List.map_append, List.map_reverse, sd_v]) (by rw [hC.1.2.1]; exact d)
  rcases sd_pay hCn X₁ rfl (hl.1.trans hC.1.2.2.1.symm) (by rw [hC.1.2.1]; exact d) (X₁.named hnamed) (fun w hw => pay_in hC.1.2.2.2.2 gws w hw _ _ X₁.warmed) (pay_in hC.1.2.2.2.2 gws _ (by rw [g2]; exact List.mem_cons_self) _ _ X₁.warmed) (word_at X₁.warmed (Or.inl rfl) hini) g3 g4 g8.1 g8.2 (lv_room (rest := rest.map (sd_v ad)) (by rw [sd_cats]; exact hcat)) (by rw [g5]; omega) (by rw [g6]; omega) ⟨rfl, (hK.move X₁.warmed rfl hS).call, hH⟩ with ⟨v, M', T', L', St', hq, hF', hfr, hL', hst'⟩ | ⟨q, E', M', ce, T', L', St', hx, hF', hce, hcv, hcl, hfr, hL', hst'⟩
  · obtain ⟨t2, a1, b1⟩ := k v M' hq p e s m args below meth c T'.heap (locs ++ L') ls (cells + Y'.2.2.2.2.2.2.1) (slots + Y'.2.2.2.2.2.2.2.1) hC hK hF' (sd_S_next hS hfr hL') hl (by omega) (by omega) T' rfl St'
    refine ⟨t2, st1 _ (fun acts => ?_), b1⟩
    rw [doInvoke_state]
    refine hst'.trans ?_
    cases v <;> exact a1
  · obtain ⟨hE4, hpc, i, nx, hfd, hAs, hi, kk⟩ := kc E' M' hx
    have hcl' : s.vm.findClass E' = some ce.cls := by rw [← X₁.warmed.alike.findClass]; exact hcl
    have hpl : e.platform.magicAccessors = ({} : Platform).magicAccessors := by rw [St'.admits.platform]
    obtain ⟨vm', w1, w2⟩ := sd_go (g := { F0 m pc ls (rest.map (sd_v ad)) with pc := pc }) (a := q) (args := args) hpl hC.1.2.2.2.1 hcv hcl' hs (((T'.setTop (F0 m pc ls (rest.map (sd_v ad)))).pushFrame (.throwing q))) (by rw [Stand.throwing_vm]; exact St'.warmed) (by rw [Stand.throwing_heap]; exact hce)
      (fun q9 h9 => ⟨(hhs q9 h9).1, (hhs q9 h9).2.1, hC.1.2.2.2.2 _ (hhs q9 h9).2.2.1, fun hne cB hcB => hK.2.2.2.2.2.2 _ hE4 _ (hhs q9 h9).2.2.2 (Ne.symm hne) _ _ hcl' hcB⟩) hfd
    have St2 := St'.noted w1
    have hfin : W p l e Y.2.2.2.2.2.1 s m args below meth c T'.heap (locs ++ L') (cells + Y'.2.2.2.2.2.2.1) (slots + Y'.2.2.2.2.2.2.2.1) (sd_Z b aF F Q X Y.2.2.2.2.2.2.1 Y.2.2.2.2.2.2.2.1 below args s) (F0 m hpc ls [.ref q]) := by
      rcases hAs with ⟨f, d9, hf9, rfl⟩ | ⟨d9, rfl⟩
      · refine lv_astore_n hC.1.1 hC.1.2.1 d9 hf9 hl hi rfl (fun ls' hl' => ?_)
        rw [sd_l_flt] at hl'
        exact kk p e s m args below meth c T'.heap (locs ++ L') ls' (cells + Y'.2.2.2.2.2.2.1) (slots + Y'.2.2.2.2.2.2.2.1) hC hK hF' (sd_S_next hS hfr hL') (lv_tl hl') (by omega) (by omega)
      · refine lv_astore hC.1.1 hC.1.2.1 d9 hl hi rfl (fun ls' hl' => ?_)
        rw [sd_l_flt] at hl'
        exact kk p e s m args below meth c T'.heap (locs ++ L') ls' (cells + Y'.2.2.2.2.2.2.1) (slots + Y'.2.2.2.2.2.2.2.1) hC hK hF' (sd_S_next hS hfr hL') (lv_tl hl') (by omega) (by omega)
    obtain ⟨t2, a1, b1⟩ := hfin (T'.setVm vm') rfl St2
    refine ⟨t2, st1 _ (fun acts => ?_), b1⟩
    rw [doInvoke_state]
    refine hst'.trans (sd_caught (g := F0 m pc ls (rest.map (sd_v ad))) St' rfl (fun Q9 E9 d9 acts9 => ?_) a1)
    rw [W.findHandler_eq (meth := meth) (code := c) (by rw [Stand.throwing_vm]; exact St'.method') St'.code, hC.2.2.2.1, htb]
    exact w2 Q9 E9 d9 acts9
theorem x_callVci {Y' : sdY} {y : MethodName} {idx na : Nat} {As rest st0 : List Value} {Q0 : Int32 → sdM → Prop} {X' : String → sdM → Prop} {t ci N : Nat} {fs : List (Option (Option Nat))} {C : String} {T : u_T} (hs : List ((Nat × Nat × Nat × Nat) × String)) (htb : Y.2.2.2.2.2.2.2.2 = hs.map (·.1)) (hhs : ∀ q ∈ hs, covers ⟨q.1.1, q.1.2.1, q.1.2.2.1, q.1.2.2.2⟩ pc = true ∧ q.1.2.2.2 ≠ 0 ∧ Cond.classLink Y.1 q.1.2.2.2 q.2 ∈ Y.2.2.2.2.1 ∧ q.2 ∈ sdEx4) (hCn : sd_Cn l E y Y'.2.2.2.2.1 Y'.2.2.2.2.2.1 Y'.2.2.2.2.2.2.1 Y'.2.2.2.2.2.2.2.1 D tys b n ad L M (.ref t :: As) (sd_qi Q0) X') (hcw : sd_cwV Y Y' y idx na C) (hn : t < n) (hL : L t = sd_O ci fs) (hc9 : E.1[ci]? = some (C, T, N)) (d : decode Y.2.1 pc = .ok (.invokevirtual idx, 3)) (hna : As.length = na) (hst : st0 = As.reverse ++ .ref t :: rest) (hcat : (rest.map fun v => v.category).sum ≤ 8) (kc : ∀ E' M', X' E' M' → E' ∈ sdEx4 ∧ ∃ hpc i nx, (hs.find? (fun q => q.2 == E')).map (fun q => q.1.2.2.1) = some hpc ∧ sd_as Y.2.1 hpc i nx ∧ i < Y.2.2.1 ∧ sdW l E Y D tys b n ad L aF F Q X nx (loc.filter (fun q => !(q.1 == i) && !(q.1 + 1 == i && q.2.category == 2))) [] M' rc rs) (k : ∀ (r : Int32) (M' : sdM), Q0 r M' → sdW l E Y D tys b n ad L aF F Q X (pc + 3) loc (.int r :: rest) M' rc rs) : sdW l E Y D tys b n ad L aF F Q X pc loc st0 M (rc + Y'.2.2.2.2.2.2.1) (rs + Y'.2.2.2.2.2.2.2.1) :=
  x_callVc hs htb hhs hCn hcw hn hL hc9 d hna hst hcat kc (fun v M' hq => by obtain ⟨r, rfl, h⟩ := hq; exact k r M' h)
theorem x_callVcv {Y' : sdY} {y : MethodName} {idx na : Nat} {As rest st0 : List Value} {Q0 : sdM → Prop} {X' : String → sdM → Prop} {t ci N : Nat} {fs : List (Option (Option Nat))} {C : String} {T : u_T} (hs : List ((Nat × Nat × Nat × Nat) × String)) (htb : Y.2.2.2.2.2.2.2.2 = hs.map (·.1)) (hhs : ∀ q ∈ hs, covers ⟨q.1.1, q.1.2.1, q.1.2.2.1, q.1.2.2.2⟩ pc = true ∧ q.1.2.2.2 ≠ 0 ∧ Cond.classLink Y.1 q.1.2.2.2 q.2 ∈ Y.2.2.2.2.1 ∧ q.2 ∈ sdEx4) (hCn : sd_Cn l E y Y'.2.2.2.2.1 Y'.2.2.2.2.2.1 Y'.2.2.2.2.2.2.1 Y'.2.2.2.2.2.2.2.1 D tys b n ad L M (.ref t :: As) (sd_qv Q0) X') (hcw : sd_cwV Y Y' y idx na C) (hn : t < n) (hL : L t = sd_O ci fs) (hc9 : E.1[ci]? = some (C, T, N)) (d : decode Y.2.1 pc = .ok (.invokevirtual idx, 3)) (hna : As.length = na) (hst : st0 = As.reverse ++ .ref t :: rest) (hcat : (rest.map fun v => v.category).sum ≤ 8) (kc : ∀ E' M', X' E' M' → E' ∈ sdEx4 ∧ ∃ hpc i nx, (hs.find? (fun q => q.2 == E')).map (fun q => q.1.2.2.1) = some hpc ∧ sd_as Y.2.1 hpc i nx ∧ i < Y.2.2.1 ∧ sdW l E Y D tys b n ad L aF F Q X nx (loc.filter (fun q => !(q.1 == i) && !(q.1 + 1 == i && q.2.category == 2))) [] M' rc rs) (k : ∀ (M' : sdM), Q0 M' → sdW l E Y D tys b n ad L aF F Q X (pc + 3) loc rest M' rc rs) : sdW l E Y D tys b n ad L aF F Q X pc loc st0 M (rc + Y'.2.2.2.2.2.2.1) (rs + Y'.2.2.2.2.2.2.2.1) :=
  x_callVc hs htb hhs hCn hcw hn hL hc9 d hna hst hcat kc (fun v M' hq => by obtain ⟨rfl, h⟩ := hq; exact k M' h)
theorem x_i2l {x : Int32} (d : decode Y.2.1 pc = .ok (.i2l, 1)) (k : sdW l E Y D tys b n ad L aF F Q X (pc + 1) loc (.long x.toInt64 :: st) M rc rs) : sdW l E Y D tys b n ad L aF F Q X pc loc (.int x :: st) M rc rs := by
  intro p e s m args below meth c H locs ls cells slots hC hK hH hS hl hc hs
  exact lv_i2l hC.1.1 hC.1.2.1 d rfl (k p e s m args below meth c H locs ls cells slots hC hK hH hS hl hc hs)
theorem x_lconst {f : Fin 2} {v : Int32} (d : decode Y.2.1 pc = .ok (.lconst f, 1)) (hv : Int64.ofNat (f : Nat) = v.toInt64) (k : sdW l E Y D tys b n ad L aF F Q X (pc + 1) loc (.long v.toInt64 :: st) M rc rs) : sdW l E Y D tys b n ad L aF F Q X pc loc st M rc rs := by
  intro p e s m args below meth c H locs ls cells slots hC hK hH hS hl hc hs
  exact lv_lconst hC.1.1 hC.1.2.1 d hv (k p e s m args below meth c H locs ls cells slots hC hK hH hS hl hc hs)
theorem x_last {t len t0 : Nat} {cA : ClassId} {i x : Int32} (hA : sd_ad b n ad) (d : decode Y.2.1 pc = .ok (.lastore, 1)) (hn : t < n) (hL : L t = sd_J cA len) (h0 : t0 = 2) (ht : tys[t0]? = some (cA, .long)) (hi : vp_in i len) (k : ∀ M1 : sdM, M1 = sd_s M t i.toNatClampNeg x → sdW l E Y D tys b n ad L aF F Q X (pc + 1) loc st M1 rc rs) : sdW l E Y D tys b n ad L aF F Q X pc loc (.long x.toInt64 :: .int i :: .ref t :: st) M rc rs := by
  intro p e s m args below meth c H locs ls cells slots hC hK hH hS hl hc hs
  have hG : (sd_G n ad L M)[t]? = some (ad t, .inl (cA, len, .inr (.inl (fun j => (M t j).toInt64)))) := by rw [sd_G_get hn, hL]; rfl
  refine va_last hC.1.1 hC.1.2.1 hK.1 hH.toP hA.toD hS t t0 hG ht hi d (fun H1 locs1 hP1 _ hS1 => ?_)
  have he : (Sum.inl (cA, len, Sum.inr (Sum.inl (vp_updL (fun j => (M t j).toInt64) i.toNatClampNeg x.toInt64))) : va_E) = L t ad (upd (M t) i.toNatClampNeg x) := by
    rw [hL]
    show _ = (Sum.inl (cA, len, Sum.inr (Sum.inl (fun j => (upd (M t) i.toNatClampNeg x j).toInt64))) : va_E)
    congr 5
    funext j
    unfold vp_updL upd
    split <;> rfl
  rw [sd_G_set hn he] at hP1
  exact k _ rfl p e s m args below meth c H1 locs1 ls cells slots hC hK (sd_H.ofP hP1) hS1 hl hc hs
theorem x_lald {t len t0 : Nat} {cA : ClassId} {i : Int32} (d : decode Y.2.1 pc = .ok (.laload, 1)) (hn : t < n) (hL : L t = sd_J cA len) (h0 : t0 = 2) (ht : tys[t0]? = some (cA, .long)) (hi : vp_in i len) (k : sdW l E Y D tys b n ad L aF F Q X (pc + 1) loc (.long (M t i.toNatClampNeg).toInt64 :: st) M rc rs) : sdW l E Y D tys b n ad L aF F Q X pc loc (.int i :: .ref t :: st) M rc rs := by
  intro p e s m args below meth c H locs ls cells slots hC hK hH hS hl hc hs
  have hat := hH t hn
  rw [hL] at hat
  exact va_lald hC.1.1 hC.1.2.1 hK.1 (ws := [(ad t, .inl (cA, len, .inr (.inl (fun j => (M t j).toInt64))))]) (sd_one hat) 0 t0 rfl ht hi d (k p e s m args below meth c H locs ls cells slots hC hK hH hS hl hc hs)
end
theorem sd_enterH {l : Launch} {E : sdE} {Y : sdY} {D : va_G} {tys : List (ClassId × FieldType)} {b n : Nat} {ad : Nat → Nat} {L : Nat → sdL} {F : sdM → Heap → Prop} {Q : Option Value → sdM → Prop} {X : String → sdM → Prop} {M : sdM} {y : MethodName} {ws' : List Cond} {av : List Value}
    (hy : plainFor y = true) (hyc : y.cls = Y.1) (hw : Y.2.2.2.2.1 = Cond.codeWith y Y.2.1 Y.2.2.1 Y.2.2.2.1 Y.2.2.2.2.2.2.2.2 :: ws') (hn : (lg_sl av).length ≤ Y.2.2.1)
    (k : sdW l E Y D tys b n ad L ad F Q X 0 (lv_args 0 av) [] M Y.2.2.2.2.2.2.1 Y.2.2.2.2.2.2.2.1) : sd_CnF l E y Y.2.2.2.2.1 Y.2.2.2.2.2.1 Y.2.2.2.2.2.2.1 Y.2.2.2.2.2.2.2.1 D tys b n ad L M av F Q X := by
  refine MetFree.of_bodySF (code := Y.2.1) (maxLocals := Y.2.2.1) (ret := Y.2.2.2.1) hy ?_ ?_
  · intro args s m h hn
    obtain ⟨m', meth, c, h0, h1, h2, h3, h4, -, h5, h6, -⟩ := Cond.codeWith_spec (atoms_spec (ws := Y.2.2.2.2.1) h _ (by rw [hw]; exact List.mem_cons_self))
    cases hn.symm.trans h0
    exact ⟨meth, c, h1, h2, h3, h4, h5, h6⟩
  intro p e s m args below meth c s₁ B hml hv _
  have hx' : c.exceptionTable.toList = tableOf Y.2.2.2.2.2.2.2.2 := by
    obtain ⟨m', meth9, c9, h0, h1, h2, -, -, h7, -⟩ := Cond.codeWith_spec (atoms_spec (ws := Y.2.2.2.2.1) B.pre _ (by rw [hw]; exact List.mem_cons_self))
    cases B.named.symm.trans h0
    cases Option.some.inj (h1.symm.trans B.method)
    cases Option.some.inj (h2.symm.trans (Stand.of_body B).code)
    rw [← h7, table_eq]
  obtain ⟨rfl, hK, hH⟩ := hv
  have hown : s.vm.findClass Y.1 = some m.cls := by rw [← hyc]; exact findClass_of_methodNamed B.named
  have hl := lv_entry (av.map (sd_v ad)) (n := Y.2.2.1) (by rw [sd_sl]; exact hn)
  have hh0 : s₁.heap = s.heap := by rw [B.state]; rfl
  have key : W p l e Y.2.2.2.2.2.1 s m (av.map (sd_v ad)).toArray below meth c s₁.heap [] 0 0 (sd_Z b ad F Q X Y.2.2.2.2.2.2.1 Y.2.2.2.2.2.2.2.1 below (av.map (sd_v ad)).toArray s) (entryFrame m (av.map (sd_v ad)).toArray Y.2.2.1) := by
    rw [lg_entry_eq, hh0]
    generalize (lg_sl (av.map (sd_v ad)) ++ List.replicate (Y.2.2.1 - (lg_sl (av.map (sd_v ad))).length) Slot.unset).toArray = ls at hl ⊢
    rw [sd_args] at hl
    exact k p e s m _ below meth c s.heap [] ls 0 0 ⟨⟨B.exec, B.bytes, hml, hown, atoms_spec (ws := Y.2.2.2.2.1) B.pre⟩, B.notSynchronized, B.returns, hx', fun y9 b9 n9 r9 w9 h9 => by rw [hw] at h9; cases h9⟩ hK hH va_S.rf hl (by omega) (by omega)
  obtain ⟨t, a1, o, b1, b2, b3⟩ := key s₁ rfl (Stand.of_body B)
  exact ⟨t, o, a1, b1, b2, b3⟩
end
