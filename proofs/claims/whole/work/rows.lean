section
-- ===== PART A: goes FIRST, ahead of the names: the tables' words, and 'selects' of the private methods out of them =====
/-- a private method of a class that the tables say can be made, by its rows of tables_1 -/
def lw_okq (q : MethodName × Nat) : Prop := (q.1.cls ≠ "java/lang/invoke/MethodHandle" ∧ q.1.cls ≠ "java/lang/invoke/VarHandle") ∧ Cond.instantiable q.1.cls q.2 ∈ tables_1 ∧ Cond.privateMethod q.1 ∈ tables_1 ∧ Cond.instanceMethod q.1 ∈ tables_1
theorem lw_p0 : lw_okq (⟨"SettingsDesk", "changeTo", "(LSettingsDesk$Settings;)Z"⟩, 12) := ⟨⟨by decide +kernel, by decide +kernel⟩, List.mem_of_getElem? (i := 23) (by decide +kernel), List.mem_of_getElem? (i := 242) (by decide +kernel), List.mem_of_getElem? (i := 243) (by decide +kernel)⟩
theorem lw_p1 : lw_okq (⟨"SettingsDesk", "olderCount", "()I"⟩, 12) := ⟨⟨by decide +kernel, by decide +kernel⟩, List.mem_of_getElem? (i := 23) (by decide +kernel), List.mem_of_getElem? (i := 292) (by decide +kernel), List.mem_of_getElem? (i := 293) (by decide +kernel)⟩
theorem lw_p2 : lw_okq (⟨"SettingsDesk", "requireOpenSchema", "()V"⟩, 12) := ⟨⟨by decide +kernel, by decide +kernel⟩, List.mem_of_getElem? (i := 23) (by decide +kernel), List.mem_of_getElem? (i := 307) (by decide +kernel), List.mem_of_getElem? (i := 308) (by decide +kernel)⟩
theorem lw_p3 : lw_okq (⟨"java/lang/Throwable", "fillInStackTrace", "(I)Ljava/lang/Throwable;"⟩, 6) := ⟨⟨by decide +kernel, by decide +kernel⟩, List.mem_of_getElem? (i := 350) (by decide +kernel), List.mem_of_getElem? (i := 348) (by decide +kernel), List.mem_of_getElem? (i := 349) (by decide +kernel)⟩
theorem lw_p4 : lw_okq (⟨"SettingsDesk", "requireList", "(I)V"⟩, 12) := ⟨⟨by decide +kernel, by decide +kernel⟩, List.mem_of_getElem? (i := 23) (by decide +kernel), List.mem_of_getElem? (i := 390) (by decide +kernel), List.mem_of_getElem? (i := 391) (by decide +kernel)⟩
theorem lw_p5 : lw_okq (⟨"SettingsDesk", "requireLeaf", "(II)V"⟩, 12) := ⟨⟨by decide +kernel, by decide +kernel⟩, List.mem_of_getElem? (i := 23) (by decide +kernel), List.mem_of_getElem? (i := 451) (by decide +kernel), List.mem_of_getElem? (i := 452) (by decide +kernel)⟩
theorem lw_p6 : lw_okq (⟨"SettingsDesk", "requireReady", "()V"⟩, 12) := ⟨⟨by decide +kernel, by decide +kernel⟩, List.mem_of_getElem? (i := 23) (by decide +kernel), List.mem_of_getElem? (i := 569) (by decide +kernel), List.mem_of_getElem? (i := 570) (by decide +kernel)⟩
theorem lw_p7 : lw_okq (⟨"SettingsDesk", "requireSession", "(I)V"⟩, 12) := ⟨⟨by decide +kernel, by decide +kernel⟩, List.mem_of_getElem? (i := 23) (by decide +kernel), List.mem_of_getElem? (i := 574) (by decide +kernel), List.mem_of_getElem? (i := 575) (by decide +kernel)⟩
theorem lw_p8 : lw_okq (⟨"SettingsDesk", "begunSessions", "()I"⟩, 12) := ⟨⟨by decide +kernel, by decide +kernel⟩, List.mem_of_getElem? (i := 23) (by decide +kernel), List.mem_of_getElem? (i := 584) (by decide +kernel), List.mem_of_getElem? (i := 585) (by decide +kernel)⟩
theorem lw_p9 : lw_okq (⟨"SettingsDesk", "requireBegun", "(I)V"⟩, 12) := ⟨⟨by decide +kernel, by decide +kernel⟩, List.mem_of_getElem? (i := 23) (by decide +kernel), List.mem_of_getElem? (i := 596) (by decide +kernel), List.mem_of_getElem? (i := 597) (by decide +kernel)⟩
theorem lw_p10 : lw_okq (⟨"SettingsDesk", "requireCandidateRow", "(IIII)I"⟩, 12) := ⟨⟨by decide +kernel, by decide +kernel⟩, List.mem_of_getElem? (i := 23) (by decide +kernel), List.mem_of_getElem? (i := 642) (by decide +kernel), List.mem_of_getElem? (i := 643) (by decide +kernel)⟩
theorem lw_p11 : lw_okq (⟨"SettingsDesk", "settingsOf", "(I)LSettingsDesk$Settings;"⟩, 12) := ⟨⟨by decide +kernel, by decide +kernel⟩, List.mem_of_getElem? (i := 23) (by decide +kernel), List.mem_of_getElem? (i := 669) (by decide +kernel), List.mem_of_getElem? (i := 670) (by decide +kernel)⟩
theorem lw_p12 : lw_okq (⟨"SettingsDesk", "olderSet", "(I)LSettingsDesk$Settings;"⟩, 12) := ⟨⟨by decide +kernel, by decide +kernel⟩, List.mem_of_getElem? (i := 23) (by decide +kernel), List.mem_of_getElem? (i := 773) (by decide +kernel), List.mem_of_getElem? (i := 774) (by decide +kernel)⟩
theorem lw_p13 : lw_okq (⟨"SettingsDesk", "writePages", "(I)Z"⟩, 12) := ⟨⟨by decide +kernel, by decide +kernel⟩, List.mem_of_getElem? (i := 23) (by decide +kernel), List.mem_of_getElem? (i := 858) (by decide +kernel), List.mem_of_getElem? (i := 859) (by decide +kernel)⟩
theorem lw_p14 : lw_okq (⟨"SettingsDesk", "failPower", "()V"⟩, 12) := ⟨⟨by decide +kernel, by decide +kernel⟩, List.mem_of_getElem? (i := 23) (by decide +kernel), List.mem_of_getElem? (i := 862) (by decide +kernel), List.mem_of_getElem? (i := 863) (by decide +kernel)⟩
theorem lw_p15 : lw_okq (⟨"SettingsDeskModel", "isList", "(I)Z"⟩, 35) := ⟨⟨by decide +kernel, by decide +kernel⟩, List.mem_of_getElem? (i := 874) (by decide +kernel), List.mem_of_getElem? (i := 999) (by decide +kernel), List.mem_of_getElem? (i := 1000) (by decide +kernel)⟩
def lw_privs_1 : List (MethodName × Nat) := [(⟨"SettingsDesk", "changeTo", "(LSettingsDesk$Settings;)Z"⟩, 12), (⟨"SettingsDesk", "olderCount", "()I"⟩, 12), (⟨"SettingsDesk", "requireOpenSchema", "()V"⟩, 12), (⟨"java/lang/Throwable", "fillInStackTrace", "(I)Ljava/lang/Throwable;"⟩, 6), (⟨"SettingsDesk", "requireList", "(I)V"⟩, 12), (⟨"SettingsDesk", "requireLeaf", "(II)V"⟩, 12), (⟨"SettingsDesk", "requireReady", "()V"⟩, 12), (⟨"SettingsDesk", "requireSession", "(I)V"⟩, 12), (⟨"SettingsDesk", "begunSessions", "()I"⟩, 12), (⟨"SettingsDesk", "requireBegun", "(I)V"⟩, 12), (⟨"SettingsDesk", "requireCandidateRow", "(IIII)I"⟩, 12), (⟨"SettingsDesk", "settingsOf", "(I)LSettingsDesk$Settings;"⟩, 12), (⟨"SettingsDesk", "olderSet", "(I)LSettingsDesk$Settings;"⟩, 12), (⟨"SettingsDesk", "writePages", "(I)Z"⟩, 12), (⟨"SettingsDesk", "failPower", "()V"⟩, 12), (⟨"SettingsDeskModel", "isList", "(I)Z"⟩, 35)]
theorem lw_r1 : ∀ q ∈ lw_privs_1, lw_okq q := List.forall_mem_cons.mpr ⟨lw_p0, List.forall_mem_cons.mpr ⟨lw_p1, List.forall_mem_cons.mpr ⟨lw_p2, List.forall_mem_cons.mpr ⟨lw_p3, List.forall_mem_cons.mpr ⟨lw_p4, List.forall_mem_cons.mpr ⟨lw_p5, List.forall_mem_cons.mpr ⟨lw_p6, List.forall_mem_cons.mpr ⟨lw_p7, List.forall_mem_cons.mpr ⟨lw_p8, List.forall_mem_cons.mpr ⟨lw_p9, List.forall_mem_cons.mpr ⟨lw_p10, List.forall_mem_cons.mpr ⟨lw_p11, List.forall_mem_cons.mpr ⟨lw_p12, List.forall_mem_cons.mpr ⟨lw_p13, List.forall_mem_cons.mpr ⟨lw_p14, List.forall_mem_cons.mpr ⟨lw_p15, fun _ h => absurd h List.not_mem_nil⟩⟩⟩⟩⟩⟩⟩⟩⟩⟩⟩⟩⟩⟩⟩⟩
theorem lw_p16 : lw_okq (⟨"SettingsDeskModel", "isLeaf", "(II)Z"⟩, 35) := ⟨⟨by decide +kernel, by decide +kernel⟩, List.mem_of_getElem? (i := 874) (by decide +kernel), List.mem_of_getElem? (i := 1007) (by decide +kernel), List.mem_of_getElem? (i := 1008) (by decide +kernel)⟩
theorem lw_p17 : lw_okq (⟨"SettingsDeskModel", "faultOf", "(I)I"⟩, 35) := ⟨⟨by decide +kernel, by decide +kernel⟩, List.mem_of_getElem? (i := 874) (by decide +kernel), List.mem_of_getElem? (i := 1019) (by decide +kernel), List.mem_of_getElem? (i := 1020) (by decide +kernel)⟩
theorem lw_p18 : lw_okq (⟨"SettingsDeskModel", "wrongEntry", "(III)I"⟩, 35) := ⟨⟨by decide +kernel, by decide +kernel⟩, List.mem_of_getElem? (i := 874) (by decide +kernel), List.mem_of_getElem? (i := 1023) (by decide +kernel), List.mem_of_getElem? (i := 1024) (by decide +kernel)⟩
theorem lw_p19 : lw_okq (⟨"SettingsDeskModel", "isWrong", "(IIIII)Z"⟩, 35) := ⟨⟨by decide +kernel, by decide +kernel⟩, List.mem_of_getElem? (i := 874) (by decide +kernel), List.mem_of_getElem? (i := 1027) (by decide +kernel), List.mem_of_getElem? (i := 1028) (by decide +kernel)⟩
theorem lw_p20 : lw_okq (⟨"SettingsDeskModel", "isSomething", "(III)Z"⟩, 35) := ⟨⟨by decide +kernel, by decide +kernel⟩, List.mem_of_getElem? (i := 874) (by decide +kernel), List.mem_of_getElem? (i := 1031) (by decide +kernel), List.mem_of_getElem? (i := 1032) (by decide +kernel)⟩
theorem lw_p21 : lw_okq (⟨"SettingsDeskModel", "isSet", "(II)Z"⟩, 35) := ⟨⟨by decide +kernel, by decide +kernel⟩, List.mem_of_getElem? (i := 874) (by decide +kernel), List.mem_of_getElem? (i := 1035) (by decide +kernel), List.mem_of_getElem? (i := 1036) (by decide +kernel)⟩
theorem lw_p22 : lw_okq (⟨"SettingsDeskModel", "valueOf", "(III)I"⟩, 35) := ⟨⟨by decide +kernel, by decide +kernel⟩, List.mem_of_getElem? (i := 874) (by decide +kernel), List.mem_of_getElem? (i := 1039) (by decide +kernel), List.mem_of_getElem? (i := 1040) (by decide +kernel)⟩
theorem lw_p23 : lw_okq (⟨"SettingsDeskModel", "find", "(III)I"⟩, 35) := ⟨⟨by decide +kernel, by decide +kernel⟩, List.mem_of_getElem? (i := 874) (by decide +kernel), List.mem_of_getElem? (i := 1043) (by decide +kernel), List.mem_of_getElem? (i := 1044) (by decide +kernel)⟩
theorem lw_p24 : lw_okq (⟨"SettingsDeskModel", "isTwice", "(IIII)Z"⟩, 35) := ⟨⟨by decide +kernel, by decide +kernel⟩, List.mem_of_getElem? (i := 874) (by decide +kernel), List.mem_of_getElem? (i := 1047) (by decide +kernel), List.mem_of_getElem? (i := 1048) (by decide +kernel)⟩
theorem lw_p25 : lw_okq (⟨"SettingsDeskModel", "isBroken", "(II)Z"⟩, 35) := ⟨⟨by decide +kernel, by decide +kernel⟩, List.mem_of_getElem? (i := 874) (by decide +kernel), List.mem_of_getElem? (i := 1051) (by decide +kernel), List.mem_of_getElem? (i := 1052) (by decide +kernel)⟩
theorem lw_p26 : lw_okq (⟨"SettingsDeskModel", "isDown", "()Z"⟩, 35) := ⟨⟨by decide +kernel, by decide +kernel⟩, List.mem_of_getElem? (i := 874) (by decide +kernel), List.mem_of_getElem? (i := 1059) (by decide +kernel), List.mem_of_getElem? (i := 1060) (by decide +kernel)⟩
theorem lw_p27 : lw_okq (⟨"SettingsDeskModel", "copy", "(II)V"⟩, 35) := ⟨⟨by decide +kernel, by decide +kernel⟩, List.mem_of_getElem? (i := 874) (by decide +kernel), List.mem_of_getElem? (i := 1066) (by decide +kernel), List.mem_of_getElem? (i := 1067) (by decide +kernel)⟩
theorem lw_p28 : lw_okq (⟨"SettingsDeskModel", "put", "(II)V"⟩, 35) := ⟨⟨by decide +kernel, by decide +kernel⟩, List.mem_of_getElem? (i := 874) (by decide +kernel), List.mem_of_getElem? (i := 1070) (by decide +kernel), List.mem_of_getElem? (i := 1071) (by decide +kernel)⟩
theorem lw_p29 : lw_okq (⟨"SettingsDeskModel", "remove", "(III)V"⟩, 35) := ⟨⟨by decide +kernel, by decide +kernel⟩, List.mem_of_getElem? (i := 874) (by decide +kernel), List.mem_of_getElem? (i := 1078) (by decide +kernel), List.mem_of_getElem? (i := 1079) (by decide +kernel)⟩
theorem lw_p30 : lw_okq (⟨"SettingsDeskModel", "insert", "(III)I"⟩, 35) := ⟨⟨by decide +kernel, by decide +kernel⟩, List.mem_of_getElem? (i := 874) (by decide +kernel), List.mem_of_getElem? (i := 1082) (by decide +kernel), List.mem_of_getElem? (i := 1083) (by decide +kernel)⟩
theorem lw_p31 : lw_okq (⟨"SettingsDeskModel", "touch", "(IIII)I"⟩, 35) := ⟨⟨by decide +kernel, by decide +kernel⟩, List.mem_of_getElem? (i := 874) (by decide +kernel), List.mem_of_getElem? (i := 1090) (by decide +kernel), List.mem_of_getElem? (i := 1091) (by decide +kernel)⟩
def lw_privs_2 : List (MethodName × Nat) := [(⟨"SettingsDeskModel", "isLeaf", "(II)Z"⟩, 35), (⟨"SettingsDeskModel", "faultOf", "(I)I"⟩, 35), (⟨"SettingsDeskModel", "wrongEntry", "(III)I"⟩, 35), (⟨"SettingsDeskModel", "isWrong", "(IIIII)Z"⟩, 35), (⟨"SettingsDeskModel", "isSomething", "(III)Z"⟩, 35), (⟨"SettingsDeskModel", "isSet", "(II)Z"⟩, 35), (⟨"SettingsDeskModel", "valueOf", "(III)I"⟩, 35), (⟨"SettingsDeskModel", "find", "(III)I"⟩, 35), (⟨"SettingsDeskModel", "isTwice", "(IIII)Z"⟩, 35), (⟨"SettingsDeskModel", "isBroken", "(II)Z"⟩, 35), (⟨"SettingsDeskModel", "isDown", "()Z"⟩, 35), (⟨"SettingsDeskModel", "copy", "(II)V"⟩, 35), (⟨"SettingsDeskModel", "put", "(II)V"⟩, 35), (⟨"SettingsDeskModel", "remove", "(III)V"⟩, 35), (⟨"SettingsDeskModel", "insert", "(III)I"⟩, 35), (⟨"SettingsDeskModel", "touch", "(IIII)I"⟩, 35)]
theorem lw_r2 : ∀ q ∈ lw_privs_2, lw_okq q := List.forall_mem_cons.mpr ⟨lw_p16, List.forall_mem_cons.mpr ⟨lw_p17, List.forall_mem_cons.mpr ⟨lw_p18, List.forall_mem_cons.mpr ⟨lw_p19, List.forall_mem_cons.mpr ⟨lw_p20, List.forall_mem_cons.mpr ⟨lw_p21, List.forall_mem_cons.mpr ⟨lw_p22, List.forall_mem_cons.mpr ⟨lw_p23, List.forall_mem_cons.mpr ⟨lw_p24, List.forall_mem_cons.mpr ⟨lw_p25, List.forall_mem_cons.mpr ⟨lw_p26, List.forall_mem_cons.mpr ⟨lw_p27, List.forall_mem_cons.mpr ⟨lw_p28, List.forall_mem_cons.mpr ⟨lw_p29, List.forall_mem_cons.mpr ⟨lw_p30, List.forall_mem_cons.mpr ⟨lw_p31, fun _ h => absurd h List.not_mem_nil⟩⟩⟩⟩⟩⟩⟩⟩⟩⟩⟩⟩⟩⟩⟩⟩
theorem lw_p32 : lw_okq (⟨"SettingsDeskModel", "needs", "(I)I"⟩, 35) := ⟨⟨by decide +kernel, by decide +kernel⟩, List.mem_of_getElem? (i := 874) (by decide +kernel), List.mem_of_getElem? (i := 1106) (by decide +kernel), List.mem_of_getElem? (i := 1107) (by decide +kernel)⟩
theorem lw_p33 : lw_okq (⟨"SettingsDeskModel", "merge", "(I)Z"⟩, 35) := ⟨⟨by decide +kernel, by decide +kernel⟩, List.mem_of_getElem? (i := 874) (by decide +kernel), List.mem_of_getElem? (i := 1114) (by decide +kernel), List.mem_of_getElem? (i := 1115) (by decide +kernel)⟩
theorem lw_p34 : lw_okq (⟨"SettingsDeskModel", "same", "(II)Z"⟩, 35) := ⟨⟨by decide +kernel, by decide +kernel⟩, List.mem_of_getElem? (i := 874) (by decide +kernel), List.mem_of_getElem? (i := 1118) (by decide +kernel), List.mem_of_getElem? (i := 1119) (by decide +kernel)⟩
theorem lw_p35 : lw_okq (⟨"SettingsDeskModel", "sameEntry", "(II)Z"⟩, 35) := ⟨⟨by decide +kernel, by decide +kernel⟩, List.mem_of_getElem? (i := 874) (by decide +kernel), List.mem_of_getElem? (i := 1122) (by decide +kernel), List.mem_of_getElem? (i := 1123) (by decide +kernel)⟩
theorem lw_p36 : lw_okq (⟨"SettingsDeskModel", "alike", "(III)Z"⟩, 35) := ⟨⟨by decide +kernel, by decide +kernel⟩, List.mem_of_getElem? (i := 874) (by decide +kernel), List.mem_of_getElem? (i := 1126) (by decide +kernel), List.mem_of_getElem? (i := 1127) (by decide +kernel)⟩
theorem lw_p37 : lw_okq (⟨"SettingsDeskModel", "mergeEntry", "(III)Z"⟩, 35) := ⟨⟨by decide +kernel, by decide +kernel⟩, List.mem_of_getElem? (i := 874) (by decide +kernel), List.mem_of_getElem? (i := 1130) (by decide +kernel), List.mem_of_getElem? (i := 1131) (by decide +kernel)⟩
theorem lw_p38 : lw_okq (⟨"SettingsDeskModel", "clashes", "(III)Z"⟩, 35) := ⟨⟨by decide +kernel, by decide +kernel⟩, List.mem_of_getElem? (i := 874) (by decide +kernel), List.mem_of_getElem? (i := 1134) (by decide +kernel), List.mem_of_getElem? (i := 1135) (by decide +kernel)⟩
theorem lw_p39 : lw_okq (⟨"SettingsDeskModel", "note", "(I)V"⟩, 35) := ⟨⟨by decide +kernel, by decide +kernel⟩, List.mem_of_getElem? (i := 874) (by decide +kernel), List.mem_of_getElem? (i := 1138) (by decide +kernel), List.mem_of_getElem? (i := 1139) (by decide +kernel)⟩
theorem lw_p40 : lw_okq (⟨"SettingsDeskModel", "become", "(I)Z"⟩, 35) := ⟨⟨by decide +kernel, by decide +kernel⟩, List.mem_of_getElem? (i := 874) (by decide +kernel), List.mem_of_getElem? (i := 1142) (by decide +kernel), List.mem_of_getElem? (i := 1143) (by decide +kernel)⟩
theorem lw_p41 : lw_okq (⟨"SettingsDeskModel", "isDifference", "(II)Z"⟩, 35) := ⟨⟨by decide +kernel, by decide +kernel⟩, List.mem_of_getElem? (i := 874) (by decide +kernel), List.mem_of_getElem? (i := 1162) (by decide +kernel), List.mem_of_getElem? (i := 1163) (by decide +kernel)⟩
theorem lw_p42 : lw_okq (⟨"SettingsDeskModel", "differs", "(III)I"⟩, 35) := ⟨⟨by decide +kernel, by decide +kernel⟩, List.mem_of_getElem? (i := 874) (by decide +kernel), List.mem_of_getElem? (i := 1166) (by decide +kernel), List.mem_of_getElem? (i := 1167) (by decide +kernel)⟩
def lw_privs_3 : List (MethodName × Nat) := [(⟨"SettingsDeskModel", "needs", "(I)I"⟩, 35), (⟨"SettingsDeskModel", "merge", "(I)Z"⟩, 35), (⟨"SettingsDeskModel", "same", "(II)Z"⟩, 35), (⟨"SettingsDeskModel", "sameEntry", "(II)Z"⟩, 35), (⟨"SettingsDeskModel", "alike", "(III)Z"⟩, 35), (⟨"SettingsDeskModel", "mergeEntry", "(III)Z"⟩, 35), (⟨"SettingsDeskModel", "clashes", "(III)Z"⟩, 35), (⟨"SettingsDeskModel", "note", "(I)V"⟩, 35), (⟨"SettingsDeskModel", "become", "(I)Z"⟩, 35), (⟨"SettingsDeskModel", "isDifference", "(II)Z"⟩, 35), (⟨"SettingsDeskModel", "differs", "(III)I"⟩, 35)]
theorem lw_r3 : ∀ q ∈ lw_privs_3, lw_okq q := List.forall_mem_cons.mpr ⟨lw_p32, List.forall_mem_cons.mpr ⟨lw_p33, List.forall_mem_cons.mpr ⟨lw_p34, List.forall_mem_cons.mpr ⟨lw_p35, List.forall_mem_cons.mpr ⟨lw_p36, List.forall_mem_cons.mpr ⟨lw_p37, List.forall_mem_cons.mpr ⟨lw_p38, List.forall_mem_cons.mpr ⟨lw_p39, List.forall_mem_cons.mpr ⟨lw_p40, List.forall_mem_cons.mpr ⟨lw_p41, List.forall_mem_cons.mpr ⟨lw_p42, fun _ h => absurd h List.not_mem_nil⟩⟩⟩⟩⟩⟩⟩⟩⟩⟩⟩
def lw_privs : List (MethodName × Nat) := lw_privs_1 ++ (lw_privs_2 ++ (lw_privs_3))
def lw_tbl : List Cond := k2_sels lw_privs ++ tables_1
theorem lw_privs_ok : ∀ q ∈ lw_privs, lw_okq q := by
  show ∀ q ∈ lw_privs_1 ++ (lw_privs_2 ++ (lw_privs_3)), lw_okq q
  exact List.forall_mem_append.mpr ⟨lw_r1, List.forall_mem_append.mpr ⟨lw_r2, lw_r3⟩⟩
-- ===== end of PART A; then your names; then what follows =====
end
section
/-! memory (cell, slot), layouts of cells, the world of all cells at addresses ad; names of ours begin with sd -/
abbrev sdM : Type := Nat → Nat → Int32
abbrev sdL : Type := (Nat → Nat) → (Nat → Int32) → va_E
def sd_I (c : ClassId) (n : Nat) : sdL := fun _ f => .inl (c, n, .inl f)
def sd_Q (c : ClassId) (n : Nat) (g : Nat → Nat) : sdL := fun ad _ => .inl (c, n, .inr (.inr (.inr (.inr (fun j => if j < n then some (ad (g j)) else none)))))
def sd_J (c : ClassId) (n : Nat) (g : Nat → Int64) : sdL := fun _ _ => .inl (c, n, .inr (.inl g))
def sd_fx (ad : Nat → Nat) (x : Int32) : Option (Option Nat) → Value
  | none => .int x
  | some none => .null
  | some (some t) => .ref (ad t)
def sd_fv (ad : Nat → Nat) (f : Nat → Int32) : Nat → List (Option (Option Nat)) → List Value
  | _, [] => []
  | j, q :: r => sd_fx ad (f j) q :: sd_fv ad f (j + 1) r
def sd_O (ci : Nat) (fs : List (Option (Option Nat))) : sdL := fun ad f => .inr (ci, sd_fv ad f 0 fs)
theorem sd_fv_at {ad : Nat → Nat} {f : Nat → Int32} {q : Option (Option Nat)} : ∀ (fs : List (Option (Option Nat))) (i j : Nat), fs[j]? = some q → (sd_fv ad f i fs)[j]? = some (sd_fx ad (f (i + j)) q)
  | [], i, j, h => by simp at h
  | a :: r, i, 0, h => by
    simp at h
    subst h
    simp [sd_fv]
  | a :: r, i, j + 1, h => by
    rw [List.getElem?_cons_succ] at h
    have h2 := sd_fv_at (ad := ad) (f := f) r (i + 1) j h
    simp only [sd_fv, List.getElem?_cons_succ]
    rw [h2, show i + 1 + j = i + (j + 1) by omega]
theorem sd_fv_len {ad : Nat → Nat} {f : Nat → Int32} : ∀ (fs : List (Option (Option Nat))) (i : Nat), (sd_fv ad f i fs).length = fs.length
  | [], i => rfl
  | a :: r, i => by simp only [sd_fv, List.length_cons, sd_fv_len r (i + 1)]
theorem sd_fv_congr {ad : Nat → Nat} {f g : Nat → Int32} : ∀ (fs : List (Option (Option Nat))) (i : Nat), (∀ k, i ≤ k → f k = g k) → sd_fv ad f i fs = sd_fv ad g i fs
  | [], i, h => rfl
  | a :: r, i, h => by
    simp only [sd_fv]
    rw [h i (Nat.le_refl _), sd_fv_congr r (i + 1) (fun k hk => h k (by omega))]
theorem sd_fv_set {ad : Nat → Nat} {f : Nat → Int32} {x : Int32} : ∀ (fs : List (Option (Option Nat))) (i j : Nat), fs[j]? = some none → (sd_fv ad f i fs).set j (.int x) = sd_fv ad (upd f (i + j) x) i fs
  | [], i, j, h => by simp at h
  | a :: r, i, 0, h => by
    simp at h
    subst h
    simp only [sd_fv, List.set_cons_zero, Nat.add_zero]
    rw [pk_us, sd_fv_congr (f := f) (g := upd f i x) r (i + 1) (fun k hk => (pk_un (by omega)).symm)]
    rfl
  | a :: r, i, j + 1, h => by
    rw [List.getElem?_cons_succ] at h
    simp only [sd_fv, List.set_cons_succ]
    rw [sd_fv_set r (i + 1) j h, show i + 1 + j = i + (j + 1) by omega, pk_un (show i ≠ i + (j + 1) by omega)]
theorem sd_fv_setr {ad : Nat → Nat} {f : Nat → Int32} {u : Nat} : ∀ (fs : List (Option (Option Nat))) (i j : Nat), (sd_fv ad f i fs).set j (.ref (ad u)) = sd_fv ad f i (fs.set j (some (some u)))
  | [], i, j => by simp [sd_fv]
  | a :: r, i, 0 => by
    simp only [sd_fv, List.set_cons_zero]
    rfl
  | a :: r, i, j + 1 => by
    simp only [sd_fv, List.set_cons_succ]
    rw [sd_fv_setr r (i + 1) j]
/-- a value whose references are cells' numbers, as the machine has it -/
def sd_v (ad : Nat → Nat) : Value → Value
  | .ref k => .ref (ad k)
  | v => v
theorem sd_v_cat (ad : Nat → Nat) (v : Value) : (sd_v ad v).category = v.category := by cases v <;> rfl
def sd_l (ad : Nat → Nat) (loc : List (Nat × Value)) : List (Nat × Value) := loc.map (fun q => (q.1, sd_v ad q.2))
theorem sd_l_get {ad : Nat → Nat} {loc : List (Nat × Value)} {j i : Nat} {v : Value} (h : loc[j]? = some (i, v)) : (sd_l ad loc)[j]? = some (i, sd_v ad v) := by
  rw [sd_l, List.getElem?_map, h]; rfl
theorem sd_l_flt {ad : Nat → Nat} {i : Nat} : ∀ (loc : List (Nat × Value)), (sd_l ad loc).filter (fun q => !(q.1 == i) && !(q.1 + 1 == i && q.2.category == 2)) = sd_l ad (loc.filter (fun q => !(q.1 == i) && !(q.1 + 1 == i && q.2.category == 2)))
  | [] => rfl
  | (a, v) :: r => by
    have h := sd_l_flt (ad := ad) (i := i) r
    simp only [sd_l, List.map_cons, List.filter_cons, sd_v_cat] at h ⊢
    split <;> simp only [List.map_cons, h]
def sd_A (b : Nat) : Nat → Prop := fun q => b ≤ q
/-- cells 0 .. n-1 lie at the addresses ad, laid out by L, with the numbers M -/
def sd_H (D : va_G) (cl : List vw_C) (n : Nat) (ad : Nat → Nat) (L : Nat → sdL) (M : sdM) (H : Heap) : Prop := ∀ k, k < n → va_at D cl (ad k, L k ad (M k)) H
def sd_ad (b n : Nat) (ad : Nat → Nat) : Prop := (∀ i j, i < n → j < n → ad i = ad j → i = j) ∧ ∀ k, k < n → b ≤ ad k
def sd_G (n : Nat) (ad : Nat → Nat) (L : Nat → sdL) (M : sdM) : va_W := (List.range n).map (fun k => (ad k, L k ad (M k)))
theorem sd_G_get {n k : Nat} {ad : Nat → Nat} {L : Nat → sdL} {M : sdM} (h : k < n) : (sd_G n ad L M)[k]? = some (ad k, L k ad (M k)) := by
  simp [sd_G, List.getElem?_map, List.getElem?_range h]
theorem sd_G_len {n : Nat} {ad : Nat → Nat} {L : Nat → sdL} {M : sdM} : (sd_G n ad L M).length = n := by simp [sd_G]
theorem sd_G_lt {n k : Nat} {ad : Nat → Nat} {L : Nat → sdL} {M : sdM} {q : Nat × va_E} (h : (sd_G n ad L M)[k]? = some q) : k < n ∧ q = (ad k, L k ad (M k)) := by
  have h1 : k < n := by have := (List.getElem?_eq_some_iff.mp h).1; rwa [sd_G_len] at this
  rw [sd_G_get h1] at h
  exact ⟨h1, (Option.some.inj h).symm⟩
theorem sd_H.toP {D : va_G} {cl : List vw_C} {n : Nat} {ad : Nat → Nat} {L : Nat → sdL} {M : sdM} {H : Heap} (h : sd_H D cl n ad L M H) : va_P D cl (sd_G n ad L M) H := fun k q hk => by
  obtain ⟨h1, rfl⟩ := sd_G_lt hk
  exact h k h1
theorem sd_H.ofP {D : va_G} {cl : List vw_C} {n : Nat} {ad : Nat → Nat} {L : Nat → sdL} {M : sdM} {H : Heap} (h : va_P D cl (sd_G n ad L M) H) : sd_H D cl n ad L M H := fun k hk => h k _ (sd_G_get hk)
theorem sd_ad.toD {b n : Nat} {ad : Nat → Nat} {L : Nat → sdL} {M : sdM} (h : sd_ad b n ad) : va_D (sd_A b) (sd_G n ad L M) := by
  refine ⟨fun i j p q hi hj e => ?_, fun k q hk => ?_⟩
  · obtain ⟨h1, rfl⟩ := sd_G_lt hi
    obtain ⟨h2, rfl⟩ := sd_G_lt hj
    exact h.1 i j h1 h2 e
  · obtain ⟨h1, rfl⟩ := sd_G_lt hk
    exact h.2 k h1
theorem sd_G_set {n k : Nat} {ad : Nat → Nat} {L : Nat → sdL} {M : sdM} {f : Nat → Int32} {e : va_E} (hk : k < n) (he : e = L k ad f) : (sd_G n ad L M).set k (ad k, e) = sd_G n ad L (va_up M k f) := by
  subst he
  apply List.ext_getElem?
  intro i
  by_cases hi : i = k
  · subst hi
    rw [List.getElem?_set_self (by rw [sd_G_len]; exact hk), sd_G_get hk, va_up_self]
  · rw [List.getElem?_set_ne (Ne.symm hi)]
    by_cases hn : i < n
    · rw [sd_G_get hn, sd_G_get hn, show va_up M k f i = M i from if_neg hi]
    · rw [List.getElem?_eq_none (by rw [sd_G_len]; omega), List.getElem?_eq_none (by rw [sd_G_len]; omega)]
/-- what the tables, and two static fields of Throwable, say at a state -/
abbrev sdE : Type := List vw_C × List Cond × List (String × Nat × String) × Option (Nat × Nat × (Nat → Int32))
/-- a static field of Throwable: where it lies (below b), and that it holds null or a reference -/
def sd_st (b : Nat) (nm d : String) (U : State) (H : Heap) : Prop := ∃ (c : ClassId) (k : Class) (i : Nat) (f : Field) (a : Nat) (cell : Cell) (v : Value), U.vm.findClass Bundle.tN = some c ∧ U.fieldFound? Bundle.tN nm d = some (c, k, i, f) ∧ f.isStatic = true ∧ k.statics = some a ∧ H[a]? = some cell ∧ cell.vm.isStatics = true ∧ cell.cls = c ∧ f.slot < cell.slots.size ∧ k.staticTypes[f.slot]? = some f.type ∧ cell.slots[f.slot]? = some v ∧ v.isRef = true ∧ a < b
theorem sd_st.go {b : Nat} {nm d : String} {u U : State} {H H1 : Heap} (hvm : u.vm.Alike U.vm) (hq : ∀ a : Nat, a < H.size → a < b → H1[a]? = H[a]?) (h : sd_st b nm d u H) : sd_st b nm d U H1 := by
  obtain ⟨c, k, i, f, a, cell, v, h1, h2, h3, h4, h5, h6, h7, h8, h9, h10, h11, h12⟩ := h
  obtain ⟨k', hi', he⟩ := State.fieldFound?_setVm hvm h2
  exact ⟨c, k', i, f, a, cell, v, by rw [hvm.findClass]; exact h1, hi', h3, by rw [he]; exact h4, by rw [hq a (Array.getElem?_eq_some_iff.mp h5).1 h12]; exact h5, h6, h7, h8, by rw [he]; exact h9, h10, h11, h12⟩
theorem sd_st.lays {b : Nat} {nm d : String} {U : State} {args : Array Value} (h : sd_st b nm d U U.heap) : (Cond.laysStatic Bundle.tN nm d).before args U = true := by
  obtain ⟨c, k, i, f, a, cell, v, h1, h2, h3, h4, h5, h6, h7, h8, h9, -⟩ := h
  show (Cond.laysStatic Bundle.tN nm d).holds args U none U [] = true
  exact Cond.laysStatic_of h1 h2 h3 h4 h5 h6 h7 h8 h9
theorem sd_st.ref {b : Nat} {nm d : String} {U : State} {args : Array Value} (h : sd_st b nm d U U.heap) : (Cond.isRef (.static Bundle.tN nm d)).before args U = true := by
  obtain ⟨c, k, i, f, a, cell, v, h1, h2, h3, h4, h5, h6, h7, h8, h9, h10, h11, -⟩ := h
  have he : (Term.static Bundle.tN nm d).eval args U none [] U = some v := by
    simp [Term.eval, State.fieldNamed?, h2, h3, h4, h5, h6, h10]
  simp only [Cond.before, Cond.holds, Cond.value, he]
  cases v <;> simp_all [Value.isRef]
/-- a word that stays while the tables warm -/
def sd_mv (w : Cond) : Prop := w.onTables = true ∧ ∀ s U : State, s.WarmedH U.vm → va_Nw w s → va_Nw w U
def sd_K (E : sdE) (D : va_G) (tys : List (ClassId × FieldType)) (b : Nat) (U : State) : Prop :=
  va_K D E.1 tys U ∧ (∀ w ∈ E.2.1, va_Nw w U ∧ sd_mv w) ∧ (∀ q ∈ E.2.2.1, ∃ sa, vk_R q.1 q.2.1 q.2.2 sa U) ∧
  (sd_st b "UNASSIGNED_STACK" Bundle.steD U U.heap ∧ sd_st b "SUPPRESSED_SENTINEL" Bundle.listD U U.heap) ∧ b ≤ U.heap.size ∧ ∀ q, E.2.2.2 = some q → va_X q.1 q.2.1 q.2.2 U U.heap ∧ q.1 < b
theorem sd_K.move {E : sdE} {D : va_G} {tys : List (ClassId × FieldType)} {b : Nat} {s U : State} {H : Heap} {locs : List Loc} (h : sd_K E D tys b s) (hW : s.WarmedH U.vm) (hH : U.heap = H) (hS : va_S (sd_A b) s.heap H locs) : sd_K E D tys b U := by
  obtain ⟨h1, h2, h3, h4, h6, h7⟩ := h
  subst hH
  refine ⟨va_K.moved hW.alike h1, fun q hq => ⟨(h2 q hq).2.2 s U hW (h2 q hq).1, (h2 q hq).2⟩, fun q hq => ?_, ⟨h4.1.go hW.alike (fun a h8 h9 => hS.2.1 a h8 (fun z => absurd z (Nat.not_le.mpr h9))), h4.2.go hW.alike (fun a h8 h9 => hS.2.1 a h8 (fun z => absurd z (Nat.not_le.mpr h9)))⟩, Nat.le_trans h6 hS.1, fun q hq => ?_⟩
  · obtain ⟨sa, h⟩ := h3 q hq
    exact ⟨sa, h.warm hW⟩
  · obtain ⟨g1, g2⟩ := h7 q hq
    exact ⟨va_X.moved hW.alike (g1.kept (hS.2.1 q.1 (Nat.lt_of_lt_of_le g2 h6) (fun z => absurd z (Nat.not_le.mpr g2)))), g2⟩
theorem sd_K.call {E : sdE} {D : va_G} {tys : List (ClassId × FieldType)} {b : Nat} {U : State} {g : JFrame} {mk : MethodId} {a : Array Value} (h : sd_K E D tys b U) : sd_K E D tys b (U.calling g mk a) :=
  h.move (H := U.heap) (locs := []) (State.WarmedH.refl U) rfl va_S.rf
/-- a method: its class, code, locals, answer, words, room, and what it may make -/
abbrev sdY : Type := String × ByteArray × Nat × Option FieldType × List Cond × Room × Nat × Nat
def sd_C (Y : sdY) (p : Program) (s : State) (m : MethodId) (args : Array Value) (meth : Method) (c : Code) : Prop :=
  CallFix p m c Y.2.1 Y.2.2.1 s args Y.2.2.2.2.1 Y.1 ∧ meth.locks = false ∧ meth.sig.returnType = Y.2.2.2.1 ∧ (∀ x ∈ c.exceptionTable.toList, False) ∧ ∀ (y : MethodName) (bytes : ByteArray) (nL : Nat) (ret : Option FieldType) (ws' : List Cond), Y.2.2.2.2.1 = Cond.code y bytes nL ret :: ws' → meth.name = y.name
/-- an end: it returned with Q, or it threw an object of a class E with X; what was written lies from b on; at most mc cells of ms slots are new -/
def sd_R (b : Nat) (aF : Nat → Nat) (F : sdM → Heap → Prop) (Q : Option Value → sdM → Prop) : Array Value → State → Outcome → State → Prop := fun _ st o t => ∃ (v : Option Value) (M : sdM), o = .returned (v.map (sd_v aF)) ∧ Q v M ∧ F M t.heap ∧ va_F (sd_A b) st t
def sd_T (b : Nat) (F : sdM → Heap → Prop) (X : String → sdM → Prop) (mc ms : Nat) (st : State) (q : Addr) (t : State) : Prop :=
  ∃ (E : String) (M : sdM) (ce : Cell) (L : List Loc), X E M ∧ F M t.heap ∧ t.heap[q]? = some ce ∧ ce.vm = .none ∧ st.vm.findClass E = some ce.cls ∧ va_F (sd_A b) st t ∧ st.WarmedH t.vm ∧ st.sameButNew ({ t with vm := st.vm } : State) L mc ms ∧ ∀ z ∈ L, sd_A b z.base
def sd_End (b : Nat) (aF : Nat → Nat) (F : sdM → Heap → Prop) (Q : Option Value → sdM → Prop) (X : String → sdM → Prop) (mc ms : Nat) : Array Value → State → Outcome → State → Prop := fun a st o t =>
  (sd_R b aF F Q a st o t ∧ ∃ L, FrameEnd st o t L mc ms ∧ ∀ z ∈ L, sd_A b z.base) ∨ ∃ q, o = .threw q ∧ sd_T b F X mc ms st q t
def sd_Z (b : Nat) (aF : Nat → Nat) (F : sdM → Heap → Prop) (Q : Option Value → sdM → Prop) (X : String → sdM → Prop) (mc ms : Nat) (below : List Frame) (a : Array Value) (st : State) : State → Prop := fun t => ∃ o, t.status = .running ∧ Ended t below o ∧ sd_End b aF F Q X mc ms a st o t
/-- the contract of a method at a world: started with av in M, it ends with Q or throws with X -/
def sd_Cn (l : Launch) (E : sdE) (y : MethodName) (ws : List Cond) (rm : Room) (mc ms : Nat) (D : va_G) (tys : List (ClassId × FieldType)) (b n : Nat) (ad : Nat → Nat) (L : Nat → sdL) (M : sdM) (av : List Value) (Q : Option Value → sdM → Prop) (X : String → sdM → Prop) : Prop :=
  MetFree l y (headSpec ws rm) (va_Pc (av.map (sd_v ad)) (fun U => sd_K E D tys b U ∧ sd_H D E.1 n ad L M U.heap)) (fun _ _ _ _ _ => True) (sd_End b ad (sd_H D E.1 n ad L) Q X mc ms)
/-- a contract whose end is another world -/
def sd_CnF (l : Launch) (E : sdE) (y : MethodName) (ws : List Cond) (rm : Room) (mc ms : Nat) (D : va_G) (tys : List (ClassId × FieldType)) (b n : Nat) (ad : Nat → Nat) (L : Nat → sdL) (M : sdM) (av : List Value) (F : sdM → Heap → Prop) (Q : Option Value → sdM → Prop) (X : String → sdM → Prop) : Prop :=
  MetFree l y (headSpec ws rm) (va_Pc (av.map (sd_v ad)) (fun U => sd_K E D tys b U ∧ sd_H D E.1 n ad L M U.heap)) (fun _ _ _ _ _ => True) (sd_End b ad F Q X mc ms)
/-- the frame of Y at pc, with the locals loc and the stack st (references by their cells' numbers), in M: comes to its end with Q or X; rc, rs: what it may still make -/
def sdW (l : Launch) (E : sdE) (Y : sdY) (D : va_G) (tys : List (ClassId × FieldType)) (b n : Nat) (ad : Nat → Nat) (L : Nat → sdL) (aF : Nat → Nat) (F : sdM → Heap → Prop) (Q : Option Value → sdM → Prop) (X : String → sdM → Prop)
    (pc : Nat) (loc : List (Nat × Value)) (st : List Value) (M : sdM) (rc rs : Nat) : Prop :=
  ∀ (p : Program) (e : Env) (s : State) (m : MethodId) (args : Array Value) (below : List Frame) (meth : Method) (c : Code) (H : Heap) (locs : List Loc) (ls : Array Slot) (cells slots : Nat),
    sd_C Y p s m args meth c → sd_K E D tys b s → sd_H D E.1 n ad L M H → va_S (sd_A b) s.heap H locs → lv_has ls Y.2.2.1 (sd_l ad loc) → cells + rc ≤ Y.2.2.2.2.2.2.1 → slots + rs ≤ Y.2.2.2.2.2.2.2 →
    W p l e Y.2.2.2.2.2.1 s m args below meth c H locs cells slots (sd_Z b aF F Q X Y.2.2.2.2.2.2.1 Y.2.2.2.2.2.2.2 below args s) (F0 m pc ls (st.map (sd_v ad)))
def sd_s (M : sdM) (t i : Nat) (x : Int32) : sdM := va_up M t (upd (M t) i x)
def sdB (x : Int32) : Prop := x = 0 ∨ x = 1
theorem sdB_n {x : Int32} (h : sdB x) : narrow .boolean (.int x) = .int x := by rcases h with rfl | rfl <;> rfl
theorem sdB_f {x : Int32} (h : sdB x) : fits .boolean (.int x) = true := by rcases h with rfl | rfl <;> rfl
theorem sdB_v {x : Int32} (h : sdB x) : vp_nar .boolean x = x := by rcases h with rfl | rfl <;> rfl
def sd_qi (Q : Int32 → sdM → Prop) : Option Value → sdM → Prop := fun v M => ∃ r : Int32, v = some (.int r) ∧ Q r M
def sd_qv (Q : sdM → Prop) : Option Value → sdM → Prop := fun v M => v = none ∧ Q M
def sd_qr (P : Nat → Prop) (Q : Nat → sdM → Prop) : Option Value → sdM → Prop := fun v M => ∃ t : Nat, v = some (.ref t) ∧ P t ∧ Q t M
def sd_xf : String → sdM → Prop := fun _ _ => False
theorem sd_cats (ad : Nat → Nat) : ∀ (l : List Value), ((l.map (sd_v ad)).map fun v => v.category).sum = (l.map fun v => v.category).sum
  | [] => rfl
  | v :: r => by
    have h := sd_cats ad r
    simp only [List.map_cons, List.sum_cons, sd_v_cat, h]
theorem sd_args (ad : Nat → Nat) : ∀ (l : List Value) (i : Nat), lv_args i (l.map (sd_v ad)) = sd_l ad (lv_args i l)
  | [], i => rfl
  | v :: r, i => by
    simp only [List.map_cons, lv_args, sd_v_cat]
    rw [sd_args ad r]
    rfl
theorem sd_sl (ad : Nat → Nat) : ∀ (l : List Value), (lg_sl (l.map (sd_v ad))).length = (lg_sl l).length
  | [] => rfl
  | v :: r => by
    have h := sd_sl ad r
    simp only [lg_sl, List.map_cons, List.flatMap_cons, List.length_append, sd_v_cat] at h ⊢
    rw [h]
    split <;> rfl
/-- what a call of y (its data Y') by the constant idx of Y's class rests on -/
def sd_cwV (Y Y' : sdY) (y : MethodName) (idx na : Nat) (C : String) : Prop :=
  GoodIn Y.2.2.2.2.1 (wsV Y.1 idx C y Y'.2.2.2.2.1) ∧ (∃ ws', Y'.2.2.2.2.1 = Cond.code y Y'.2.1 Y'.2.2.1 Y'.2.2.2.1 :: ws') ∧ (Y'.2.2.2.2.2.1.cells = Y'.2.2.2.2.2.2.1 ∧ Y'.2.2.2.2.2.1.slots = Y'.2.2.2.2.2.2.2 ∧ Y.2.2.2.2.2.1.cells = Y.2.2.2.2.2.2.1 ∧ Y.2.2.2.2.2.1.slots = Y.2.2.2.2.2.2.2) ∧
  (y.cls = C ∧ y.cls ≠ "java/lang/invoke/MethodHandle" ∧ y.cls ≠ "java/lang/invoke/VarHandle" ∧ (parseMethodDescriptor y.desc).map (fun d => d.parameters.length) = some na) ∧ (Y'.2.2.2.2.2.1.frames + 1 ≤ Y.2.2.2.2.2.1.frames ∧ 8 + (Y'.2.2.1 + 11) + Y'.2.2.2.2.2.1.locals ≤ Y.2.2.2.2.2.1.locals)
def sd_cwS (Y Y' : sdY) (y : MethodName) (idx na : Nat) : Prop :=
  GoodIn Y.2.2.2.2.1 (va_wsS Y.1 idx y Y'.2.2.2.2.1) ∧ (∃ ws', Y'.2.2.2.2.1 = Cond.code y Y'.2.1 Y'.2.2.1 Y'.2.2.2.1 :: ws') ∧ (Y'.2.2.2.2.2.1.cells = Y'.2.2.2.2.2.2.1 ∧ Y'.2.2.2.2.2.1.slots = Y'.2.2.2.2.2.2.2 ∧ Y.2.2.2.2.2.1.cells = Y.2.2.2.2.2.2.1 ∧ Y.2.2.2.2.2.1.slots = Y.2.2.2.2.2.2.2) ∧
  (y.cls ≠ "java/lang/invoke/MethodHandle" ∧ y.cls ≠ "java/lang/invoke/VarHandle" ∧ (parseMethodDescriptor y.desc).map (fun d => d.parameters.length) = some na) ∧ (Y'.2.2.2.2.2.1.frames + 1 ≤ Y.2.2.2.2.2.1.frames ∧ 8 + (Y'.2.2.1 + 11) + Y'.2.2.2.2.2.1.locals ≤ Y.2.2.2.2.2.1.locals)
/-- a call of a method that keeps its contract, from the caller's frame on -/
theorem sd_pay {p : Program} {l : Launch} {e : Env} {R : Room} {s : State} {m : MethodId} {args : Array Value} {below : List Frame} {meth : Method} {c : Code} {U : State} {locs : List Loc} {cells slots mc ms b : Nat} {y : MethodName} {ws : List Cond} {rm : Room} {Pc : Array Value → State → Prop} {ad : Nat → Nat} {F : sdM → Heap → Prop} {Q : Option Value → sdM → Prop} {X : String → sdM → Prop} {bytes : ByteArray} {maxL W9 : Nat} {ret : Option FieldType} {g : JFrame} {ig : Instr} {len : Nat} {mk : MethodId} {a : Array Value}
    (hM : MetFree l y (headSpec ws rm) Pc (fun _ _ _ _ _ => True) (sd_End b ad F Q X mc ms)) (St : Stand p l e R s m args below meth c U locs cells slots) (hg : g.method = m) (hsize : g.locals.size = c.maxLocals) (hdg : decode c.code g.pc = .ok (ig, len)) (hn : U.methodNamed? y = some mk)
    (hws : ∀ w ∈ ws, w.before a U = true) (hcode : (Cond.code y bytes maxL ret).before a U = true) (hinit : (Cond.initialized y.cls).before a U = true) (hrc : rm.cells = mc) (hrs : rm.slots = ms) (hfr : rm.frames + 1 ≤ R.frames) (hlo : W9 + (maxL + 11) + rm.locals ≤ R.locals) (hW : 2 * g.monitorRoom + (g.stack.map fun v => v.category).sum ≤ W9)
    (hc : cells + mc ≤ R.cells) (hs : slots + ms ≤ R.slots) (hP : Pc a (U.calling g mk a)) :
    (∃ (v : Option Value) (M : sdM) (T' : State) (L : List Loc), Stand p l e R s m args below meth c T' (locs ++ L) (cells + mc) (slots + ms) ∧ Q v M ∧ F M T'.heap ∧ (U.heap.size ≤ T'.heap.size ∧ ∀ q : Nat, q < U.heap.size → ¬ sd_A b q → T'.heap[q]? = U.heap[q]?) ∧ (∀ z ∈ L, sd_A b z.base) ∧
      Steps p.tables e below (doInvoke e (U.setTop g) [] mk a).1 (T'.setTop { g with pc := g.pc + len, stack := (v.map (sd_v ad)).toList ++ g.stack })) ∨
    (∃ (q : Addr) (E : String) (M : sdM) (ce : Cell) (T' : State) (L : List Loc), Stand p l e R s m args below meth c T' (locs ++ L) (cells + mc) (slots + ms) ∧ X E M ∧ F M T'.heap ∧ T'.heap[q]? = some ce ∧ ce.vm = .none ∧ U.vm.findClass E = some ce.cls ∧ (U.heap.size ≤ T'.heap.size ∧ ∀ q : Nat, q < U.heap.size → ¬ sd_A b q → T'.heap[q]? = U.heap[q]?) ∧ (∀ z ∈ L, sd_A b z.base) ∧
      Steps p.tables e below (doInvoke e (U.setTop g) [] mk a).1 ((T'.setTop g).pushFrame (.throwing q))) := by
  obtain ⟨methY, cY, hmY, hcY, -, hlY, -, -, -, -⟩ := Cond.code_spec hn hcode
  obtain ⟨kY, hkY, -⟩ := className_of_methodNamed hn
  have hat : At U g.method c below := by rw [hg]; exact St.here
  have happ : (headSpec ws rm).appliesLoose y e.platform (U.calling g mk a) = true :=
    Spec.appliesLoose_calling (g := g) hat hdg hn hkY (Cond.initialized_spec (findClass_of_methodNamed hn) hkY hinit)
      (St.room_calling (g := g) (R' := rm) hsize hmY hcY hfr (by rw [hlY]; omega) (by rw [hrc]; exact hc) (by rw [hrs]; exact hs)) (atoms_intro hws)
  obtain ⟨g0, hfr0⟩ := St.frames_eq
  have htop : (U.setTop g).frames = .java g :: below := by rw [State.frames_setTop' g St.here.top, hfr0]; rfl
  obtain ⟨o, t, hsteps, -, hend, hq⟩ := Free.Steps.callFree hM p St.admits St.cas St.clock (acts := []) (mid := [.java g]) (below := below) htop happ hP trivial
  rw [htop] at hend
  rcases hq with ⟨⟨v, M, rfl, hQ, hF, hFr⟩, L, ⟨-, hWm, hsame⟩, hL⟩ | ⟨q, rfl, E, M, ce, L, hX, hF, hce, hcv, hcl, hFr, hWm, hsame, hL⟩
  · obtain ⟨T', St', -, -, rfl⟩ := St.outOf hg hdg hend hWm hsame
    exact Or.inl ⟨v, M, T', L, St', hQ, hF, hFr, hL, hsteps⟩
  · obtain ⟨T', St', -, -, rfl⟩ := St.outOfThrown hg hend hWm hsame
    exact Or.inr ⟨q, E, M, ce, T', L, St', hX, hF, hce, hcv, hcl, hFr, hL, hsteps⟩
/-- the frame g of a method, with q thrown over it -/
def sd_TW (p : Program) (l : Launch) (e : Env) (R : Room) (s : State) (m : MethodId) (args : Array Value) (below : List Frame) (meth : Method) (c : Code) (H : Heap) (locs : List Loc) (cells slots : Nat) (Q : State → Prop) (g : JFrame) (q : Addr) : Prop :=
  ∀ T : State, T.heap = H → Stand p l e R s m args below meth c T locs cells slots → ∃ t, Steps p.tables e below ((T.setTop g).pushFrame (.throwing q)) t ∧ Q t
theorem sd_S_next {b : Nat} {H0 H H1 : Heap} {locs L : List Loc} (hS : va_S (sd_A b) H0 H locs) (h : H.size ≤ H1.size ∧ ∀ q : Nat, q < H.size → ¬ sd_A b q → H1[q]? = H[q]?) (hL : ∀ z ∈ L, sd_A b z.base) : va_S (sd_A b) H0 H1 (locs ++ L) := by
  refine ⟨Nat.le_trans hS.1 h.1, fun q h1 h2 => ?_, fun z hz => ?_⟩
  · rw [h.2 q (Nat.lt_of_lt_of_le h1 hS.1) h2]
    exact hS.2.1 q h1 h2
  · rcases List.mem_append.mp hz with hz | hz
    · exact hS.2.2 z hz
    · exact hL z hz
/-- no handler here: what was thrown goes on to the caller -/
theorem sd_out {p : Program} {l : Launch} {e : Env} {R : Room} {s : State} {m : MethodId} {args : Array Value} {below : List Frame} {meth : Method} {c : Code} {H : Heap} {locs : List Loc} {cells slots mc ms b : Nat} {aF : Nat → Nat} {F : sdM → Heap → Prop} {Q : Option Value → sdM → Prop} {X : String → sdM → Prop} {pc : Nat} {ls : Array Slot} {st : List Value} {q : Addr} {E : String} {M : sdM} {ce : Cell}
    (hout : ∀ x ∈ c.exceptionTable.toList, False) (hlocks : meth.locks = false) (hX : X E M) (hF : F M H) (hce : H[q]? = some ce) (hcv : ce.vm = .none) (hcl : s.vm.findClass E = some ce.cls) (hS : va_S (sd_A b) s.heap H locs) (hc : cells ≤ mc) (hs : slots ≤ ms) :
    sd_TW p l e R s m args below meth c H locs cells slots (sd_Z b aF F Q X mc ms below args s) (F0 m pc ls st) q := by
  intro T hT St
  subst hT
  obtain ⟨h1, h2, h3, h4, h5⟩ := St.leaveThrown q (g := F0 m pc ls st) rfl rfl rfl (fun x hx => (hout x hx).elim) hlocks
  exact ⟨_, h1, .threw q, h2, h3, Or.inr ⟨q, rfl, E, M, ce, locs, hX, hF, hce, hcv, hcl, hS.F rfl, h4, h5.mono hc hs, hS.2.2⟩⟩
theorem sd_ret {p : Program} {l : Launch} {e : Env} {R : Room} {s : State} {m : MethodId} {args : Array Value} {below : List Frame} {meth : Method} {c : Code} {H : Heap} {locs : List Loc} {cells slots mc ms b : Nat} {aF : Nat → Nat} {F : sdM → Heap → Prop} {Q : Option Value → sdM → Prop} {X : String → sdM → Prop} {g : JFrame} (k : W p l e R s m args below meth c H locs cells slots (MQ below (sd_R b aF F Q) args s mc ms (sd_A b)) g) : W p l e R s m args below meth c H locs cells slots (sd_Z b aF F Q X mc ms below args s) g := by
  intro T hT St
  obtain ⟨t, a1, o, b1, b2, b3, b4⟩ := k T hT St
  exact ⟨t, a1, o, b1, b2, Or.inl ⟨b3, b4⟩⟩
theorem sd_blind {E : sdE} {D : va_G} {tys : List (ClassId × FieldType)} {b n : Nat} {ad : Nat → Nat} {L : Nat → sdL} {M : sdM} {av : List Value} : FrameBlind (va_Pc av (fun U => sd_K E D tys b U ∧ sd_H D E.1 n ad L M U.heap)) :=
  fun _ _ _ _ q => ⟨q.1, q.2.1.call, q.2.2⟩
theorem sd_one {D : va_G} {cl : List vw_C} {q : Nat × va_E} {H : Heap} (h : va_at D cl q H) : va_P D cl [q] H := fun k x hk => by
  have hz : k < 1 := (List.getElem?_eq_some_iff.mp hk).1
  rw [show k = 0 by omega] at hk
  cases hk
  exact h
theorem sd_l_pick {ad : Nat → Nat} (loc : List (Nat × Value)) : ∀ (js : List Nat), lv_pick (sd_l ad loc) js = sd_l ad (lv_pick loc js)
  | [] => rfl
  | j :: js => by
    have h := sd_l_pick (ad := ad) loc js
    simp only [lv_pick, List.filterMap_cons] at h ⊢
    cases hj : loc[j]? with
    | none => 
      have h1 : (sd_l ad loc)[j]? = none := by rw [sd_l, List.getElem?_map, hj]; rfl
      simp only [h1, h]
    | some q =>
      have h1 : (sd_l ad loc)[j]? = some (q.1, sd_v ad q.2) := sd_l_get hj
      simp only [h1, h]
      rfl
section SDR
variable {l : Launch} {E : sdE} {Y : sdY} {D : va_G} {tys : List (ClassId × FieldType)} {b n : Nat} {ad : Nat → Nat} {L : Nat → sdL} {aF : Nat → Nat} {F : sdM → Heap → Prop} {Q : Option Value → sdM → Prop} {X : String → sdM → Prop}
variable {pc : Nat} {loc : List (Nat × Value)} {st : List Value} {M : sdM} {rc rs : Nat}
theorem x_iconst {z : Int} {v : Int32} (d : decode Y.2.1 pc = .ok (.iconst z, 1)) (hv : Int32.ofInt z = v) (k : sdW l E Y D tys b n ad L aF F Q X (pc + 1) loc (.int v :: st) M rc rs) : sdW l E Y D tys b n ad L aF F Q X pc loc st M rc rs := by
  intro p e s m args below meth c H locs ls cells slots hC hK hH hS hl hc hs
  exact lv_iconst hC.1.1 hC.1.2.1 d hv (k p e s m args below meth c H locs ls cells slots hC hK hH hS hl hc hs)
theorem x_bipush {z : Int} {v : Int32} (d : decode Y.2.1 pc = .ok (.bipush z, 2)) (hv : (Int8.ofInt z).toInt32 = v) (k : sdW l E Y D tys b n ad L aF F Q X (pc + 2) loc (.int v :: st) M rc rs) : sdW l E Y D tys b n ad L aF F Q X pc loc st M rc rs := by
  intro p e s m args below meth c H locs ls cells slots hC hK hH hS hl hc hs
  exact lv_bipush hC.1.1 hC.1.2.1 d hv (k p e s m args below meth c H locs ls cells slots hC hK hH hS hl hc hs)
theorem x_sipush {z : Int} {v : Int32} (d : decode Y.2.1 pc = .ok (.sipush z, 3)) (hv : (Int16.ofInt z).toInt32 = v) (k : sdW l E Y D tys b n ad L aF F Q X (pc + 3) loc (.int v :: st) M rc rs) : sdW l E Y D tys b n ad L aF F Q X pc loc st M rc rs := by
  intro p e s m args below meth c H locs ls cells slots hC hK hH hS hl hc hs
  exact lv_sipush hC.1.1 hC.1.2.1 d hv (k p e s m args below meth c H locs ls cells slots hC hK hH hS hl hc hs)
theorem x_iload_n {f : Fin 4} (i j : Nat) {x : Int32} (d : decode Y.2.1 pc = .ok (.iload_n f, 1)) (hi : (f : Nat) = i) (h : loc[j]? = some (i, .int x)) (k : sdW l E Y D tys b n ad L aF F Q X (pc + 1) loc (.int x :: st) M rc rs) : sdW l E Y D tys b n ad L aF F Q X pc loc st M rc rs := by
  intro p e s m args below meth c H locs ls cells slots hC hK hH hS hl hc hs
  exact lv_iload_n hC.1.1 hC.1.2.1 d hi (lv_at hl j (sd_l_get h)) (k p e s m args below meth c H locs ls cells slots hC hK hH hS hl hc hs)
theorem x_iload (i j : Nat) {x : Int32} (d : decode Y.2.1 pc = .ok (.iload i, 2)) (h : loc[j]? = some (i, .int x)) (k : sdW l E Y D tys b n ad L aF F Q X (pc + 2) loc (.int x :: st) M rc rs) : sdW l E Y D tys b n ad L aF F Q X pc loc st M rc rs := by
  intro p e s m args below meth c H locs ls cells slots hC hK hH hS hl hc hs
  exact lv_iload hC.1.1 hC.1.2.1 d (lv_at hl j (sd_l_get h)) (k p e s m args below meth c H locs ls cells slots hC hK hH hS hl hc hs)
theorem x_aload_n {f : Fin 4} (i j : Nat) {x : Nat} (d : decode Y.2.1 pc = .ok (.aload_n f, 1)) (hi : (f : Nat) = i) (h : loc[j]? = some (i, .ref x)) (k : sdW l E Y D tys b n ad L aF F Q X (pc + 1) loc (.ref x :: st) M rc rs) : sdW l E Y D tys b n ad L aF F Q X pc loc st M rc rs := by
  intro p e s m args below meth c H locs ls cells slots hC hK hH hS hl hc hs
  exact lv_aload_n hC.1.1 hC.1.2.1 d hi (lv_at hl j (sd_l_get h)) (k p e s m args below meth c H locs ls cells slots hC hK hH hS hl hc hs)
theorem x_aload (i j : Nat) {x : Nat} (d : decode Y.2.1 pc = .ok (.aload i, 2)) (h : loc[j]? = some (i, .ref x)) (k : sdW l E Y D tys b n ad L aF F Q X (pc + 2) loc (.ref x :: st) M rc rs) : sdW l E Y D tys b n ad L aF F Q X pc loc st M rc rs := by
  intro p e s m args below meth c H locs ls cells slots hC hK hH hS hl hc hs
  exact lv_aload hC.1.1 hC.1.2.1 d (lv_at hl j (sd_l_get h)) (k p e s m args below meth c H locs ls cells slots hC hK hH hS hl hc hs)
theorem x_istore_n {f : Fin 4} (i : Nat) (loc' : List (Nat × Value)) {x : Int32} (d : decode Y.2.1 pc = .ok (.istore_n f, 1)) (hi : (f : Nat) = i) (hn : i < Y.2.2.1) (h : (i, Value.int x) :: loc.filter (fun q => !(q.1 == i) && !(q.1 + 1 == i && q.2.category == 2)) = loc') (k : sdW l E Y D tys b n ad L aF F Q X (pc + 1) loc' st M rc rs) : sdW l E Y D tys b n ad L aF F Q X pc loc (.int x :: st) M rc rs := by
  intro p e s m args below meth c H locs ls cells slots hC hK hH hS hl hc hs
  refine lv_istore_n hC.1.1 hC.1.2.1 d hi hl hn rfl (fun ls' hl' => ?_)
  rw [sd_l_flt] at hl'
  subst h
  exact k p e s m args below meth c H locs ls' cells slots hC hK hH hS hl' hc hs
theorem x_istore (i : Nat) (loc' : List (Nat × Value)) {x : Int32} (d : decode Y.2.1 pc = .ok (.istore i, 2)) (hn : i < Y.2.2.1) (h : (i, Value.int x) :: loc.filter (fun q => !(q.1 == i) && !(q.1 + 1 == i && q.2.category == 2)) = loc') (k : sdW l E Y D tys b n ad L aF F Q X (pc + 2) loc' st M rc rs) : sdW l E Y D tys b n ad L aF F Q X pc loc (.int x :: st) M rc rs := by
  intro p e s m args below meth c H locs ls cells slots hC hK hH hS hl hc hs
  refine lv_istore hC.1.1 hC.1.2.1 d hl hn rfl (fun ls' hl' => ?_)
  rw [sd_l_flt] at hl'
  subst h
  exact k p e s m args below meth c H locs ls' cells slots hC hK hH hS hl' hc hs
theorem x_astore_n {f : Fin 4} (i : Nat) (loc' : List (Nat × Value)) {x : Nat} (d : decode Y.2.1 pc = .ok (.astore_n f, 1)) (hi : (f : Nat) = i) (hn : i < Y.2.2.1) (h : (i, Value.ref x) :: loc.filter (fun q => !(q.1 == i) && !(q.1 + 1 == i && q.2.category == 2)) = loc') (k : sdW l E Y D tys b n ad L aF F Q X (pc + 1) loc' st M rc rs) : sdW l E Y D tys b n ad L aF F Q X pc loc (.ref x :: st) M rc rs := by
  intro p e s m args below meth c H locs ls cells slots hC hK hH hS hl hc hs
  refine lv_astore_n hC.1.1 hC.1.2.1 d hi hl hn rfl (fun ls' hl' => ?_)
  rw [sd_l_flt] at hl'
  subst h
  exact k p e s m args below meth c H locs ls' cells slots hC hK hH hS hl' hc hs
theorem x_astore (i : Nat) (loc' : List (Nat × Value)) {x : Nat} (d : decode Y.2.1 pc = .ok (.astore i, 2)) (hn : i < Y.2.2.1) (h : (i, Value.ref x) :: loc.filter (fun q => !(q.1 == i) && !(q.1 + 1 == i && q.2.category == 2)) = loc') (k : sdW l E Y D tys b n ad L aF F Q X (pc + 2) loc' st M rc rs) : sdW l E Y D tys b n ad L aF F Q X pc loc (.ref x :: st) M rc rs := by
  intro p e s m args below meth c H locs ls cells slots hC hK hH hS hl hc hs
  refine lv_astore hC.1.1 hC.1.2.1 d hl hn rfl (fun ls' hl' => ?_)
  rw [sd_l_flt] at hl'
  subst h
  exact k p e s m args below meth c H locs ls' cells slots hC hK hH hS hl' hc hs
theorem x_iinc (i j : Nat) (loc' : List (Nat × Value)) {z : Int} {x v : Int32} (d : decode Y.2.1 pc = .ok (.iinc i z, 3)) (hj : loc[j]? = some (i, .int x)) (hv : x + Int32.ofInt z = v) (hn : i < Y.2.2.1) (h : (i, Value.int v) :: loc.filter (fun q => !(q.1 == i) && !(q.1 + 1 == i && q.2.category == 2)) = loc') (k : sdW l E Y D tys b n ad L aF F Q X (pc + 3) loc' st M rc rs) : sdW l E Y D tys b n ad L aF F Q X pc loc st M rc rs := by
  intro p e s m args below meth c H locs ls cells slots hC hK hH hS hl hc hs
  refine lv_iinc hC.1.1 hC.1.2.1 d hl (sd_l_get hj) hv hn rfl (fun ls' hl' => ?_)
  rw [sd_l_flt] at hl'
  subst h
  exact k p e s m args below meth c H locs ls' cells slots hC hK hH hS hl' hc hs
theorem x_iadd {x y : Int32} (d : decode Y.2.1 pc = .ok (.iadd, 1)) (k : sdW l E Y D tys b n ad L aF F Q X (pc + 1) loc (.int (x + y) :: st) M rc rs) : sdW l E Y D tys b n ad L aF F Q X pc loc (.int y :: .int x :: st) M rc rs := by
  intro p e s m args below meth c H locs ls cells slots hC hK hH hS hl hc hs
  exact lv_iadd hC.1.1 hC.1.2.1 d (k p e s m args below meth c H locs ls cells slots hC hK hH hS hl hc hs)
theorem x_isub {x y : Int32} (d : decode Y.2.1 pc = .ok (.isub, 1)) (k : sdW l E Y D tys b n ad L aF F Q X (pc + 1) loc (.int (x - y) :: st) M rc rs) : sdW l E Y D tys b n ad L aF F Q X pc loc (.int y :: .int x :: st) M rc rs := by
  intro p e s m args below meth c H locs ls cells slots hC hK hH hS hl hc hs
  exact lv_isub hC.1.1 hC.1.2.1 d (k p e s m args below meth c H locs ls cells slots hC hK hH hS hl hc hs)
theorem x_imul {x y : Int32} (d : decode Y.2.1 pc = .ok (.imul, 1)) (k : sdW l E Y D tys b n ad L aF F Q X (pc + 1) loc (.int (x * y) :: st) M rc rs) : sdW l E Y D tys b n ad L aF F Q X pc loc (.int y :: .int x :: st) M rc rs := by
  intro p e s m args below meth c H locs ls cells slots hC hK hH hS hl hc hs
  exact lv_imul hC.1.1 hC.1.2.1 d (k p e s m args below meth c H locs ls cells slots hC hK hH hS hl hc hs)
theorem x_iand {x y : Int32} (d : decode Y.2.1 pc = .ok (.iand, 1)) (k : sdW l E Y D tys b n ad L aF F Q X (pc + 1) loc (.int (x &&& y) :: st) M rc rs) : sdW l E Y D tys b n ad L aF F Q X pc loc (.int y :: .int x :: st) M rc rs := by
  intro p e s m args below meth c H locs ls cells slots hC hK hH hS hl hc hs
  exact lv_iand hC.1.1 hC.1.2.1 d (k p e s m args below meth c H locs ls cells slots hC hK hH hS hl hc hs)
theorem x_ior {x y : Int32} (d : decode Y.2.1 pc = .ok (.ior, 1)) (k : sdW l E Y D tys b n ad L aF F Q X (pc + 1) loc (.int (x ||| y) :: st) M rc rs) : sdW l E Y D tys b n ad L aF F Q X pc loc (.int y :: .int x :: st) M rc rs := by
  intro p e s m args below meth c H locs ls cells slots hC hK hH hS hl hc hs
  exact lv_ior hC.1.1 hC.1.2.1 d (k p e s m args below meth c H locs ls cells slots hC hK hH hS hl hc hs)
theorem x_ixor {x y : Int32} (d : decode Y.2.1 pc = .ok (.ixor, 1)) (k : sdW l E Y D tys b n ad L aF F Q X (pc + 1) loc (.int (x ^^^ y) :: st) M rc rs) : sdW l E Y D tys b n ad L aF F Q X pc loc (.int y :: .int x :: st) M rc rs := by
  intro p e s m args below meth c H locs ls cells slots hC hK hH hS hl hc hs
  exact lv_ixor hC.1.1 hC.1.2.1 d (k p e s m args below meth c H locs ls cells slots hC hK hH hS hl hc hs)
theorem x_ishl {x y : Int32} (d : decode Y.2.1 pc = .ok (.ishl, 1)) (k : sdW l E Y D tys b n ad L aF F Q X (pc + 1) loc (.int (x <<< (y &&& 31)) :: st) M rc rs) : sdW l E Y D tys b n ad L aF F Q X pc loc (.int y :: .int x :: st) M rc rs := by
  intro p e s m args below meth c H locs ls cells slots hC hK hH hS hl hc hs
  exact lv_ishl hC.1.1 hC.1.2.1 d (k p e s m args below meth c H locs ls cells slots hC hK hH hS hl hc hs)
theorem x_ishr {x y : Int32} (d : decode Y.2.1 pc = .ok (.ishr, 1)) (k : sdW l E Y D tys b n ad L aF F Q X (pc + 1) loc (.int (x >>> (y &&& 31)) :: st) M rc rs) : sdW l E Y D tys b n ad L aF F Q X pc loc (.int y :: .int x :: st) M rc rs := by
  intro p e s m args below meth c H locs ls cells slots hC hK hH hS hl hc hs
  exact lv_ishr hC.1.1 hC.1.2.1 d (k p e s m args below meth c H locs ls cells slots hC hK hH hS hl hc hs)
theorem x_idiv {x y : Int32} (d : decode Y.2.1 pc = .ok (.idiv, 1)) (h : ¬ y = 0) (k : sdW l E Y D tys b n ad L aF F Q X (pc + 1) loc (.int (x / y) :: st) M rc rs) : sdW l E Y D tys b n ad L aF F Q X pc loc (.int y :: .int x :: st) M rc rs := by
  intro p e s m args below meth c H locs ls cells slots hC hK hH hS hl hc hs
  exact lv_idiv hC.1.1 hC.1.2.1 d h (k p e s m args below meth c H locs ls cells slots hC hK hH hS hl hc hs)
theorem x_irem {x y : Int32} (d : decode Y.2.1 pc = .ok (.irem, 1)) (h : ¬ y = 0) (k : sdW l E Y D tys b n ad L aF F Q X (pc + 1) loc (.int (x - x / y * y) :: st) M rc rs) : sdW l E Y D tys b n ad L aF F Q X pc loc (.int y :: .int x :: st) M rc rs := by
  intro p e s m args below meth c H locs ls cells slots hC hK hH hS hl hc hs
  exact lv_irem hC.1.1 hC.1.2.1 d h (k p e s m args below meth c H locs ls cells slots hC hK hH hS hl hc hs)
theorem x_ineg {x : Int32} (d : decode Y.2.1 pc = .ok (.ineg, 1)) (k : sdW l E Y D tys b n ad L aF F Q X (pc + 1) loc (.int (-x) :: st) M rc rs) : sdW l E Y D tys b n ad L aF F Q X pc loc (.int x :: st) M rc rs := by
  intro p e s m args below meth c H locs ls cells slots hC hK hH hS hl hc hs
  exact lv_ineg hC.1.1 hC.1.2.1 d (k p e s m args below meth c H locs ls cells slots hC hK hH hS hl hc hs)
theorem x_dup {va : Value} (d : decode Y.2.1 pc = .ok (.dup, 1)) (hva : va.category = 1) (k : sdW l E Y D tys b n ad L aF F Q X (pc + 1) loc (va :: va :: st) M rc rs) : sdW l E Y D tys b n ad L aF F Q X pc loc (va :: st) M rc rs := by
  intro p e s m args below meth c H locs ls cells slots hC hK hH hS hl hc hs
  exact lv_dup hC.1.1 hC.1.2.1 d ((sd_v_cat ad va).trans hva) (k p e s m args below meth c H locs ls cells slots hC hK hH hS hl hc hs)
theorem x_pop {va : Value} (d : decode Y.2.1 pc = .ok (.pop, 1)) (hva : va.category = 1) (k : sdW l E Y D tys b n ad L aF F Q X (pc + 1) loc st M rc rs) : sdW l E Y D tys b n ad L aF F Q X pc loc (va :: st) M rc rs := by
  intro p e s m args below meth c H locs ls cells slots hC hK hH hS hl hc hs
  exact lv_pop hC.1.1 hC.1.2.1 d ((sd_v_cat ad va).trans hva) (k p e s m args below meth c H locs ls cells slots hC hK hH hS hl hc hs)
theorem x_dup_x1 {va vb : Value} (d : decode Y.2.1 pc = .ok (.dup_x1, 1)) (hva : va.category = 1) (hvb : vb.category = 1) (k : sdW l E Y D tys b n ad L aF F Q X (pc + 1) loc (va :: vb :: va :: st) M rc rs) : sdW l E Y D tys b n ad L aF F Q X pc loc (va :: vb :: st) M rc rs := by
  intro p e s m args below meth c H locs ls cells slots hC hK hH hS hl hc hs
  exact lv_dup_x1 hC.1.1 hC.1.2.1 d ((sd_v_cat ad va).trans hva) ((sd_v_cat ad vb).trans hvb) (k p e s m args below meth c H locs ls cells slots hC hK hH hS hl hc hs)
theorem x_dup_x2 {va vb vd : Value} (d : decode Y.2.1 pc = .ok (.dup_x2, 1)) (hva : va.category = 1) (hvb : vb.category = 1) (hvd : vd.category = 1) (k : sdW l E Y D tys b n ad L aF F Q X (pc + 1) loc (va :: vb :: vd :: va :: st) M rc rs) : sdW l E Y D tys b n ad L aF F Q X pc loc (va :: vb :: vd :: st) M rc rs := by
  intro p e s m args below meth c H locs ls cells slots hC hK hH hS hl hc hs
  exact lv_dup_x2 hC.1.1 hC.1.2.1 d ((sd_v_cat ad va).trans hva) ((sd_v_cat ad vb).trans hvb) ((sd_v_cat ad vd).trans hvd) (k p e s m args below meth c H locs ls cells slots hC hK hH hS hl hc hs)
theorem x_dup2 {va vb : Value} (d : decode Y.2.1 pc = .ok (.dup2, 1)) (hva : va.category = 1) (hvb : vb.category = 1) (k : sdW l E Y D tys b n ad L aF F Q X (pc + 1) loc (va :: vb :: va :: vb :: st) M rc rs) : sdW l E Y D tys b n ad L aF F Q X pc loc (va :: vb :: st) M rc rs := by
  intro p e s m args below meth c H locs ls cells slots hC hK hH hS hl hc hs
  exact lv_dup2_11 hC.1.1 hC.1.2.1 d ((sd_v_cat ad va).trans hva) ((sd_v_cat ad vb).trans hvb) (k p e s m args below meth c H locs ls cells slots hC hK hH hS hl hc hs)
theorem x_if_eq {x : Int32} {off : Int} (tgt : Nat) (d : decode Y.2.1 pc = .ok (.ifCond .eq off, 3)) (ht : (pc : Int) + off = (tgt : Int)) (kt : x = 0 → sdW l E Y D tys b n ad L aF F Q X tgt loc st M rc rs) (kf : ¬ x = 0 → sdW l E Y D tys b n ad L aF F Q X (pc + 3) loc st M rc rs) : sdW l E Y D tys b n ad L aF F Q X pc loc (.int x :: st) M rc rs := by
  intro p e s m args below meth c H locs ls cells slots hC hK hH hS hl hc hs
  exact lv_if_eq hC.1.1 hC.1.2.1 d ht (fun h => kt h p e s m args below meth c H locs ls cells slots hC hK hH hS hl hc hs) (fun h => kf h p e s m args below meth c H locs ls cells slots hC hK hH hS hl hc hs)
theorem x_if_ne {x : Int32} {off : Int} (tgt : Nat) (d : decode Y.2.1 pc = .ok (.ifCond .ne off, 3)) (ht : (pc : Int) + off = (tgt : Int)) (kt : ¬ x = 0 → sdW l E Y D tys b n ad L aF F Q X tgt loc st M rc rs) (kf : x = 0 → sdW l E Y D tys b n ad L aF F Q X (pc + 3) loc st M rc rs) : sdW l E Y D tys b n ad L aF F Q X pc loc (.int x :: st) M rc rs := by
  intro p e s m args below meth c H locs ls cells slots hC hK hH hS hl hc hs
  exact lv_if_ne hC.1.1 hC.1.2.1 d ht (fun h => kt h p e s m args below meth c H locs ls cells slots hC hK hH hS hl hc hs) (fun h => kf h p e s m args below meth c H locs ls cells slots hC hK hH hS hl hc hs)
theorem x_if_lt {x : Int32} {off : Int} (tgt : Nat) (d : decode Y.2.1 pc = .ok (.ifCond .lt off, 3)) (ht : (pc : Int) + off = (tgt : Int)) (kt : x < 0 → sdW l E Y D tys b n ad L aF F Q X tgt loc st M rc rs) (kf : ¬ x < 0 → sdW l E Y D tys b n ad L aF F Q X (pc + 3) loc st M rc rs) : sdW l E Y D tys b n ad L aF F Q X pc loc (.int x :: st) M rc rs := by
  intro p e s m args below meth c H locs ls cells slots hC hK hH hS hl hc hs
  exact lv_if_lt hC.1.1 hC.1.2.1 d ht (fun h => kt h p e s m args below meth c H locs ls cells slots hC hK hH hS hl hc hs) (fun h => kf h p e s m args below meth c H locs ls cells slots hC hK hH hS hl hc hs)
theorem x_if_ge {x : Int32} {off : Int} (tgt : Nat) (d : decode Y.2.1 pc = .ok (.ifCond .ge off, 3)) (ht : (pc : Int) + off = (tgt : Int)) (kt : 0 ≤ x → sdW l E Y D tys b n ad L aF F Q X tgt loc st M rc rs) (kf : ¬ 0 ≤ x → sdW l E Y D tys b n ad L aF F Q X (pc + 3) loc st M rc rs) : sdW l E Y D tys b n ad L aF F Q X pc loc (.int x :: st) M rc rs := by
  intro p e s m args below meth c H locs ls cells slots hC hK hH hS hl hc hs
  exact lv_if_ge hC.1.1 hC.1.2.1 d ht (fun h => kt h p e s m args below meth c H locs ls cells slots hC hK hH hS hl hc hs) (fun h => kf h p e s m args below meth c H locs ls cells slots hC hK hH hS hl hc hs)
theorem x_if_gt {x : Int32} {off : Int} (tgt : Nat) (d : decode Y.2.1 pc = .ok (.ifCond .gt off, 3)) (ht : (pc : Int) + off = (tgt : Int)) (kt : 0 < x → sdW l E Y D tys b n ad L aF F Q X tgt loc st M rc rs) (kf : ¬ 0 < x → sdW l E Y D tys b n ad L aF F Q X (pc + 3) loc st M rc rs) : sdW l E Y D tys b n ad L aF F Q X pc loc (.int x :: st) M rc rs := by
  intro p e s m args below meth c H locs ls cells slots hC hK hH hS hl hc hs
  exact lv_if_gt hC.1.1 hC.1.2.1 d ht (fun h => kt h p e s m args below meth c H locs ls cells slots hC hK hH hS hl hc hs) (fun h => kf h p e s m args below meth c H locs ls cells slots hC hK hH hS hl hc hs)
theorem x_if_le {x : Int32} {off : Int} (tgt : Nat) (d : decode Y.2.1 pc = .ok (.ifCond .le off, 3)) (ht : (pc : Int) + off = (tgt : Int)) (kt : x ≤ 0 → sdW l E Y D tys b n ad L aF F Q X tgt loc st M rc rs) (kf : ¬ x ≤ 0 → sdW l E Y D tys b n ad L aF F Q X (pc + 3) loc st M rc rs) : sdW l E Y D tys b n ad L aF F Q X pc loc (.int x :: st) M rc rs := by
  intro p e s m args below meth c H locs ls cells slots hC hK hH hS hl hc hs
  exact lv_if_le hC.1.1 hC.1.2.1 d ht (fun h => kt h p e s m args below meth c H locs ls cells slots hC hK hH hS hl hc hs) (fun h => kf h p e s m args below meth c H locs ls cells slots hC hK hH hS hl hc hs)
theorem x_icmp_eq {x y : Int32} {off : Int} (tgt : Nat) (d : decode Y.2.1 pc = .ok (.if_icmp .eq off, 3)) (ht : (pc : Int) + off = (tgt : Int)) (kt : x = y → sdW l E Y D tys b n ad L aF F Q X tgt loc st M rc rs) (kf : ¬ x = y → sdW l E Y D tys b n ad L aF F Q X (pc + 3) loc st M rc rs) : sdW l E Y D tys b n ad L aF F Q X pc loc (.int y :: .int x :: st) M rc rs := by
  intro p e s m args below meth c H locs ls cells slots hC hK hH hS hl hc hs
  exact lv_icmp_eq hC.1.1 hC.1.2.1 d ht (fun h => kt h p e s m args below meth c H locs ls cells slots hC hK hH hS hl hc hs) (fun h => kf h p e s m args below meth c H locs ls cells slots hC hK hH hS hl hc hs)
theorem x_icmp_ne {x y : Int32} {off : Int} (tgt : Nat) (d : decode Y.2.1 pc = .ok (.if_icmp .ne off, 3)) (ht : (pc : Int) + off = (tgt : Int)) (kt : ¬ x = y → sdW l E Y D tys b n ad L aF F Q X tgt loc st M rc rs) (kf : x = y → sdW l E Y D tys b n ad L aF F Q X (pc + 3) loc st M rc rs) : sdW l E Y D tys b n ad L aF F Q X pc loc (.int y :: .int x :: st) M rc rs := by
  intro p e s m args below meth c H locs ls cells slots hC hK hH hS hl hc hs
  exact lv_icmp_ne hC.1.1 hC.1.2.1 d ht (fun h => kt h p e s m args below meth c H locs ls cells slots hC hK hH hS hl hc hs) (fun h => kf h p e s m args below meth c H locs ls cells slots hC hK hH hS hl hc hs)
theorem x_icmp_lt {x y : Int32} {off : Int} (tgt : Nat) (d : decode Y.2.1 pc = .ok (.if_icmp .lt off, 3)) (ht : (pc : Int) + off = (tgt : Int)) (kt : x < y → sdW l E Y D tys b n ad L aF F Q X tgt loc st M rc rs) (kf : ¬ x < y → sdW l E Y D tys b n ad L aF F Q X (pc + 3) loc st M rc rs) : sdW l E Y D tys b n ad L aF F Q X pc loc (.int y :: .int x :: st) M rc rs := by
  intro p e s m args below meth c H locs ls cells slots hC hK hH hS hl hc hs
  exact lv_icmp_lt hC.1.1 hC.1.2.1 d ht (fun h => kt h p e s m args below meth c H locs ls cells slots hC hK hH hS hl hc hs) (fun h => kf h p e s m args below meth c H locs ls cells slots hC hK hH hS hl hc hs)
theorem x_icmp_ge {x y : Int32} {off : Int} (tgt : Nat) (d : decode Y.2.1 pc = .ok (.if_icmp .ge off, 3)) (ht : (pc : Int) + off = (tgt : Int)) (kt : y ≤ x → sdW l E Y D tys b n ad L aF F Q X tgt loc st M rc rs) (kf : ¬ y ≤ x → sdW l E Y D tys b n ad L aF F Q X (pc + 3) loc st M rc rs) : sdW l E Y D tys b n ad L aF F Q X pc loc (.int y :: .int x :: st) M rc rs := by
  intro p e s m args below meth c H locs ls cells slots hC hK hH hS hl hc hs
  exact lv_icmp_ge hC.1.1 hC.1.2.1 d ht (fun h => kt h p e s m args below meth c H locs ls cells slots hC hK hH hS hl hc hs) (fun h => kf h p e s m args below meth c H locs ls cells slots hC hK hH hS hl hc hs)
theorem x_icmp_gt {x y : Int32} {off : Int} (tgt : Nat) (d : decode Y.2.1 pc = .ok (.if_icmp .gt off, 3)) (ht : (pc : Int) + off = (tgt : Int)) (kt : y < x → sdW l E Y D tys b n ad L aF F Q X tgt loc st M rc rs) (kf : ¬ y < x → sdW l E Y D tys b n ad L aF F Q X (pc + 3) loc st M rc rs) : sdW l E Y D tys b n ad L aF F Q X pc loc (.int y :: .int x :: st) M rc rs := by
  intro p e s m args below meth c H locs ls cells slots hC hK hH hS hl hc hs
  exact lv_icmp_gt hC.1.1 hC.1.2.1 d ht (fun h => kt h p e s m args below meth c H locs ls cells slots hC hK hH hS hl hc hs) (fun h => kf h p e s m args below meth c H locs ls cells slots hC hK hH hS hl hc hs)
theorem x_icmp_le {x y : Int32} {off : Int} (tgt : Nat) (d : decode Y.2.1 pc = .ok (.if_icmp .le off, 3)) (ht : (pc : Int) + off = (tgt : Int)) (kt : x ≤ y → sdW l E Y D tys b n ad L aF F Q X tgt loc st M rc rs) (kf : ¬ x ≤ y → sdW l E Y D tys b n ad L aF F Q X (pc + 3) loc st M rc rs) : sdW l E Y D tys b n ad L aF F Q X pc loc (.int y :: .int x :: st) M rc rs := by
  intro p e s m args below meth c H locs ls cells slots hC hK hH hS hl hc hs
  exact lv_icmp_le hC.1.1 hC.1.2.1 d ht (fun h => kt h p e s m args below meth c H locs ls cells slots hC hK hH hS hl hc hs) (fun h => kf h p e s m args below meth c H locs ls cells slots hC hK hH hS hl hc hs)
theorem x_goto {off : Int} (tgt : Nat) (d : decode Y.2.1 pc = .ok (.goto off, 3)) (ht : (pc : Int) + off = (tgt : Int)) (k : sdW l E Y D tys b n ad L aF F Q X tgt loc st M rc rs) : sdW l E Y D tys b n ad L aF F Q X pc loc st M rc rs := by
  intro p e s m args below meth c H locs ls cells slots hC hK hH hS hl hc hs
  exact lv_goto hC.1.1 hC.1.2.1 d ht (k p e s m args below meth c H locs ls cells slots hC hK hH hS hl hc hs)
theorem x_sub (js : List Nat) (loc' : List (Nat × Value)) (h : lv_pick loc js = loc') (k : sdW l E Y D tys b n ad L aF F Q X pc loc' st M rc rs) : sdW l E Y D tys b n ad L aF F Q X pc loc st M rc rs := by
  intro p e s m args below meth c H locs ls cells slots hC hK hH hS hl hc hs
  subst h
  exact k p e s m args below meth c H locs ls cells slots hC hK hH hS (lv_sub hl js (sd_l_pick loc js)) hc hs
theorem x_wide (rc' rs' : Nat) (h1 : rc' ≤ rc) (h2 : rs' ≤ rs) (k : sdW l E Y D tys b n ad L aF F Q X pc loc st M rc' rs') : sdW l E Y D tys b n ad L aF F Q X pc loc st M rc rs := by
  intro p e s m args below meth c H locs ls cells slots hC hK hH hS hl hc hs
  exact k p e s m args below meth c H locs ls cells slots hC hK hH hS hl (by omega) (by omega)
theorem x_same {pc' : Nat} {loc' : List (Nat × Value)} {st' : List Value} {M' : sdM} (k : sdW l E Y D tys b n ad L aF F Q X pc' loc' st' M' rc rs) (h1 : pc' = pc) (h2 : loc' = loc) (h3 : st' = st) (h4 : M' = M) : sdW l E Y D tys b n ad L aF F Q X pc loc st M rc rs := by
  subst h1 h2 h3 h4
  exact k
theorem x_geti (j : Nat) {t ci N : Nat} {fs : List (Option (Option Nat))} {C ref : String} {T : u_T} {idx : Nat} (d : decode Y.2.1 pc = .ok (.getfield idx, 3)) (hn : t < n) (hL : L t = sd_O ci fs) (hj : fs[j]? = some none) (hc9 : E.1[ci]? = some (C, T, N)) (hN : j < N) (hin : ∀ w ∈ u_ws C T N, w ∈ Y.2.2.2.2.1) (hlk : Cond.fieldLink Y.1 idx ref (T j).2.1 (T j).2.2.1 ∈ Y.2.2.2.2.1) (href : ref = (T j).1) (k : sdW l E Y D tys b n ad L aF F Q X (pc + 3) loc (.int (M t j) :: st) M rc rs) : sdW l E Y D tys b n ad L aF F Q X pc loc (.ref t :: st) M rc rs := by
  intro p e s m args below meth c H locs ls cells slots hC hK hH hS hl hc hs
  subst href
  have hat := hH t hn
  rw [hL] at hat
  refine va_get hC.1.1 hC.1.2.1 hC.1.2.2.2.2 hin hC.1.2.2.2.1 hK.1 (ws := [(ad t, .inr (ci, sd_fv ad (M t) 0 fs))]) (sd_one hat) 0 rfl hc9 j hN (hC.1.2.2.2.2 _ hlk) (fun _ h => h) (v := .int (M t j)) ?_ d (k p e s m args below meth c H locs ls cells slots hC hK hH hS hl hc hs)
  have h9 := sd_fv_at (ad := ad) (f := M t) fs 0 j hj
  rwa [Nat.zero_add] at h9
theorem x_getr (j u : Nat) {t ci N : Nat} {fs : List (Option (Option Nat))} {C ref : String} {T : u_T} {idx : Nat} (d : decode Y.2.1 pc = .ok (.getfield idx, 3)) (hn : t < n) (hL : L t = sd_O ci fs) (hj : fs[j]? = some (some (some u))) (hc9 : E.1[ci]? = some (C, T, N)) (hN : j < N) (hin : ∀ w ∈ u_ws C T N, w ∈ Y.2.2.2.2.1) (hlk : Cond.fieldLink Y.1 idx ref (T j).2.1 (T j).2.2.1 ∈ Y.2.2.2.2.1) (href : ref = (T j).1) (k : sdW l E Y D tys b n ad L aF F Q X (pc + 3) loc (.ref u :: st) M rc rs) : sdW l E Y D tys b n ad L aF F Q X pc loc (.ref t :: st) M rc rs := by
  intro p e s m args below meth c H locs ls cells slots hC hK hH hS hl hc hs
  subst href
  have hat := hH t hn
  rw [hL] at hat
  exact va_get hC.1.1 hC.1.2.1 hC.1.2.2.2.2 hin hC.1.2.2.2.1 hK.1 (ws := [(ad t, .inr (ci, sd_fv ad (M t) 0 fs))]) (sd_one hat) 0 rfl hc9 j hN (hC.1.2.2.2.2 _ hlk) (fun _ h => h) (v := .ref (ad u)) (sd_fv_at fs 0 j hj) d (k p e s m args below meth c H locs ls cells slots hC hK hH hS hl hc hs)
theorem x_puti (j : Nat) {t ci N : Nat} {fs : List (Option (Option Nat))} {C ref : String} {T : u_T} {idx : Nat} {ty : FieldType} {x : Int32} (hA : sd_ad b n ad) (d : decode Y.2.1 pc = .ok (.putfield idx, 3)) (hn : t < n) (hL : L t = sd_O ci fs) (hj : fs[j]? = some none) (hc9 : E.1[ci]? = some (C, T, N)) (hN : j < N) (hin : ∀ w ∈ u_ws C T N, w ∈ Y.2.2.2.2.1) (hlk : Cond.fieldLink Y.1 idx ref (T j).2.1 (T j).2.2.1 ∈ Y.2.2.2.2.1) (href : ref = (T j).1) (ty0 : Nat → FieldType) (hty : ∀ k, k < N → parseFieldDescriptor (T k).2.2.1 = some (ty0 k)) (hnm : ∀ a, a < N → ∀ b, b < N → a ≠ b → (T a).2.1 ≠ (T b).2.1) (hfin : (T j).2.2.2 = false) (hd : parseFieldDescriptor (T j).2.2.1 = some ty) (hnr : narrow ty (.int x) = .int x) (hft : fits ty (.int x) = true) (k : ∀ M1 : sdM, M1 = sd_s M t j x → sdW l E Y D tys b n ad L aF F Q X (pc + 3) loc st M1 rc rs) : sdW l E Y D tys b n ad L aF F Q X pc loc (.int x :: .ref t :: st) M rc rs := by
  intro p e s m args below meth c H locs ls cells slots hC hK hH hS hl hc hs
  subst href
  have hG : (sd_G n ad L M)[t]? = some (ad t, .inr (ci, sd_fv ad (M t) 0 fs)) := by rw [sd_G_get hn, hL]; rfl
  refine va_put (v := .int x) hC.1.1 hC.1.2.1 hC.1.2.2.2.2 hin ty0 hty hnm hC.1.2.2.2.1 hK.1 hH.toP hA.toD hS t hG hc9 j hN (hC.1.2.2.2.2 _ hlk) (fun _ h => h) hfin hd hnr hft (by rw [sd_fv_len]; exact (List.getElem?_eq_some_iff.mp hj).1) d (fun H1 locs1 hP1 _ hS1 => ?_)
  have he : (Sum.inr (ci, (sd_fv ad (M t) 0 fs).set j (.int x)) : va_E) = L t ad (upd (M t) j x) := by
    rw [hL, sd_fv_set fs 0 j hj, Nat.zero_add]; rfl
  rw [sd_G_set hn he] at hP1
  exact k _ rfl p e s m args below meth c H1 locs1 ls cells slots hC hK (sd_H.ofP hP1) hS1 hl hc hs
theorem x_iald {t len : Nat} {cA : ClassId} {i : Int32} (d : decode Y.2.1 pc = .ok (.iaload, 1)) (hn : t < n) (hL : L t = sd_I cA len) (ht : tys[0]? = some (cA, .int)) (hi : vp_in i len) (k : sdW l E Y D tys b n ad L aF F Q X (pc + 1) loc (.int (M t i.toNatClampNeg) :: st) M rc rs) : sdW l E Y D tys b n ad L aF F Q X pc loc (.int i :: .ref t :: st) M rc rs := by
  intro p e s m args below meth c H locs ls cells slots hC hK hH hS hl hc hs
  have hat := hH t hn
  rw [hL] at hat
  exact va_iald hC.1.1 hC.1.2.1 hK.1 (ws := [(ad t, .inl (cA, len, .inl (M t)))]) (sd_one hat) 0 0 rfl ht hi d (k p e s m args below meth c H locs ls cells slots hC hK hH hS hl hc hs)
theorem x_zald {t len : Nat} {cA : ClassId} {i : Int32} (d : decode Y.2.1 pc = .ok (.baload, 1)) (hn : t < n) (hL : L t = sd_I cA len) (ht : tys[1]? = some (cA, .boolean)) (hi : vp_in i len) (k : sdW l E Y D tys b n ad L aF F Q X (pc + 1) loc (.int (M t i.toNatClampNeg) :: st) M rc rs) : sdW l E Y D tys b n ad L aF F Q X pc loc (.int i :: .ref t :: st) M rc rs := by
  intro p e s m args below meth c H locs ls cells slots hC hK hH hS hl hc hs
  have hat := hH t hn
  rw [hL] at hat
  exact va_zald hC.1.1 hC.1.2.1 hK.1 (ws := [(ad t, .inl (cA, len, .inl (M t)))]) (sd_one hat) 0 1 rfl ht hi d (k p e s m args below meth c H locs ls cells slots hC hK hH hS hl hc hs)
theorem x_aald (j : Nat) {t len t0 : Nat} {cA : ClassId} {C : String} {g : Nat → Nat} {i : Int32} (d : decode Y.2.1 pc = .ok (.aaload, 1)) (hn : t < n) (hL : L t = sd_Q cA len g) (ht : tys[t0]? = some (cA, .object C)) (hi : vp_in i len) (hj : g i.toNatClampNeg = j) (k : sdW l E Y D tys b n ad L aF F Q X (pc + 1) loc (.ref j :: st) M rc rs) : sdW l E Y D tys b n ad L aF F Q X pc loc (.int i :: .ref t :: st) M rc rs := by
  intro p e s m args below meth c H locs ls cells slots hC hK hH hS hl hc hs
  subst hj
  have hat := hH t hn
  rw [hL] at hat
  refine va_aldq hC.1.1 hC.1.2.1 hK.1 (ws := [(ad t, .inl (cA, len, .inr (.inr (.inr (.inr (fun j => if j < len then some (ad (g j)) else none))))))]) (sd_one hat) 0 t0 rfl ht hi d ?_
  show W p l e Y.2.2.2.2.2.1 s m args below meth c H locs cells slots _ (F0 m (pc + 1) ls (va_rf (if i.toNatClampNeg < len then some (ad (g i.toNatClampNeg)) else none) :: st.map (sd_v ad)))
  rw [if_pos (Nat.not_le.mp fun q => hi (Or.inr q))]
  exact k p e s m args below meth c H locs ls cells slots hC hK hH hS hl hc hs
theorem x_iast {t len : Nat} {cA : ClassId} {i x : Int32} (hA : sd_ad b n ad) (d : decode Y.2.1 pc = .ok (.iastore, 1)) (hn : t < n) (hL : L t = sd_I cA len) (ht : tys[0]? = some (cA, .int)) (hi : vp_in i len) (k : ∀ M1 : sdM, M1 = sd_s M t i.toNatClampNeg x → sdW l E Y D tys b n ad L aF F Q X (pc + 1) loc st M1 rc rs) : sdW l E Y D tys b n ad L aF F Q X pc loc (.int x :: .int i :: .ref t :: st) M rc rs := by
  intro p e s m args below meth c H locs ls cells slots hC hK hH hS hl hc hs
  have hG : (sd_G n ad L M)[t]? = some (ad t, .inl (cA, len, .inl (M t))) := by rw [sd_G_get hn, hL]; rfl
  refine va_iast hC.1.1 hC.1.2.1 hK.1 hH.toP hA.toD hS t 0 hG ht hi d (fun H1 locs1 hP1 _ hS1 => ?_)
  have he : (Sum.inl (cA, len, Sum.inl (upd (M t) i.toNatClampNeg x)) : va_E) = L t ad (upd (M t) i.toNatClampNeg x) := by rw [hL]; rfl
  rw [sd_G_set hn he] at hP1
  exact k _ rfl p e s m args below meth c H1 locs1 ls cells slots hC hK (sd_H.ofP hP1) hS1 hl hc hs
theorem x_zast {t len : Nat} {cA : ClassId} {i x : Int32} (hA : sd_ad b n ad) (d : decode Y.2.1 pc = .ok (.bastore, 1)) (hn : t < n) (hL : L t = sd_I cA len) (ht : tys[1]? = some (cA, .boolean)) (hi : vp_in i len) (hx : vp_nar .boolean x = x) (k : ∀ M1 : sdM, M1 = sd_s M t i.toNatClampNeg x → sdW l E Y D tys b n ad L aF F Q X (pc + 1) loc st M1 rc rs) : sdW l E Y D tys b n ad L aF F Q X pc loc (.int x :: .int i :: .ref t :: st) M rc rs := by
  intro p e s m args below meth c H locs ls cells slots hC hK hH hS hl hc hs
  have hG : (sd_G n ad L M)[t]? = some (ad t, .inl (cA, len, .inl (M t))) := by rw [sd_G_get hn, hL]; rfl
  refine va_zast hC.1.1 hC.1.2.1 hK.1 hH.toP hA.toD hS t 1 hG ht hi d (fun H1 locs1 hP1 _ hS1 => ?_)
  rw [hx] at hP1
  have he : (Sum.inl (cA, len, Sum.inl (upd (M t) i.toNatClampNeg x)) : va_E) = L t ad (upd (M t) i.toNatClampNeg x) := by rw [hL]; rfl
  rw [sd_G_set hn he] at hP1
  exact k _ rfl p e s m args below meth c H1 locs1 ls cells slots hC hK (sd_H.ofP hP1) hS1 hl hc hs
theorem x_iret {x : Int32} (d : decode Y.2.1 pc = .ok (.ireturn, 1)) (hr : Y.2.2.2.1 = some .int) (hF : ∀ H : Heap, sd_H D E.1 n ad L M H → F M H) (k : Q (some (.int x)) M) : sdW l E Y D tys b n ad L aF F Q X pc loc [.int x] M rc rs := by
  intro p e s m args below meth c H locs ls cells slots hC hK hH hS hl hc hs
  refine W.widen (k := Y.2.2.2.2.2.2.1) (n := Y.2.2.2.2.2.2.2) (by omega) (by omega) (sd_ret ?_)
  exact W.iret hC.1.1 hC.1.2.1 (hC.2.2.1.trans hr) (fun t ht _ => ⟨some (.int x), M, rfl, k, by rw [ht]; exact hF H hH, hS.F ht⟩) hS.2.2 d hC.2.1
theorem x_zret {x : Int32} (d : decode Y.2.1 pc = .ok (.ireturn, 1)) (hr : Y.2.2.2.1 = some .boolean) (hx : narrow .boolean (.int x) = .int x) (hF : ∀ H : Heap, sd_H D E.1 n ad L M H → F M H) (k : Q (some (.int x)) M) : sdW l E Y D tys b n ad L aF F Q X pc loc [.int x] M rc rs := by
  intro p e s m args below meth c H locs ls cells slots hC hK hH hS hl hc hs
  refine W.widen (k := Y.2.2.2.2.2.2.1) (n := Y.2.2.2.2.2.2.2) (by omega) (by omega) (sd_ret ?_)
  exact W.zret hC.1.1 hC.1.2.1 (hC.2.2.1.trans hr) hx (fun t ht _ => ⟨some (.int x), M, rfl, k, by rw [ht]; exact hF H hH, hS.F ht⟩) hS.2.2 d hC.2.1
theorem x_vret (d : decode Y.2.1 pc = .ok (.return_, 1)) (hr : Y.2.2.2.1 = none) (hF : ∀ H : Heap, sd_H D E.1 n ad L M H → F M H) (k : Q none M) : sdW l E Y D tys b n ad L aF F Q X pc loc [] M rc rs := by
  intro p e s m args below meth c H locs ls cells slots hC hK hH hS hl hc hs
  refine W.widen (k := Y.2.2.2.2.2.2.1) (n := Y.2.2.2.2.2.2.2) (by omega) (by omega) (sd_ret ?_)
  exact W.vret hC.1.1 hC.1.2.1 (hC.2.2.1.trans hr) (fun t ht _ => ⟨none, M, rfl, k, by rw [ht]; exact hF H hH, hS.F ht⟩) hS.2.2 d hC.2.1
theorem x_aret {t : Nat} {nm : String} (d : decode Y.2.1 pc = .ok (.areturn, 1)) (hr : Y.2.2.2.1 = some (.object nm)) (ha : ad t = aF t) (hF : ∀ H : Heap, sd_H D E.1 n ad L M H → F M H) (k : Q (some (.ref t)) M) : sdW l E Y D tys b n ad L aF F Q X pc loc [.ref t] M rc rs := by
  intro p e s m args below meth c H locs ls cells slots hC hK hH hS hl hc hs
  refine W.widen (k := Y.2.2.2.2.2.2.1) (n := Y.2.2.2.2.2.2.2) (by omega) (by omega) (sd_ret ?_)
  exact W.aret (v := .ref (ad t)) hC.1.1 hC.1.2.1 (hC.2.2.1.trans hr) (Or.inl ⟨_, rfl⟩) (Or.inr ⟨_, rfl⟩) (fun t' ht _ => ⟨some (.ref t), M, by rw [ha]; rfl, k, by rw [ht]; exact hF H hH, hS.F ht⟩) hS.2.2 d hC.2.1
theorem x_callVg {Y' : sdY} {y : MethodName} {idx na : Nat} {As rest st0 : List Value} {Q' : Option Value → sdM → Prop} {X' : String → sdM → Prop} {t ci N : Nat} {fs : List (Option (Option Nat))} {C : String} {T : u_T} (hCn : sd_Cn l E y Y'.2.2.2.2.1 Y'.2.2.2.2.2.1 Y'.2.2.2.2.2.2.1 Y'.2.2.2.2.2.2.2 D tys b n ad L M (.ref t :: As) Q' X') (hcw : sd_cwV Y Y' y idx na C) (hn : t < n) (hL : L t = sd_O ci fs) (hc9 : E.1[ci]? = some (C, T, N)) (d : decode Y.2.1 pc = .ok (.invokevirtual idx, 3)) (hna : As.length = na) (hst : st0 = As.reverse ++ .ref t :: rest) (hcat : (rest.map fun v => v.category).sum ≤ 8) (hX : ∀ E' M', X' E' M' → X E' M') (hF : ∀ (M : sdM) (H : Heap), sd_H D E.1 n ad L M H → F M H)
    (k : ∀ (v : Option Value) (M' : sdM), Q' v M' → sdW l E Y D tys b n ad L aF F Q X (pc + 3) loc (v.toList ++ rest) M' rc rs) : sdW l E Y D tys b n ad L aF F Q X pc loc st0 M (rc + Y'.2.2.2.2.2.2.1) (rs + Y'.2.2.2.2.2.2.2) := by
  intro p e s m args below meth c H locs ls cells slots hC hK hH hS hl hc hs
  subst hst
  obtain ⟨g1, ⟨ws', g2⟩, ⟨g3, g4, g5, g6⟩, g7, g8⟩ := hcw
  intro T hT X0
  subst hT
  have hat := hH t hn
  rw [hL] at hat
  have gws : GoodIn Y.2.2.2.2.1 Y'.2.2.2.2.1 := fun w h => g1 w (by unfold wsV; exact List.mem_append_right _ h)
  have ok : ∀ w ∈ wsV Y.1 idx C y Y'.2.2.2.2.1, w.before args s = true := fun w h => hC.1.2.2.2.2 w (g1 w h).1
  obtain ⟨rfl, hy1, hy2, hy3⟩ := g7
  have hini : (Cond.initialized y.cls).before args s = true := ok _ (by simp [wsV])
  have hinst : (Cond.instanceMethod y).before args s = true := ok _ (by simp [wsV])
  have hsel : (Cond.selects y.cls y y).before args s = true := ok _ (by simp [wsV])
  have hcode : (Cond.code y Y'.2.1 Y'.2.2.1 Y'.2.2.2.1).before args s = true := hC.1.2.2.2.2 _ (gws _ (by rw [g2]; exact List.mem_cons_self)).1
  obtain ⟨cellB, hcB, hoB, hclB⟩ := va_recv (q0 := 0) (a := ad t) (fs := sd_fv ad (M t) 0 fs) hK.1 (sd_one hat) hc9 rfl
  obtain ⟨mk, methM, hnamed, hmethM, hstM, habM⟩ := Cond.instanceMethod_spec hinst
  obtain ⟨methM', cM, hmethM', -, -, -, -, -, -, hsigM⟩ := Cond.code_spec hnamed hcode
  cases hmethM.symm.trans hmethM'
  obtain ⟨c2, r2, m2, q1, q2, q3, q4, kP, hkP, hkPi⟩ := Cond.selects_spec hsel
  cases hclB.symm.trans q1
  cases (State.methodFound?_of_named hnamed ⟨hy1, hy2⟩).symm.trans q2
  cases hnamed.symm.trans q3
  have hlen : (As.map (sd_v ad)).length = methM.sig.parameters.length := by
    rw [hsigM] at hy3
    rw [List.length_map, hna]
    exact (Option.some.inj hy3).symm
  obtain ⟨vm₁, X₁, st1⟩ := X0.invokevirtual hC.1.1 hC.1.2.2.2.1 (ok (.methodLink Y.1 idx y) (by simp [wsV])) hnamed hmethM hstM hkP hkPi ⟨hy1, hy2⟩ (a := ad t) (cell := cellB) hcB
    (fun z h => by rw [h] at hoB; cases hoB) (by rw [Launch.admits_selectMethod X0.admits]; exact q4) hmethM habM hkP hkPi (g := F0 m pc ls ((As.reverse ++ .ref t :: rest).map (sd_v ad))) rfl (argsL := As.map (sd_v ad)) (rest := rest.map (sd_v ad)) hlen (by show List.map (sd_v ad) (As.reverse ++ .ref t :: rest) = _; simp [List.map_append, List.map_reverse, sd_v]) (by rw [hC.1.2.1]; exact d)
  rcases sd_pay hCn X₁ rfl (hl.1.trans hC.1.2.2.1.symm) (by rw [hC.1.2.1]; exact d) (X₁.named hnamed) (fun w hw => pay_in hC.1.2.2.2.2 gws w hw _ _ X₁.warmed) (pay_in hC.1.2.2.2.2 gws _ (by rw [g2]; exact List.mem_cons_self) _ _ X₁.warmed) (word_at X₁.warmed (Or.inl rfl) hini) g3 g4 g8.1 g8.2 (lv_room (rest := rest.map (sd_v ad)) (by rw [sd_cats]; exact hcat)) (by rw [g5]; omega) (by rw [g6]; omega) ⟨rfl, (hK.move X₁.warmed rfl hS).call, hH⟩ with ⟨v, M', T', L', St', hq, hF', hfr, hL', hst'⟩ | ⟨q, E', M', ce, T', L', St', hx, hF', hce, hcv, hcl, hfr, hL', hst'⟩
  · obtain ⟨t2, a1, b1⟩ := k v M' hq p e s m args below meth c T'.heap (locs ++ L') ls (cells + Y'.2.2.2.2.2.2.1) (slots + Y'.2.2.2.2.2.2.2) hC hK hF' (sd_S_next hS hfr hL') hl (by omega) (by omega) T' rfl St'
    refine ⟨t2, st1 _ (fun acts => ?_), b1⟩
    rw [doInvoke_state]
    refine hst'.trans ?_
    cases v <;> exact a1
  · obtain ⟨t2, a1, b1⟩ := sd_out (R := Y.2.2.2.2.2.1) (p := p) (l := l) (e := e) (args := args) (below := below) (pc := pc) (ls := ls) (st := rest.map (sd_v ad)) (aF := aF) (Q := Q) hC.2.2.2.1 hC.2.1 (hX _ _ hx) (hF _ _ hF') hce hcv (by rw [← X₁.warmed.alike.findClass]; exact hcl) (sd_S_next hS hfr hL') (show cells + Y'.2.2.2.2.2.2.1 ≤ Y.2.2.2.2.2.2.1 by omega) (show slots + Y'.2.2.2.2.2.2.2 ≤ Y.2.2.2.2.2.2.2 by omega) T' rfl St'
    refine ⟨t2, st1 _ (fun acts => ?_), b1⟩
    rw [doInvoke_state]
    exact hst'.trans a1
theorem x_callSg {Y' : sdY} {y : MethodName} {idx na : Nat} {As rest st0 : List Value} {Q' : Option Value → sdM → Prop} {X' : String → sdM → Prop} (hCn : sd_Cn l E y Y'.2.2.2.2.1 Y'.2.2.2.2.2.1 Y'.2.2.2.2.2.2.1 Y'.2.2.2.2.2.2.2 D tys b n ad L M As Q' X') (hcw : sd_cwS Y Y' y idx na) (d : decode Y.2.1 pc = .ok (.invokestatic idx, 3)) (hna : As.length = na) (hst : st0 = As.reverse ++ rest) (hcat : (rest.map fun v => v.category).sum ≤ 8) (hX : ∀ E' M', X' E' M' → X E' M') (hF : ∀ (M : sdM) (H : Heap), sd_H D E.1 n ad L M H → F M H)
    (k : ∀ (v : Option Value) (M' : sdM), Q' v M' → sdW l E Y D tys b n ad L aF F Q X (pc + 3) loc (v.toList ++ rest) M' rc rs) : sdW l E Y D tys b n ad L aF F Q X pc loc st0 M (rc + Y'.2.2.2.2.2.2.1) (rs + Y'.2.2.2.2.2.2.2) := by
  intro p e s m args below meth c H locs ls cells slots hC hK hH hS hl hc hs
  subst hst
  obtain ⟨g1, ⟨ws', g2⟩, ⟨g3, g4, g5, g6⟩, g7, g8⟩ := hcw
  intro T hT X0
  subst hT
  have gws : GoodIn Y.2.2.2.2.1 Y'.2.2.2.2.1 := fun w h => g1 w (by unfold va_wsS; exact List.mem_append_right _ h)
  have ok : ∀ w ∈ va_wsS Y.1 idx y Y'.2.2.2.2.1, w.before args s = true := fun w h => hC.1.2.2.2.2 w (g1 w h).1
  obtain ⟨hy1, hy2, hy3⟩ := g7
  have hini : (Cond.initialized y.cls).before args s = true := ok _ (by simp [va_wsS])
  have hstt : (Cond.static y).before args s = true := ok _ (by simp [va_wsS])
  have hcode : (Cond.code y Y'.2.1 Y'.2.2.1 Y'.2.2.2.1).before args s = true := hC.1.2.2.2.2 _ (gws _ (by rw [g2]; exact List.mem_cons_self)).1
  obtain ⟨mk, hnamed⟩ := Cond.code_named hcode
  obtain ⟨methM, cM, hmethM, -, -, -, -, -, -, hsigM⟩ := Cond.code_spec hnamed hcode
  obtain ⟨kP, hkP, -⟩ := className_of_methodNamed hnamed
  have hlen : (As.map (sd_v ad)).length = methM.sig.parameters.length := by
    rw [hsigM] at hy3
    rw [List.length_map, hna]
    exact (Option.some.inj hy3).symm
  obtain ⟨vm₁, X₁, st1⟩ := X0.invokestatic hC.1.1 hC.1.2.2.2.1 (ok (.methodLink Y.1 idx y) (by simp [va_wsS])) hnamed hmethM (Cond.static_spec hnamed hmethM hstt) hkP (Cond.initialized_spec (findClass_of_methodNamed hnamed) hkP hini) ⟨hy1, hy2⟩ (g := F0 m pc ls ((As.reverse ++ rest).map (sd_v ad))) rfl (argsL := As.map (sd_v ad)) (rest := rest.map (sd_v ad)) hlen (by show List.map (sd_v ad) (As.reverse ++ rest) = _; simp [List.map_append, List.map_reverse]) (by rw [hC.1.2.1]; exact d)
  rcases sd_pay hCn X₁ rfl (hl.1.trans hC.1.2.2.1.symm) (by rw [hC.1.2.1]; exact d) (X₁.named hnamed) (fun w hw => pay_in hC.1.2.2.2.2 gws w hw _ _ X₁.warmed) (pay_in hC.1.2.2.2.2 gws _ (by rw [g2]; exact List.mem_cons_self) _ _ X₁.warmed) (word_at X₁.warmed (Or.inl rfl) hini) g3 g4 g8.1 g8.2 (lv_room (rest := rest.map (sd_v ad)) (by rw [sd_cats]; exact hcat)) (by rw [g5]; omega) (by rw [g6]; omega) ⟨rfl, (hK.move X₁.warmed rfl hS).call, hH⟩ with ⟨v, M', T', L', St', hq, hF', hfr, hL', hst'⟩ | ⟨q, E', M', ce, T', L', St', hx, hF', hce, hcv, hcl, hfr, hL', hst'⟩
  · obtain ⟨t2, a1, b1⟩ := k v M' hq p e s m args below meth c T'.heap (locs ++ L') ls (cells + Y'.2.2.2.2.2.2.1) (slots + Y'.2.2.2.2.2.2.2) hC hK hF' (sd_S_next hS hfr hL') hl (by omega) (by omega) T' rfl St'
    refine ⟨t2, st1 _ (fun acts => ?_), b1⟩
    rw [doInvoke_state]
    refine hst'.trans ?_
    cases v <;> exact a1
  · obtain ⟨t2, a1, b1⟩ := sd_out (R := Y.2.2.2.2.2.1) (p := p) (l := l) (e := e) (args := args) (below := below) (pc := pc) (ls := ls) (st := rest.map (sd_v ad)) (aF := aF) (Q := Q) hC.2.2.2.1 hC.2.1 (hX _ _ hx) (hF _ _ hF') hce hcv (by rw [← X₁.warmed.alike.findClass]; exact hcl) (sd_S_next hS hfr hL') (show cells + Y'.2.2.2.2.2.2.1 ≤ Y.2.2.2.2.2.2.1 by omega) (show slots + Y'.2.2.2.2.2.2.2 ≤ Y.2.2.2.2.2.2.2 by omega) T' rfl St'
    refine ⟨t2, st1 _ (fun acts => ?_), b1⟩
    rw [doInvoke_state]
    exact hst'.trans a1
theorem x_callVi {Y' : sdY} {y : MethodName} {idx na : Nat} {As rest st0 : List Value} {Q0 : Int32 → sdM → Prop} {X' : String → sdM → Prop} {t ci N : Nat} {fs : List (Option (Option Nat))} {C : String} {T : u_T} (hCn : sd_Cn l E y Y'.2.2.2.2.1 Y'.2.2.2.2.2.1 Y'.2.2.2.2.2.2.1 Y'.2.2.2.2.2.2.2 D tys b n ad L M (.ref t :: As) (sd_qi Q0) X')  (hcw : sd_cwV Y Y' y idx na C) (hn : t < n) (hL : L t = sd_O ci fs) (hc9 : E.1[ci]? = some (C, T, N)) (d : decode Y.2.1 pc = .ok (.invokevirtual idx, 3)) (hna : As.length = na) (hst : st0 = As.reverse ++ .ref t :: rest) (hcat : (rest.map fun v => v.category).sum ≤ 8) (hX : ∀ E' M', X' E' M' → X E' M') (hF : ∀ (M : sdM) (H : Heap), sd_H D E.1 n ad L M H → F M H) (k : ∀ (r : Int32) (M' : sdM), Q0 r M' → sdW l E Y D tys b n ad L aF F Q X (pc + 3) loc (.int r :: rest) M' rc rs) : sdW l E Y D tys b n ad L aF F Q X pc loc st0 M (rc + Y'.2.2.2.2.2.2.1) (rs + Y'.2.2.2.2.2.2.2) :=
  x_callVg hCn hcw hn hL hc9 d hna hst hcat hX hF (fun v M' hq => by obtain ⟨r, rfl, h⟩ := hq; exact k r M' h)
theorem x_callVv {Y' : sdY} {y : MethodName} {idx na : Nat} {As rest st0 : List Value} {Q0 : sdM → Prop} {X' : String → sdM → Prop} {t ci N : Nat} {fs : List (Option (Option Nat))} {C : String} {T : u_T} (hCn : sd_Cn l E y Y'.2.2.2.2.1 Y'.2.2.2.2.2.1 Y'.2.2.2.2.2.2.1 Y'.2.2.2.2.2.2.2 D tys b n ad L M (.ref t :: As) (sd_qv Q0) X')  (hcw : sd_cwV Y Y' y idx na C) (hn : t < n) (hL : L t = sd_O ci fs) (hc9 : E.1[ci]? = some (C, T, N)) (d : decode Y.2.1 pc = .ok (.invokevirtual idx, 3)) (hna : As.length = na) (hst : st0 = As.reverse ++ .ref t :: rest) (hcat : (rest.map fun v => v.category).sum ≤ 8) (hX : ∀ E' M', X' E' M' → X E' M') (hF : ∀ (M : sdM) (H : Heap), sd_H D E.1 n ad L M H → F M H) (k : ∀ (M' : sdM), Q0 M' → sdW l E Y D tys b n ad L aF F Q X (pc + 3) loc rest M' rc rs) : sdW l E Y D tys b n ad L aF F Q X pc loc st0 M (rc + Y'.2.2.2.2.2.2.1) (rs + Y'.2.2.2.2.2.2.2) :=
  x_callVg hCn hcw hn hL hc9 d hna hst hcat hX hF (fun v M' hq => by obtain ⟨rfl, h⟩ := hq; exact k M' h)
theorem x_callVr {Y' : sdY} {y : MethodName} {idx na : Nat} {As rest st0 : List Value} {P0 : Nat → Prop} {Q0 : Nat → sdM → Prop} {X' : String → sdM → Prop} {t ci N : Nat} {fs : List (Option (Option Nat))} {C : String} {T : u_T} (hCn : sd_Cn l E y Y'.2.2.2.2.1 Y'.2.2.2.2.2.1 Y'.2.2.2.2.2.2.1 Y'.2.2.2.2.2.2.2 D tys b n ad L M (.ref t :: As) (sd_qr P0 Q0) X')  (hcw : sd_cwV Y Y' y idx na C) (hn : t < n) (hL : L t = sd_O ci fs) (hc9 : E.1[ci]? = some (C, T, N)) (d : decode Y.2.1 pc = .ok (.invokevirtual idx, 3)) (hna : As.length = na) (hst : st0 = As.reverse ++ .ref t :: rest) (hcat : (rest.map fun v => v.category).sum ≤ 8) (hX : ∀ E' M', X' E' M' → X E' M') (hF : ∀ (M : sdM) (H : Heap), sd_H D E.1 n ad L M H → F M H) (k : ∀ (r : Nat) (M' : sdM), P0 r → Q0 r M' → sdW l E Y D tys b n ad L aF F Q X (pc + 3) loc (.ref r :: rest) M' rc rs) : sdW l E Y D tys b n ad L aF F Q X pc loc st0 M (rc + Y'.2.2.2.2.2.2.1) (rs + Y'.2.2.2.2.2.2.2) :=
  x_callVg hCn hcw hn hL hc9 d hna hst hcat hX hF (fun v M' hq => by obtain ⟨r, rfl, h0, h⟩ := hq; exact k r M' h0 h)
theorem x_callSi {Y' : sdY} {y : MethodName} {idx na : Nat} {As rest st0 : List Value} {Q0 : Int32 → sdM → Prop} {X' : String → sdM → Prop}  (hCn : sd_Cn l E y Y'.2.2.2.2.1 Y'.2.2.2.2.2.1 Y'.2.2.2.2.2.2.1 Y'.2.2.2.2.2.2.2 D tys b n ad L M As (sd_qi Q0) X') (hcw : sd_cwS Y Y' y idx na) (d : decode Y.2.1 pc = .ok (.invokestatic idx, 3)) (hna : As.length = na) (hst : st0 = As.reverse ++ rest) (hcat : (rest.map fun v => v.category).sum ≤ 8) (hX : ∀ E' M', X' E' M' → X E' M') (hF : ∀ (M : sdM) (H : Heap), sd_H D E.1 n ad L M H → F M H) (k : ∀ (r : Int32) (M' : sdM), Q0 r M' → sdW l E Y D tys b n ad L aF F Q X (pc + 3) loc (.int r :: rest) M' rc rs) : sdW l E Y D tys b n ad L aF F Q X pc loc st0 M (rc + Y'.2.2.2.2.2.2.1) (rs + Y'.2.2.2.2.2.2.2) :=
  x_callSg hCn hcw d hna hst hcat hX hF (fun v M' hq => by obtain ⟨r, rfl, h⟩ := hq; exact k r M' h)
theorem x_callSv {Y' : sdY} {y : MethodName} {idx na : Nat} {As rest st0 : List Value} {Q0 : sdM → Prop} {X' : String → sdM → Prop}  (hCn : sd_Cn l E y Y'.2.2.2.2.1 Y'.2.2.2.2.2.1 Y'.2.2.2.2.2.2.1 Y'.2.2.2.2.2.2.2 D tys b n ad L M As (sd_qv Q0) X') (hcw : sd_cwS Y Y' y idx na) (d : decode Y.2.1 pc = .ok (.invokestatic idx, 3)) (hna : As.length = na) (hst : st0 = As.reverse ++ rest) (hcat : (rest.map fun v => v.category).sum ≤ 8) (hX : ∀ E' M', X' E' M' → X E' M') (hF : ∀ (M : sdM) (H : Heap), sd_H D E.1 n ad L M H → F M H) (k : ∀ (M' : sdM), Q0 M' → sdW l E Y D tys b n ad L aF F Q X (pc + 3) loc rest M' rc rs) : sdW l E Y D tys b n ad L aF F Q X pc loc st0 M (rc + Y'.2.2.2.2.2.2.1) (rs + Y'.2.2.2.2.2.2.2) :=
  x_callSg hCn hcw d hna hst hcat hX hF (fun v M' hq => by obtain ⟨rfl, h⟩ := hq; exact k M' h)
theorem x_callSr {Y' : sdY} {y : MethodName} {idx na : Nat} {As rest st0 : List Value} {P0 : Nat → Prop} {Q0 : Nat → sdM → Prop} {X' : String → sdM → Prop}  (hCn : sd_Cn l E y Y'.2.2.2.2.1 Y'.2.2.2.2.2.1 Y'.2.2.2.2.2.2.1 Y'.2.2.2.2.2.2.2 D tys b n ad L M As (sd_qr P0 Q0) X') (hcw : sd_cwS Y Y' y idx na) (d : decode Y.2.1 pc = .ok (.invokestatic idx, 3)) (hna : As.length = na) (hst : st0 = As.reverse ++ rest) (hcat : (rest.map fun v => v.category).sum ≤ 8) (hX : ∀ E' M', X' E' M' → X E' M') (hF : ∀ (M : sdM) (H : Heap), sd_H D E.1 n ad L M H → F M H) (k : ∀ (r : Nat) (M' : sdM), P0 r → Q0 r M' → sdW l E Y D tys b n ad L aF F Q X (pc + 3) loc (.ref r :: rest) M' rc rs) : sdW l E Y D tys b n ad L aF F Q X pc loc st0 M (rc + Y'.2.2.2.2.2.2.1) (rs + Y'.2.2.2.2.2.2.2) :=
  x_callSg hCn hcw d hna hst hcat hX hF (fun v M' hq => by obtain ⟨r, rfl, h0, h⟩ := hq; exact k r M' h0 h)
theorem x_alen {t len : Nat} {cA : ClassId} {v : Int32} (d : decode Y.2.1 pc = .ok (.arraylength, 1)) (hn : t < n) (hL : L t = sd_I cA len) (ht : tys[0]? = some (cA, .int)) (hv : Int32.ofNat len = v) (k : sdW l E Y D tys b n ad L aF F Q X (pc + 1) loc (.int v :: st) M rc rs) : sdW l E Y D tys b n ad L aF F Q X pc loc (.ref t :: st) M rc rs := by
  intro p e s m args below meth c H locs ls cells slots hC hK hH hS hl hc hs
  have hat := hH t hn
  rw [hL] at hat
  exact va_alen hC.1.1 hC.1.2.1 hK.1 (ws := [(ad t, .inl (cA, len, .inl (M t)))]) (sd_one hat) 0 0 rfl ht hv d (k p e s m args below meth c H locs ls cells slots hC hK hH hS hl hc hs)
theorem x_tin {dflt lo hi off : Int} {offs : Array Int} {len : Nat} {x : Int32} (tgt : Nat) (d : decode Y.2.1 pc = .ok (.tableswitch dflt lo hi offs, len)) (h1 : ¬ x.toInt < lo) (h2 : ¬ hi < x.toInt) (ho : offs[(x.toInt - lo).toNat]? = some off) (ht : (pc : Int) + off = (tgt : Int)) (k : sdW l E Y D tys b n ad L aF F Q X tgt loc st M rc rs) : sdW l E Y D tys b n ad L aF F Q X pc loc (.int x :: st) M rc rs := by
  intro p e s m args below meth c H locs ls cells slots hC hK hH hS hl hc hs
  exact lv_tableIn hC.1.1 hC.1.2.1 d h1 h2 ho ht (k p e s m args below meth c H locs ls cells slots hC hK hH hS hl hc hs)
theorem x_tout {dflt lo hi : Int} {offs : Array Int} {len : Nat} {x : Int32} (tgt : Nat) (d : decode Y.2.1 pc = .ok (.tableswitch dflt lo hi offs, len)) (h : x.toInt < lo ∨ hi < x.toInt) (ht : (pc : Int) + dflt = (tgt : Int)) (k : sdW l E Y D tys b n ad L aF F Q X tgt loc st M rc rs) : sdW l E Y D tys b n ad L aF F Q X pc loc (.int x :: st) M rc rs := by
  intro p e s m args below meth c H locs ls cells slots hC hK hH hS hl hc hs
  exact lv_tableOut hC.1.1 hC.1.2.1 d h ht (k p e s m args below meth c H locs ls cells slots hC hK hH hS hl hc hs)
theorem x_mmin {idx : Nat} {x y : Int32} (d : decode Y.2.1 pc = .ok (.invokestatic idx, 3)) (h1 : Cond.methodLink Y.1 idx Lib.Math.min.name ∈ Y.2.2.2.2.1) (h2 : Cond.static Lib.Math.min.name ∈ Y.2.2.2.2.1) (h3 : Cond.initialized "java/lang/Math" ∈ Y.2.2.2.2.1) (h4 : Cond.code Lib.Math.min.name Lib.Math.min.code 2 (some .int) ∈ Y.2.2.2.2.1) (hR1 : 1 ≤ Y.2.2.2.2.2.1.frames) (hR2 : (st.map fun v => v.category).sum + 13 ≤ Y.2.2.2.2.2.1.locals) (hR3 : Y.2.2.2.2.2.1.cells = Y.2.2.2.2.2.2.1) (hR4 : Y.2.2.2.2.2.1.slots = Y.2.2.2.2.2.2.2) (k : sdW l E Y D tys b n ad L aF F Q X (pc + 3) loc (.int (if y < x then y else x) :: st) M rc rs) : sdW l E Y D tys b n ad L aF F Q X pc loc (.int y :: .int x :: st) M rc rs := by
  intro p e s m args below meth c H locs ls cells slots hC hK hH hS hl hc hs
  exact va_mmin (rest := st.map (sd_v ad)) hC.1.1 hC.1.2.1 (hC.1.2.2.1.trans hl.1.symm) hC.1.2.2.2.1 (hC.1.2.2.2.2 _ h1) (hC.1.2.2.2.2 _ h2) (hC.1.2.2.2.2 _ h3) (hC.1.2.2.2.2 _ h4) hR1 (by rw [sd_cats]; exact hR2) (by rw [hR3]; omega) (by rw [hR4]; omega) d (k p e s m args below meth c H locs ls cells slots hC hK hH hS hl hc hs)
/-- System.arraycopy of int arrays -/
theorem x_copyi {idx t u len len' : Nat} {cA : ClassId} {sp dp z : Int32} (hA : sd_ad b n ad) (d : decode Y.2.1 pc = .ok (.invokestatic idx, 3)) (h1 : Cond.methodLink Y.1 idx arraycopyName ∈ Y.2.2.2.2.1) (h2 : Cond.native arraycopyName ∈ Y.2.2.2.2.1) (h3 : Cond.static arraycopyName ∈ Y.2.2.2.2.1) (h4 : Cond.initialized "java/lang/System" ∈ Y.2.2.2.2.1)
    (hn : t < n) (hL : L t = sd_I cA len) (hn' : u < n) (hL' : L u = sd_I cA len') (ht : tys[0]? = some (cA, .int)) (hi : ¬ sp < 0 ∧ ¬ dp < 0 ∧ ¬ z < 0 ∧ sp.toNatClampNeg + z.toNatClampNeg ≤ len ∧ dp.toNatClampNeg + z.toNatClampNeg ≤ len') (hR1 : 1 ≤ Y.2.2.2.2.2.1.frames) (hR2 : (st.map fun v => v.category).sum + (nativeFrameWords "java/lang/System" "arraycopy" 5 + 11) ≤ Y.2.2.2.2.2.1.locals)
    (k : ∀ M1 : sdM, M1 = va_up M u (va_cpy (M t) (M u) sp.toNatClampNeg dp.toNatClampNeg z.toNatClampNeg) → sdW l E Y D tys b n ad L aF F Q X (pc + 3) loc st M1 rc rs) : sdW l E Y D tys b n ad L aF F Q X pc loc (.int z :: .int dp :: .ref u :: .int sp :: .ref t :: st) M rc rs := by
  intro p e s m args below meth c H locs ls cells slots hC hK hH hS hl hc hs
  have hG : (sd_G n ad L M)[t]? = some (ad t, .inl (cA, len, .inl (M t))) := by rw [sd_G_get hn, hL]; rfl
  have hG' : (sd_G n ad L M)[u]? = some (ad u, .inl (cA, len', .inl (M u))) := by rw [sd_G_get hn', hL']; rfl
  refine va_copyi (rest := st.map (sd_v ad)) hC.1.1 hC.1.2.1 (hC.1.2.2.1.trans hl.1.symm) hC.1.2.2.2.1 (hC.1.2.2.2.2 _ h1) (hC.1.2.2.2.2 _ h2) (hC.1.2.2.2.2 _ h3) (hC.1.2.2.2.2 _ h4) hK.1 hH.toP hA.toD hS t u 0 0 hG hG' ht ht rfl hi.1 hi.2.1 hi.2.2.1 hi.2.2.2.1 hi.2.2.2.2 (fun _ _ => rfl) hR1 (by rw [sd_cats]; exact hR2) d (fun H1 locs1 hP1 _ hS1 => ?_)
  have he : (Sum.inl (cA, len', Sum.inl (va_cpy (M t) (M u) sp.toNatClampNeg dp.toNatClampNeg z.toNatClampNeg)) : va_E) = L u ad (va_cpy (M t) (M u) sp.toNatClampNeg dp.toNatClampNeg z.toNatClampNeg) := by rw [hL']; rfl
  rw [sd_G_set hn' he] at hP1
  exact k _ rfl p e s m args below meth c H1 locs1 ls cells slots hC hK (sd_H.ofP hP1) hS1 hl hc hs
end SDR
theorem sd_enterF {l : Launch} {E : sdE} {Y : sdY} {D : va_G} {tys : List (ClassId × FieldType)} {b n : Nat} {ad : Nat → Nat} {L : Nat → sdL} {F : sdM → Heap → Prop} {Q : Option Value → sdM → Prop} {X : String → sdM → Prop} {M : sdM} {y : MethodName} {ws' : List Cond} {av : List Value}
    (hy : plainFor y = true) (hyc : y.cls = Y.1) (hw : Y.2.2.2.2.1 = Cond.code y Y.2.1 Y.2.2.1 Y.2.2.2.1 :: ws') (hn : (lg_sl av).length ≤ Y.2.2.1)
    (k : sdW l E Y D tys b n ad L ad F Q X 0 (lv_args 0 av) [] M Y.2.2.2.2.2.2.1 Y.2.2.2.2.2.2.2) : sd_CnF l E y Y.2.2.2.2.1 Y.2.2.2.2.2.1 Y.2.2.2.2.2.2.1 Y.2.2.2.2.2.2.2 D tys b n ad L M av F Q X := by
  refine MetFree.of_bodySF (code := Y.2.1) (maxLocals := Y.2.2.1) (ret := Y.2.2.2.1) hy ?_ ?_
  · intro args s m h hn
    obtain ⟨meth, c, h1, h2, h3, h4, h5, h6, -, -⟩ := Cond.code_spec hn (atoms_spec (ws := Y.2.2.2.2.1) h _ (by rw [hw]; exact List.mem_cons_self))
    exact ⟨meth, c, h1, h2, h3, h4, h5, h6⟩
  intro p e s m args below meth c s₁ B hml hv _
  have hx : ∀ x ∈ c.exceptionTable.toList, False := by
    obtain ⟨meth9, c9, h1, h2, -, -, -, -, h7, -⟩ := Cond.code_spec B.named (atoms_spec (ws := Y.2.2.2.2.1) B.pre _ (by rw [hw]; exact List.mem_cons_self))
    cases Option.some.inj (h1.symm.trans B.method)
    cases Option.some.inj (h2.symm.trans (Stand.of_body B).code)
    intro x hx
    rw [Array.isEmpty_iff.mp h7] at hx
    cases hx
  obtain ⟨rfl, hK, hH⟩ := hv
  have hown : s.vm.findClass Y.1 = some m.cls := by rw [← hyc]; exact findClass_of_methodNamed B.named
  have hl := lv_entry (av.map (sd_v ad)) (n := Y.2.2.1) (by rw [sd_sl]; exact hn)
  have hh0 : s₁.heap = s.heap := by rw [B.state]; rfl
  have key : W p l e Y.2.2.2.2.2.1 s m (av.map (sd_v ad)).toArray below meth c s₁.heap [] 0 0 (sd_Z b ad F Q X Y.2.2.2.2.2.2.1 Y.2.2.2.2.2.2.2 below (av.map (sd_v ad)).toArray s) (entryFrame m (av.map (sd_v ad)).toArray Y.2.2.1) := by
    rw [lg_entry_eq, hh0]
    generalize (lg_sl (av.map (sd_v ad)) ++ List.replicate (Y.2.2.1 - (lg_sl (av.map (sd_v ad))).length) Slot.unset).toArray = ls at hl ⊢
    rw [sd_args] at hl
    exact k p e s m _ below meth c s.heap [] ls 0 0 ⟨⟨B.exec, B.bytes, hml, hown, atoms_spec (ws := Y.2.2.2.2.1) B.pre⟩, B.notSynchronized, B.returns, hx, fun y9 b9 n9 r9 w9 h9 => by rw [hw] at h9; cases h9; exact (name_of_methodNamed B.named B.method).1⟩ hK hH va_S.rf hl (by omega) (by omega)
  obtain ⟨t, a1, o, b1, b2, b3⟩ := key s₁ rfl (Stand.of_body B)
  exact ⟨t, o, a1, b1, b2, b3⟩
theorem sd_enter {l : Launch} {E : sdE} {Y : sdY} {D : va_G} {tys : List (ClassId × FieldType)} {b n : Nat} {ad : Nat → Nat} {L : Nat → sdL} {Q : Option Value → sdM → Prop} {X : String → sdM → Prop} {M : sdM} {y : MethodName} {ws' : List Cond} {av : List Value}
    (hy : plainFor y = true) (hyc : y.cls = Y.1) (hw : Y.2.2.2.2.1 = Cond.code y Y.2.1 Y.2.2.1 Y.2.2.2.1 :: ws') (hn : (lg_sl av).length ≤ Y.2.2.1)
    (k : sdW l E Y D tys b n ad L ad (sd_H D E.1 n ad L) Q X 0 (lv_args 0 av) [] M Y.2.2.2.2.2.2.1 Y.2.2.2.2.2.2.2) : sd_Cn l E y Y.2.2.2.2.1 Y.2.2.2.2.2.1 Y.2.2.2.2.2.2.1 Y.2.2.2.2.2.2.2 D tys b n ad L M av Q X := sd_enterF hy hyc hw hn k
end
section
/-! the words of the tables that stay good; the classes' fields; array classes -/
def sdB0 : List Cond := lw_tbl.filter goodWord
theorem sdB0_good : ∀ w ∈ sdB0, goodWord w = true := fun w h => (List.mem_filter.mp h).2
theorem sd_tb1 {w : Cond} (i : Nat) (h : tables_1_1[i]? = some w) (g : goodWord w = true) : w ∈ sdB0 := List.mem_filter.mpr ⟨List.mem_append_right _ (show w ∈ tables_1 from List.mem_append_left _ (List.mem_of_getElem? h)), g⟩
theorem sd_tb2 {w : Cond} (i : Nat) (h : tables_1_2[i]? = some w) (g : goodWord w = true) : w ∈ sdB0 := List.mem_filter.mpr ⟨List.mem_append_right _ (show w ∈ tables_1 from List.mem_append_right _ (List.mem_append_left _ (List.mem_of_getElem? h))), g⟩
theorem sd_tb3 {w : Cond} (i : Nat) (h : tables_1_3[i]? = some w) (g : goodWord w = true) : w ∈ sdB0 := List.mem_filter.mpr ⟨List.mem_append_right _ (show w ∈ tables_1 from List.mem_append_right _ (List.mem_append_right _ (List.mem_append_left _ (List.mem_of_getElem? h)))), g⟩
theorem sd_tb4 {w : Cond} (i : Nat) (h : tables_1_4[i]? = some w) (g : goodWord w = true) : w ∈ sdB0 := List.mem_filter.mpr ⟨List.mem_append_right _ (show w ∈ tables_1 from List.mem_append_right _ (List.mem_append_right _ (List.mem_append_right _ (List.mem_append_left _ (List.mem_of_getElem? h))))), g⟩
theorem sd_tb5 {w : Cond} (i : Nat) (h : tables_1_5[i]? = some w) (g : goodWord w = true) : w ∈ sdB0 := List.mem_filter.mpr ⟨List.mem_append_right _ (show w ∈ tables_1 from List.mem_append_right _ (List.mem_append_right _ (List.mem_append_right _ (List.mem_append_right _ (List.mem_of_getElem? h))))), g⟩
theorem sd_tbp {q : MethodName × Nat} (h : q ∈ lw_privs) : Cond.selects q.1.cls q.1 q.1 ∈ sdB0 := List.mem_filter.mpr ⟨List.mem_append_left _ (List.mem_map.mpr ⟨q, h, rfl⟩), rfl⟩
theorem sd_goodB {c c' : Cond} (h : c' ∈ sdB0) : GoodIn (c :: sdB0) (c' :: sdB0) := by
  intro w hw
  have hm : w ∈ sdB0 := by
    rcases List.mem_cons.mp hw with rfl | h1
    · exact h
    · exact h1
  exact ⟨List.mem_cons_of_mem _ hm, good_of_word (sdB0_good w hm)⟩
theorem sd_good1 {c w : Cond} (h : w ∈ sdB0) : w ∈ c :: sdB0 ∧ ((w.onTables && w.keeps) = true ∨ ∃ ty, w = .arrayClass ty) := ⟨List.mem_cons_of_mem _ h, good_of_word (sdB0_good w h)⟩
theorem sd_goodV {c c' : Cond} {own C : String} {idx : Nat} {y : MethodName} (h1 : Cond.methodLink own idx y ∈ sdB0) (h2 : Cond.instanceMethod y ∈ sdB0) (h3 : Cond.selects C y y ∈ sdB0) (h4 : Cond.initialized C ∈ sdB0) (h5 : c' ∈ sdB0) : GoodIn (c :: sdB0) (wsV own idx C y (c' :: sdB0)) := by
  intro w hw
  rcases List.mem_append.mp hw with h | h
  · simp only [List.mem_cons, List.not_mem_nil, or_false] at h
    rcases h with rfl | rfl | rfl | rfl
    · exact sd_good1 h1
    · exact sd_good1 h2
    · exact sd_good1 h3
    · exact sd_good1 h4
  · exact sd_goodB h5 w h
theorem sd_goodS {c c' : Cond} {own : String} {idx : Nat} {y : MethodName} (h1 : Cond.methodLink own idx y ∈ sdB0) (h2 : Cond.static y ∈ sdB0) (h4 : Cond.initialized y.cls ∈ sdB0) (h5 : c' ∈ sdB0) : GoodIn (c :: sdB0) (va_wsS own idx y (c' :: sdB0)) := by
  intro w hw
  rcases List.mem_append.mp hw with h | h
  · simp only [List.mem_cons, List.not_mem_nil, or_false] at h
    rcases h with rfl | rfl | rfl
    · exact sd_good1 h1
    · exact sd_good1 h2
    · exact sd_good1 h4
  · exact sd_goodB h5 w h
def T_D : u_T := fun k => match k with
  | 0 => ("SettingsDesk", "schema", "LSettingsDesk$Schema;", true)
  | 1 => ("SettingsDesk", "running", "LSettingsDesk$Settings;", true)
  | 2 => ("SettingsDesk", "saved", "LSettingsDesk$Settings;", true)
  | 3 => ("SettingsDesk", "outcome", "LSettingsDesk$Settings;", true)
  | 4 => ("SettingsDesk", "older", "[LSettingsDesk$Settings;", true)
  | 5 => ("SettingsDesk", "sessions", "[LSettingsDesk$Session;", true)
  | 6 => ("SettingsDesk", "trouble", "LSettingsDesk$Trouble;", true)
  | 7 => ("SettingsDesk", "changes", "I", false)
  | 8 => ("SettingsDesk", "ticksLeft", "I", false)
  | 9 => ("SettingsDesk", "lockOwner", "I", false)
  | 10 => ("SettingsDesk", "powerOff", "Z", false)
  | _ => ("SettingsDesk", "pagesToFailure", "I", false)
def ty_D : Nat → FieldType := fun k => match k with
  | 0 => .object "SettingsDesk$Schema"
  | 1 => .object "SettingsDesk$Settings"
  | 2 => .object "SettingsDesk$Settings"
  | 3 => .object "SettingsDesk$Settings"
  | 4 => .array (.object "SettingsDesk$Settings")
  | 5 => .array (.object "SettingsDesk$Session")
  | 6 => .object "SettingsDesk$Trouble"
  | 7 => .int
  | 8 => .int
  | 9 => .int
  | 10 => .boolean
  | _ => .int
theorem ty_D_ok : ∀ k, k < 12 → parseFieldDescriptor (T_D k).2.2.1 = some (ty_D k) := by decide +kernel
theorem nm_D : ∀ a, a < 12 → ∀ b, b < 12 → a ≠ b → (T_D a).2.1 ≠ (T_D b).2.1 := by decide +kernel
theorem l_D_0 : (.laysFinal "SettingsDesk" "SettingsDesk" "schema" "LSettingsDesk$Schema;" : Cond) ∈ sdB0 := sd_tb1 212 rfl rfl
theorem l_D_1 : (.laysFinal "SettingsDesk" "SettingsDesk" "running" "LSettingsDesk$Settings;" : Cond) ∈ sdB0 := sd_tb1 214 rfl rfl
theorem l_D_2 : (.laysFinal "SettingsDesk" "SettingsDesk" "saved" "LSettingsDesk$Settings;" : Cond) ∈ sdB0 := sd_tb1 216 rfl rfl
theorem l_D_3 : (.laysFinal "SettingsDesk" "SettingsDesk" "outcome" "LSettingsDesk$Settings;" : Cond) ∈ sdB0 := sd_tb1 218 rfl rfl
theorem l_D_4 : (.laysFinal "SettingsDesk" "SettingsDesk" "older" "[LSettingsDesk$Settings;" : Cond) ∈ sdB0 := sd_tb1 220 rfl rfl
theorem l_D_5 : (.laysFinal "SettingsDesk" "SettingsDesk" "sessions" "[LSettingsDesk$Session;" : Cond) ∈ sdB0 := sd_tb1 222 rfl rfl
theorem l_D_6 : (.laysFinal "SettingsDesk" "SettingsDesk" "trouble" "LSettingsDesk$Trouble;" : Cond) ∈ sdB0 := sd_tb1 224 rfl rfl
theorem l_D_7 : (.lays "SettingsDesk" "SettingsDesk" "changes" "I" : Cond) ∈ sdB0 := sd_tb1 226 rfl rfl
theorem l_D_8 : (.lays "SettingsDesk" "SettingsDesk" "ticksLeft" "I" : Cond) ∈ sdB0 := sd_tb1 228 rfl rfl
theorem l_D_9 : (.lays "SettingsDesk" "SettingsDesk" "lockOwner" "I" : Cond) ∈ sdB0 := sd_tb1 230 rfl rfl
theorem l_D_10 : (.lays "SettingsDesk" "SettingsDesk" "powerOff" "Z" : Cond) ∈ sdB0 := sd_tb1 232 rfl rfl
theorem l_D_11 : (.lays "SettingsDesk" "SettingsDesk" "pagesToFailure" "I" : Cond) ∈ sdB0 := sd_tb1 234 rfl rfl
theorem lay_D {c : Cond} : ∀ w ∈ u_ws "SettingsDesk" T_D 12, w ∈ c :: sdB0 := by
  show ∀ w ∈ ([.laysFinal "SettingsDesk" "SettingsDesk" "schema" "LSettingsDesk$Schema;", .laysFinal "SettingsDesk" "SettingsDesk" "running" "LSettingsDesk$Settings;", .laysFinal "SettingsDesk" "SettingsDesk" "saved" "LSettingsDesk$Settings;", .laysFinal "SettingsDesk" "SettingsDesk" "outcome" "LSettingsDesk$Settings;", .laysFinal "SettingsDesk" "SettingsDesk" "older" "[LSettingsDesk$Settings;", .laysFinal "SettingsDesk" "SettingsDesk" "sessions" "[LSettingsDesk$Session;", .laysFinal "SettingsDesk" "SettingsDesk" "trouble" "LSettingsDesk$Trouble;", .lays "SettingsDesk" "SettingsDesk" "changes" "I", .lays "SettingsDesk" "SettingsDesk" "ticksLeft" "I", .lays "SettingsDesk" "SettingsDesk" "lockOwner" "I", .lays "SettingsDesk" "SettingsDesk" "powerOff" "Z", .lays "SettingsDesk" "SettingsDesk" "pagesToFailure" "I"] : List Cond), w ∈ c :: sdB0
  exact List.forall_mem_cons.mpr ⟨List.mem_cons_of_mem _ l_D_0, List.forall_mem_cons.mpr ⟨List.mem_cons_of_mem _ l_D_1, List.forall_mem_cons.mpr ⟨List.mem_cons_of_mem _ l_D_2, List.forall_mem_cons.mpr ⟨List.mem_cons_of_mem _ l_D_3, List.forall_mem_cons.mpr ⟨List.mem_cons_of_mem _ l_D_4, List.forall_mem_cons.mpr ⟨List.mem_cons_of_mem _ l_D_5, List.forall_mem_cons.mpr ⟨List.mem_cons_of_mem _ l_D_6, List.forall_mem_cons.mpr ⟨List.mem_cons_of_mem _ l_D_7, List.forall_mem_cons.mpr ⟨List.mem_cons_of_mem _ l_D_8, List.forall_mem_cons.mpr ⟨List.mem_cons_of_mem _ l_D_9, List.forall_mem_cons.mpr ⟨List.mem_cons_of_mem _ l_D_10, List.forall_mem_cons.mpr ⟨List.mem_cons_of_mem _ l_D_11, fun _ h => absurd h List.not_mem_nil⟩⟩⟩⟩⟩⟩⟩⟩⟩⟩⟩⟩
def T_C : u_T := fun k => match k with
  | 0 => ("SettingsDesk$Schema", "isReady", "Z", false)
  | 1 => ("SettingsDesk$Schema", "lists", "I", false)
  | 2 => ("SettingsDesk$Schema", "leaves", "[I", true)
  | 3 => ("SettingsDesk$Schema", "leafTable", "[LSettingsDesk$Leaf;", true)
  | 4 => ("SettingsDesk$Schema", "ruleCount", "I", false)
  | _ => ("SettingsDesk$Schema", "rules", "[LSettingsDesk$Rule;", true)
def ty_C : Nat → FieldType := fun k => match k with
  | 0 => .boolean
  | 1 => .int
  | 2 => .array .int
  | 3 => .array (.object "SettingsDesk$Leaf")
  | 4 => .int
  | _ => .array (.object "SettingsDesk$Rule")
theorem ty_C_ok : ∀ k, k < 6 → parseFieldDescriptor (T_C k).2.2.1 = some (ty_C k) := by decide +kernel
theorem nm_C : ∀ a, a < 6 → ∀ b, b < 6 → a ≠ b → (T_C a).2.1 ≠ (T_C b).2.1 := by decide +kernel
theorem l_C_0 : (.lays "SettingsDesk$Schema" "SettingsDesk$Schema" "isReady" "Z" : Cond) ∈ sdB0 := sd_tb1 118 rfl rfl
theorem l_C_1 : (.lays "SettingsDesk$Schema" "SettingsDesk$Schema" "lists" "I" : Cond) ∈ sdB0 := sd_tb1 120 rfl rfl
theorem l_C_2 : (.laysFinal "SettingsDesk$Schema" "SettingsDesk$Schema" "leaves" "[I" : Cond) ∈ sdB0 := sd_tb1 122 rfl rfl
theorem l_C_3 : (.laysFinal "SettingsDesk$Schema" "SettingsDesk$Schema" "leafTable" "[LSettingsDesk$Leaf;" : Cond) ∈ sdB0 := sd_tb1 124 rfl rfl
theorem l_C_4 : (.lays "SettingsDesk$Schema" "SettingsDesk$Schema" "ruleCount" "I" : Cond) ∈ sdB0 := sd_tb1 126 rfl rfl
theorem l_C_5 : (.laysFinal "SettingsDesk$Schema" "SettingsDesk$Schema" "rules" "[LSettingsDesk$Rule;" : Cond) ∈ sdB0 := sd_tb1 128 rfl rfl
theorem lay_C {c : Cond} : ∀ w ∈ u_ws "SettingsDesk$Schema" T_C 6, w ∈ c :: sdB0 := by
  show ∀ w ∈ ([.lays "SettingsDesk$Schema" "SettingsDesk$Schema" "isReady" "Z", .lays "SettingsDesk$Schema" "SettingsDesk$Schema" "lists" "I", .laysFinal "SettingsDesk$Schema" "SettingsDesk$Schema" "leaves" "[I", .laysFinal "SettingsDesk$Schema" "SettingsDesk$Schema" "leafTable" "[LSettingsDesk$Leaf;", .lays "SettingsDesk$Schema" "SettingsDesk$Schema" "ruleCount" "I", .laysFinal "SettingsDesk$Schema" "SettingsDesk$Schema" "rules" "[LSettingsDesk$Rule;"] : List Cond), w ∈ c :: sdB0
  exact List.forall_mem_cons.mpr ⟨List.mem_cons_of_mem _ l_C_0, List.forall_mem_cons.mpr ⟨List.mem_cons_of_mem _ l_C_1, List.forall_mem_cons.mpr ⟨List.mem_cons_of_mem _ l_C_2, List.forall_mem_cons.mpr ⟨List.mem_cons_of_mem _ l_C_3, List.forall_mem_cons.mpr ⟨List.mem_cons_of_mem _ l_C_4, List.forall_mem_cons.mpr ⟨List.mem_cons_of_mem _ l_C_5, fun _ h => absurd h List.not_mem_nil⟩⟩⟩⟩⟩⟩
def T_S : u_T := fun k => match k with
  | 0 => ("SettingsDesk$Settings", "counts", "[I", true)
  | 1 => ("SettingsDesk$Settings", "keys", "[I", true)
  | 2 => ("SettingsDesk$Settings", "values", "[I", true)
  | _ => ("SettingsDesk$Settings", "given", "[I", true)
def ty_S : Nat → FieldType := fun k => match k with
  | 0 => .array .int
  | 1 => .array .int
  | 2 => .array .int
  | _ => .array .int
theorem ty_S_ok : ∀ k, k < 4 → parseFieldDescriptor (T_S k).2.2.1 = some (ty_S k) := by decide +kernel
theorem nm_S : ∀ a, a < 4 → ∀ b, b < 4 → a ≠ b → (T_S a).2.1 ≠ (T_S b).2.1 := by decide +kernel
theorem l_S_0 : (.laysFinal "SettingsDesk$Settings" "SettingsDesk$Settings" "counts" "[I" : Cond) ∈ sdB0 := sd_tb1 144 rfl rfl
theorem l_S_1 : (.laysFinal "SettingsDesk$Settings" "SettingsDesk$Settings" "keys" "[I" : Cond) ∈ sdB0 := sd_tb1 146 rfl rfl
theorem l_S_2 : (.laysFinal "SettingsDesk$Settings" "SettingsDesk$Settings" "values" "[I" : Cond) ∈ sdB0 := sd_tb1 148 rfl rfl
theorem l_S_3 : (.laysFinal "SettingsDesk$Settings" "SettingsDesk$Settings" "given" "[I" : Cond) ∈ sdB0 := sd_tb1 150 rfl rfl
theorem lay_S {c : Cond} : ∀ w ∈ u_ws "SettingsDesk$Settings" T_S 4, w ∈ c :: sdB0 := by
  show ∀ w ∈ ([.laysFinal "SettingsDesk$Settings" "SettingsDesk$Settings" "counts" "[I", .laysFinal "SettingsDesk$Settings" "SettingsDesk$Settings" "keys" "[I", .laysFinal "SettingsDesk$Settings" "SettingsDesk$Settings" "values" "[I", .laysFinal "SettingsDesk$Settings" "SettingsDesk$Settings" "given" "[I"] : List Cond), w ∈ c :: sdB0
  exact List.forall_mem_cons.mpr ⟨List.mem_cons_of_mem _ l_S_0, List.forall_mem_cons.mpr ⟨List.mem_cons_of_mem _ l_S_1, List.forall_mem_cons.mpr ⟨List.mem_cons_of_mem _ l_S_2, List.forall_mem_cons.mpr ⟨List.mem_cons_of_mem _ l_S_3, fun _ h => absurd h List.not_mem_nil⟩⟩⟩⟩
def T_N : u_T := fun k => match k with
  | 0 => ("SettingsDesk$Session", "begun", "Z", false)
  | 1 => ("SettingsDesk$Session", "candidate", "LSettingsDesk$Settings;", true)
  | _ => ("SettingsDesk$Session", "base", "LSettingsDesk$Settings;", true)
def ty_N : Nat → FieldType := fun k => match k with
  | 0 => .boolean
  | 1 => .object "SettingsDesk$Settings"
  | _ => .object "SettingsDesk$Settings"
theorem ty_N_ok : ∀ k, k < 3 → parseFieldDescriptor (T_N k).2.2.1 = some (ty_N k) := by decide +kernel
theorem nm_N : ∀ a, a < 3 → ∀ b, b < 3 → a ≠ b → (T_N a).2.1 ≠ (T_N b).2.1 := by decide +kernel
theorem l_N_0 : (.lays "SettingsDesk$Session" "SettingsDesk$Session" "begun" "Z" : Cond) ∈ sdB0 := sd_tb1 193 rfl rfl
theorem l_N_1 : (.laysFinal "SettingsDesk$Session" "SettingsDesk$Session" "candidate" "LSettingsDesk$Settings;" : Cond) ∈ sdB0 := sd_tb1 195 rfl rfl
theorem l_N_2 : (.laysFinal "SettingsDesk$Session" "SettingsDesk$Session" "base" "LSettingsDesk$Settings;" : Cond) ∈ sdB0 := sd_tb1 197 rfl rfl
theorem lay_N {c : Cond} : ∀ w ∈ u_ws "SettingsDesk$Session" T_N 3, w ∈ c :: sdB0 := by
  show ∀ w ∈ ([.lays "SettingsDesk$Session" "SettingsDesk$Session" "begun" "Z", .laysFinal "SettingsDesk$Session" "SettingsDesk$Session" "candidate" "LSettingsDesk$Settings;", .laysFinal "SettingsDesk$Session" "SettingsDesk$Session" "base" "LSettingsDesk$Settings;"] : List Cond), w ∈ c :: sdB0
  exact List.forall_mem_cons.mpr ⟨List.mem_cons_of_mem _ l_N_0, List.forall_mem_cons.mpr ⟨List.mem_cons_of_mem _ l_N_1, List.forall_mem_cons.mpr ⟨List.mem_cons_of_mem _ l_N_2, fun _ h => absurd h List.not_mem_nil⟩⟩⟩
def T_T : u_T := fun k => match k with
  | 0 => ("SettingsDesk$Trouble", "fault", "I", false)
  | 1 => ("SettingsDesk$Trouble", "atList", "I", false)
  | 2 => ("SettingsDesk$Trouble", "atKey", "I", false)
  | _ => ("SettingsDesk$Trouble", "atPart", "I", false)
def ty_T : Nat → FieldType := fun k => match k with
  | 0 => .int
  | 1 => .int
  | 2 => .int
  | _ => .int
theorem ty_T_ok : ∀ k, k < 4 → parseFieldDescriptor (T_T k).2.2.1 = some (ty_T k) := by decide +kernel
theorem nm_T : ∀ a, a < 4 → ∀ b, b < 4 → a ≠ b → (T_T a).2.1 ≠ (T_T b).2.1 := by decide +kernel
theorem l_T_0 : (.lays "SettingsDesk$Trouble" "SettingsDesk$Trouble" "fault" "I" : Cond) ∈ sdB0 := sd_tb1 170 rfl rfl
theorem l_T_1 : (.lays "SettingsDesk$Trouble" "SettingsDesk$Trouble" "atList" "I" : Cond) ∈ sdB0 := sd_tb1 172 rfl rfl
theorem l_T_2 : (.lays "SettingsDesk$Trouble" "SettingsDesk$Trouble" "atKey" "I" : Cond) ∈ sdB0 := sd_tb1 174 rfl rfl
theorem l_T_3 : (.lays "SettingsDesk$Trouble" "SettingsDesk$Trouble" "atPart" "I" : Cond) ∈ sdB0 := sd_tb1 176 rfl rfl
theorem lay_T {c : Cond} : ∀ w ∈ u_ws "SettingsDesk$Trouble" T_T 4, w ∈ c :: sdB0 := by
  show ∀ w ∈ ([.lays "SettingsDesk$Trouble" "SettingsDesk$Trouble" "fault" "I", .lays "SettingsDesk$Trouble" "SettingsDesk$Trouble" "atList" "I", .lays "SettingsDesk$Trouble" "SettingsDesk$Trouble" "atKey" "I", .lays "SettingsDesk$Trouble" "SettingsDesk$Trouble" "atPart" "I"] : List Cond), w ∈ c :: sdB0
  exact List.forall_mem_cons.mpr ⟨List.mem_cons_of_mem _ l_T_0, List.forall_mem_cons.mpr ⟨List.mem_cons_of_mem _ l_T_1, List.forall_mem_cons.mpr ⟨List.mem_cons_of_mem _ l_T_2, List.forall_mem_cons.mpr ⟨List.mem_cons_of_mem _ l_T_3, fun _ h => absurd h List.not_mem_nil⟩⟩⟩⟩
def T_F : u_T := fun k => match k with
  | 0 => ("SettingsDesk$Leaf", "isReference", "Z", false)
  | 1 => ("SettingsDesk$Leaf", "low", "I", false)
  | 2 => ("SettingsDesk$Leaf", "high", "I", false)
  | 3 => ("SettingsDesk$Leaf", "required", "Z", false)
  | 4 => ("SettingsDesk$Leaf", "unique", "Z", false)
  | 5 => ("SettingsDesk$Leaf", "hasStandard", "Z", false)
  | _ => ("SettingsDesk$Leaf", "standardValue", "I", false)
def ty_F : Nat → FieldType := fun k => match k with
  | 0 => .boolean
  | 1 => .int
  | 2 => .int
  | 3 => .boolean
  | 4 => .boolean
  | 5 => .boolean
  | _ => .int
theorem ty_F_ok : ∀ k, k < 7 → parseFieldDescriptor (T_F k).2.2.1 = some (ty_F k) := by decide +kernel
theorem nm_F : ∀ a, a < 7 → ∀ b, b < 7 → a ≠ b → (T_F a).2.1 ≠ (T_F b).2.1 := by decide +kernel
theorem l_F_0 : (.lays "SettingsDesk$Leaf" "SettingsDesk$Leaf" "isReference" "Z" : Cond) ∈ sdB0 := sd_tb1 62 rfl rfl
theorem l_F_1 : (.lays "SettingsDesk$Leaf" "SettingsDesk$Leaf" "low" "I" : Cond) ∈ sdB0 := sd_tb1 64 rfl rfl
theorem l_F_2 : (.lays "SettingsDesk$Leaf" "SettingsDesk$Leaf" "high" "I" : Cond) ∈ sdB0 := sd_tb1 66 rfl rfl
theorem l_F_3 : (.lays "SettingsDesk$Leaf" "SettingsDesk$Leaf" "required" "Z" : Cond) ∈ sdB0 := sd_tb1 68 rfl rfl
theorem l_F_4 : (.lays "SettingsDesk$Leaf" "SettingsDesk$Leaf" "unique" "Z" : Cond) ∈ sdB0 := sd_tb1 70 rfl rfl
theorem l_F_5 : (.lays "SettingsDesk$Leaf" "SettingsDesk$Leaf" "hasStandard" "Z" : Cond) ∈ sdB0 := sd_tb1 72 rfl rfl
theorem l_F_6 : (.lays "SettingsDesk$Leaf" "SettingsDesk$Leaf" "standardValue" "I" : Cond) ∈ sdB0 := sd_tb1 74 rfl rfl
theorem lay_F {c : Cond} : ∀ w ∈ u_ws "SettingsDesk$Leaf" T_F 7, w ∈ c :: sdB0 := by
  show ∀ w ∈ ([.lays "SettingsDesk$Leaf" "SettingsDesk$Leaf" "isReference" "Z", .lays "SettingsDesk$Leaf" "SettingsDesk$Leaf" "low" "I", .lays "SettingsDesk$Leaf" "SettingsDesk$Leaf" "high" "I", .lays "SettingsDesk$Leaf" "SettingsDesk$Leaf" "required" "Z", .lays "SettingsDesk$Leaf" "SettingsDesk$Leaf" "unique" "Z", .lays "SettingsDesk$Leaf" "SettingsDesk$Leaf" "hasStandard" "Z", .lays "SettingsDesk$Leaf" "SettingsDesk$Leaf" "standardValue" "I"] : List Cond), w ∈ c :: sdB0
  exact List.forall_mem_cons.mpr ⟨List.mem_cons_of_mem _ l_F_0, List.forall_mem_cons.mpr ⟨List.mem_cons_of_mem _ l_F_1, List.forall_mem_cons.mpr ⟨List.mem_cons_of_mem _ l_F_2, List.forall_mem_cons.mpr ⟨List.mem_cons_of_mem _ l_F_3, List.forall_mem_cons.mpr ⟨List.mem_cons_of_mem _ l_F_4, List.forall_mem_cons.mpr ⟨List.mem_cons_of_mem _ l_F_5, List.forall_mem_cons.mpr ⟨List.mem_cons_of_mem _ l_F_6, fun _ h => absurd h List.not_mem_nil⟩⟩⟩⟩⟩⟩⟩
def T_R : u_T := fun k => match k with
  | 0 => ("SettingsDesk$Rule", "ofList", "I", false)
  | 1 => ("SettingsDesk$Rule", "a", "I", false)
  | 2 => ("SettingsDesk$Rule", "value", "I", false)
  | 3 => ("SettingsDesk$Rule", "b", "I", false)
  | _ => ("SettingsDesk$Rule", "there", "Z", false)
def ty_R : Nat → FieldType := fun k => match k with
  | 0 => .int
  | 1 => .int
  | 2 => .int
  | 3 => .int
  | _ => .boolean
theorem ty_R_ok : ∀ k, k < 5 → parseFieldDescriptor (T_R k).2.2.1 = some (ty_R k) := by decide +kernel
theorem nm_R : ∀ a, a < 5 → ∀ b, b < 5 → a ≠ b → (T_R a).2.1 ≠ (T_R b).2.1 := by decide +kernel
theorem l_R_0 : (.lays "SettingsDesk$Rule" "SettingsDesk$Rule" "ofList" "I" : Cond) ∈ sdB0 := sd_tb1 93 rfl rfl
theorem l_R_1 : (.lays "SettingsDesk$Rule" "SettingsDesk$Rule" "a" "I" : Cond) ∈ sdB0 := sd_tb1 95 rfl rfl
theorem l_R_2 : (.lays "SettingsDesk$Rule" "SettingsDesk$Rule" "value" "I" : Cond) ∈ sdB0 := sd_tb1 97 rfl rfl
theorem l_R_3 : (.lays "SettingsDesk$Rule" "SettingsDesk$Rule" "b" "I" : Cond) ∈ sdB0 := sd_tb1 99 rfl rfl
theorem l_R_4 : (.lays "SettingsDesk$Rule" "SettingsDesk$Rule" "there" "Z" : Cond) ∈ sdB0 := sd_tb1 101 rfl rfl
theorem lay_R {c : Cond} : ∀ w ∈ u_ws "SettingsDesk$Rule" T_R 5, w ∈ c :: sdB0 := by
  show ∀ w ∈ ([.lays "SettingsDesk$Rule" "SettingsDesk$Rule" "ofList" "I", .lays "SettingsDesk$Rule" "SettingsDesk$Rule" "a" "I", .lays "SettingsDesk$Rule" "SettingsDesk$Rule" "value" "I", .lays "SettingsDesk$Rule" "SettingsDesk$Rule" "b" "I", .lays "SettingsDesk$Rule" "SettingsDesk$Rule" "there" "Z"] : List Cond), w ∈ c :: sdB0
  exact List.forall_mem_cons.mpr ⟨List.mem_cons_of_mem _ l_R_0, List.forall_mem_cons.mpr ⟨List.mem_cons_of_mem _ l_R_1, List.forall_mem_cons.mpr ⟨List.mem_cons_of_mem _ l_R_2, List.forall_mem_cons.mpr ⟨List.mem_cons_of_mem _ l_R_3, List.forall_mem_cons.mpr ⟨List.mem_cons_of_mem _ l_R_4, fun _ h => absurd h List.not_mem_nil⟩⟩⟩⟩⟩
def T_G : u_T := fun k => match k with
  | 0 => ("SettingsDesk$Merge", "candidate", "LSettingsDesk$Settings;", true)
  | 1 => ("SettingsDesk$Merge", "base", "LSettingsDesk$Settings;", true)
  | 2 => ("SettingsDesk$Merge", "running", "LSettingsDesk$Settings;", true)
  | 3 => ("SettingsDesk$Merge", "outcome", "LSettingsDesk$Settings;", true)
  | _ => ("SettingsDesk$Merge", "trouble", "LSettingsDesk$Trouble;", true)
def ty_G : Nat → FieldType := fun k => match k with
  | 0 => .object "SettingsDesk$Settings"
  | 1 => .object "SettingsDesk$Settings"
  | 2 => .object "SettingsDesk$Settings"
  | 3 => .object "SettingsDesk$Settings"
  | _ => .object "SettingsDesk$Trouble"
theorem ty_G_ok : ∀ k, k < 5 → parseFieldDescriptor (T_G k).2.2.1 = some (ty_G k) := by decide +kernel
theorem nm_G : ∀ a, a < 5 → ∀ b, b < 5 → a ≠ b → (T_G a).2.1 ≠ (T_G b).2.1 := by decide +kernel
theorem l_G_0 : (.laysFinal "SettingsDesk$Merge" "SettingsDesk$Merge" "candidate" "LSettingsDesk$Settings;" : Cond) ∈ sdB0 := sd_tb3 221 rfl rfl
theorem l_G_1 : (.laysFinal "SettingsDesk$Merge" "SettingsDesk$Merge" "base" "LSettingsDesk$Settings;" : Cond) ∈ sdB0 := sd_tb3 223 rfl rfl
theorem l_G_2 : (.laysFinal "SettingsDesk$Merge" "SettingsDesk$Merge" "running" "LSettingsDesk$Settings;" : Cond) ∈ sdB0 := sd_tb3 225 rfl rfl
theorem l_G_3 : (.laysFinal "SettingsDesk$Merge" "SettingsDesk$Merge" "outcome" "LSettingsDesk$Settings;" : Cond) ∈ sdB0 := sd_tb3 227 rfl rfl
theorem l_G_4 : (.laysFinal "SettingsDesk$Merge" "SettingsDesk$Merge" "trouble" "LSettingsDesk$Trouble;" : Cond) ∈ sdB0 := sd_tb3 229 rfl rfl
theorem lay_G {c : Cond} : ∀ w ∈ u_ws "SettingsDesk$Merge" T_G 5, w ∈ c :: sdB0 := by
  show ∀ w ∈ ([.laysFinal "SettingsDesk$Merge" "SettingsDesk$Merge" "candidate" "LSettingsDesk$Settings;", .laysFinal "SettingsDesk$Merge" "SettingsDesk$Merge" "base" "LSettingsDesk$Settings;", .laysFinal "SettingsDesk$Merge" "SettingsDesk$Merge" "running" "LSettingsDesk$Settings;", .laysFinal "SettingsDesk$Merge" "SettingsDesk$Merge" "outcome" "LSettingsDesk$Settings;", .laysFinal "SettingsDesk$Merge" "SettingsDesk$Merge" "trouble" "LSettingsDesk$Trouble;"] : List Cond), w ∈ c :: sdB0
  exact List.forall_mem_cons.mpr ⟨List.mem_cons_of_mem _ l_G_0, List.forall_mem_cons.mpr ⟨List.mem_cons_of_mem _ l_G_1, List.forall_mem_cons.mpr ⟨List.mem_cons_of_mem _ l_G_2, List.forall_mem_cons.mpr ⟨List.mem_cons_of_mem _ l_G_3, List.forall_mem_cons.mpr ⟨List.mem_cons_of_mem _ l_G_4, fun _ h => absurd h List.not_mem_nil⟩⟩⟩⟩⟩
def T_K : u_T := fun k => match k with
  | 0 => ("SettingsDesk$Check", "schema", "LSettingsDesk$Schema;", true)
  | 1 => ("SettingsDesk$Check", "settings", "LSettingsDesk$Settings;", true)
  | _ => ("SettingsDesk$Check", "trouble", "LSettingsDesk$Trouble;", true)
def ty_K : Nat → FieldType := fun k => match k with
  | 0 => .object "SettingsDesk$Schema"
  | 1 => .object "SettingsDesk$Settings"
  | _ => .object "SettingsDesk$Trouble"
theorem ty_K_ok : ∀ k, k < 3 → parseFieldDescriptor (T_K k).2.2.1 = some (ty_K k) := by decide +kernel
theorem nm_K : ∀ a, a < 3 → ∀ b, b < 3 → a ≠ b → (T_K a).2.1 ≠ (T_K b).2.1 := by decide +kernel
theorem l_K_0 : (.laysFinal "SettingsDesk$Check" "SettingsDesk$Check" "schema" "LSettingsDesk$Schema;" : Cond) ∈ sdB0 := sd_tb3 13 rfl rfl
theorem l_K_1 : (.laysFinal "SettingsDesk$Check" "SettingsDesk$Check" "settings" "LSettingsDesk$Settings;" : Cond) ∈ sdB0 := sd_tb3 15 rfl rfl
theorem l_K_2 : (.laysFinal "SettingsDesk$Check" "SettingsDesk$Check" "trouble" "LSettingsDesk$Trouble;" : Cond) ∈ sdB0 := sd_tb3 17 rfl rfl
theorem lay_K {c : Cond} : ∀ w ∈ u_ws "SettingsDesk$Check" T_K 3, w ∈ c :: sdB0 := by
  show ∀ w ∈ ([.laysFinal "SettingsDesk$Check" "SettingsDesk$Check" "schema" "LSettingsDesk$Schema;", .laysFinal "SettingsDesk$Check" "SettingsDesk$Check" "settings" "LSettingsDesk$Settings;", .laysFinal "SettingsDesk$Check" "SettingsDesk$Check" "trouble" "LSettingsDesk$Trouble;"] : List Cond), w ∈ c :: sdB0
  exact List.forall_mem_cons.mpr ⟨List.mem_cons_of_mem _ l_K_0, List.forall_mem_cons.mpr ⟨List.mem_cons_of_mem _ l_K_1, List.forall_mem_cons.mpr ⟨List.mem_cons_of_mem _ l_K_2, fun _ h => absurd h List.not_mem_nil⟩⟩⟩
def T_E : u_T := fun k => match k with
  | 0 => ("SettingsDesk$Difference", "candidate", "LSettingsDesk$Settings;", true)
  | 1 => ("SettingsDesk$Difference", "running", "LSettingsDesk$Settings;", true)
  | 2 => ("SettingsDesk$Difference", "toPass", "I", false)
  | 3 => ("SettingsDesk$Difference", "found", "Z", false)
  | 4 => ("SettingsDesk$Difference", "atList", "I", false)
  | 5 => ("SettingsDesk$Difference", "atKey", "I", false)
  | 6 => ("SettingsDesk$Difference", "atLeaf", "I", false)
  | _ => ("SettingsDesk$Difference", "kind", "I", false)
def ty_E : Nat → FieldType := fun k => match k with
  | 0 => .object "SettingsDesk$Settings"
  | 1 => .object "SettingsDesk$Settings"
  | 2 => .int
  | 3 => .boolean
  | 4 => .int
  | 5 => .int
  | 6 => .int
  | _ => .int
theorem ty_E_ok : ∀ k, k < 8 → parseFieldDescriptor (T_E k).2.2.1 = some (ty_E k) := by decide +kernel
theorem nm_E : ∀ a, a < 8 → ∀ b, b < 8 → a ≠ b → (T_E a).2.1 ≠ (T_E b).2.1 := by decide +kernel
theorem l_E_0 : (.laysFinal "SettingsDesk$Difference" "SettingsDesk$Difference" "candidate" "LSettingsDesk$Settings;" : Cond) ∈ sdB0 := sd_tb4 89 rfl rfl
theorem l_E_1 : (.laysFinal "SettingsDesk$Difference" "SettingsDesk$Difference" "running" "LSettingsDesk$Settings;" : Cond) ∈ sdB0 := sd_tb4 91 rfl rfl
theorem l_E_2 : (.lays "SettingsDesk$Difference" "SettingsDesk$Difference" "toPass" "I" : Cond) ∈ sdB0 := sd_tb4 93 rfl rfl
theorem l_E_3 : (.lays "SettingsDesk$Difference" "SettingsDesk$Difference" "found" "Z" : Cond) ∈ sdB0 := sd_tb4 95 rfl rfl
theorem l_E_4 : (.lays "SettingsDesk$Difference" "SettingsDesk$Difference" "atList" "I" : Cond) ∈ sdB0 := sd_tb4 97 rfl rfl
theorem l_E_5 : (.lays "SettingsDesk$Difference" "SettingsDesk$Difference" "atKey" "I" : Cond) ∈ sdB0 := sd_tb4 99 rfl rfl
theorem l_E_6 : (.lays "SettingsDesk$Difference" "SettingsDesk$Difference" "atLeaf" "I" : Cond) ∈ sdB0 := sd_tb4 101 rfl rfl
theorem l_E_7 : (.lays "SettingsDesk$Difference" "SettingsDesk$Difference" "kind" "I" : Cond) ∈ sdB0 := sd_tb4 103 rfl rfl
theorem lay_E {c : Cond} : ∀ w ∈ u_ws "SettingsDesk$Difference" T_E 8, w ∈ c :: sdB0 := by
  show ∀ w ∈ ([.laysFinal "SettingsDesk$Difference" "SettingsDesk$Difference" "candidate" "LSettingsDesk$Settings;", .laysFinal "SettingsDesk$Difference" "SettingsDesk$Difference" "running" "LSettingsDesk$Settings;", .lays "SettingsDesk$Difference" "SettingsDesk$Difference" "toPass" "I", .lays "SettingsDesk$Difference" "SettingsDesk$Difference" "found" "Z", .lays "SettingsDesk$Difference" "SettingsDesk$Difference" "atList" "I", .lays "SettingsDesk$Difference" "SettingsDesk$Difference" "atKey" "I", .lays "SettingsDesk$Difference" "SettingsDesk$Difference" "atLeaf" "I", .lays "SettingsDesk$Difference" "SettingsDesk$Difference" "kind" "I"] : List Cond), w ∈ c :: sdB0
  exact List.forall_mem_cons.mpr ⟨List.mem_cons_of_mem _ l_E_0, List.forall_mem_cons.mpr ⟨List.mem_cons_of_mem _ l_E_1, List.forall_mem_cons.mpr ⟨List.mem_cons_of_mem _ l_E_2, List.forall_mem_cons.mpr ⟨List.mem_cons_of_mem _ l_E_3, List.forall_mem_cons.mpr ⟨List.mem_cons_of_mem _ l_E_4, List.forall_mem_cons.mpr ⟨List.mem_cons_of_mem _ l_E_5, List.forall_mem_cons.mpr ⟨List.mem_cons_of_mem _ l_E_6, List.forall_mem_cons.mpr ⟨List.mem_cons_of_mem _ l_E_7, fun _ h => absurd h List.not_mem_nil⟩⟩⟩⟩⟩⟩⟩⟩
def T_O : u_T := fun k => match k with
  | 0 => ("SettingsDeskModel", "thrown", "I", false)
  | 1 => ("SettingsDeskModel", "ready", "Z", false)
  | 2 => ("SettingsDeskModel", "lists", "I", false)
  | 3 => ("SettingsDeskModel", "leaves", "[I", true)
  | 4 => ("SettingsDeskModel", "refers", "[Z", true)
  | 5 => ("SettingsDeskModel", "lows", "[I", true)
  | 6 => ("SettingsDeskModel", "highs", "[I", true)
  | 7 => ("SettingsDeskModel", "flags", "[I", true)
  | 8 => ("SettingsDeskModel", "hasStandard", "[Z", true)
  | 9 => ("SettingsDeskModel", "standards", "[I", true)
  | 10 => ("SettingsDeskModel", "rules", "I", false)
  | 11 => ("SettingsDeskModel", "ruleList", "[I", true)
  | 12 => ("SettingsDeskModel", "ruleA", "[I", true)
  | 13 => ("SettingsDeskModel", "ruleValue", "[I", true)
  | 14 => ("SettingsDeskModel", "ruleB", "[I", true)
  | 15 => ("SettingsDeskModel", "ruleThere", "[Z", true)
  | 16 => ("SettingsDeskModel", "sizes", "[I", true)
  | 17 => ("SettingsDeskModel", "keys", "[I", true)
  | 18 => ("SettingsDeskModel", "bits", "[I", true)
  | 19 => ("SettingsDeskModel", "values", "[I", true)
  | 20 => ("SettingsDeskModel", "older", "I", false)
  | 21 => ("SettingsDeskModel", "changes", "I", false)
  | 22 => ("SettingsDeskModel", "begun", "[Z", true)
  | 23 => ("SettingsDeskModel", "holder", "I", false)
  | 24 => ("SettingsDeskModel", "waits", "I", false)
  | 25 => ("SettingsDeskModel", "off", "Z", false)
  | 26 => ("SettingsDeskModel", "failing", "I", false)
  | 27 => ("SettingsDeskModel", "fault", "I", false)
  | 28 => ("SettingsDeskModel", "faultList", "I", false)
  | 29 => ("SettingsDeskModel", "faultKey", "I", false)
  | 30 => ("SettingsDeskModel", "faultLeaf", "I", false)
  | 31 => ("SettingsDeskModel", "foundList", "I", false)
  | 32 => ("SettingsDeskModel", "foundKey", "I", false)
  | 33 => ("SettingsDeskModel", "foundLeaf", "I", false)
  | _ => ("SettingsDeskModel", "foundKind", "I", false)
def ty_O : Nat → FieldType := fun k => match k with
  | 0 => .int
  | 1 => .boolean
  | 2 => .int
  | 3 => .array .int
  | 4 => .array .boolean
  | 5 => .array .int
  | 6 => .array .int
  | 7 => .array .int
  | 8 => .array .boolean
  | 9 => .array .int
  | 10 => .int
  | 11 => .array .int
  | 12 => .array .int
  | 13 => .array .int
  | 14 => .array .int
  | 15 => .array .boolean
  | 16 => .array .int
  | 17 => .array .int
  | 18 => .array .int
  | 19 => .array .int
  | 20 => .int
  | 21 => .int
  | 22 => .array .boolean
  | 23 => .int
  | 24 => .int
  | 25 => .boolean
  | 26 => .int
  | 27 => .int
  | 28 => .int
  | 29 => .int
  | 30 => .int
  | 31 => .int
  | 32 => .int
  | 33 => .int
  | _ => .int
theorem ty_O_ok : ∀ k, k < 35 → parseFieldDescriptor (T_O k).2.2.1 = some (ty_O k) := by decide +kernel
theorem nm_O : ∀ a, a < 35 → ∀ b, b < 35 → a ≠ b → (T_O a).2.1 ≠ (T_O b).2.1 := by decide +kernel
theorem l_O_0 : (.lays "SettingsDeskModel" "SettingsDeskModel" "thrown" "I" : Cond) ∈ sdB0 := sd_tb4 194 rfl rfl
theorem l_O_1 : (.lays "SettingsDeskModel" "SettingsDeskModel" "ready" "Z" : Cond) ∈ sdB0 := sd_tb4 196 rfl rfl
theorem l_O_2 : (.lays "SettingsDeskModel" "SettingsDeskModel" "lists" "I" : Cond) ∈ sdB0 := sd_tb4 198 rfl rfl
theorem l_O_3 : (.laysFinal "SettingsDeskModel" "SettingsDeskModel" "leaves" "[I" : Cond) ∈ sdB0 := sd_tb4 200 rfl rfl
theorem l_O_4 : (.laysFinal "SettingsDeskModel" "SettingsDeskModel" "refers" "[Z" : Cond) ∈ sdB0 := sd_tb4 202 rfl rfl
theorem l_O_5 : (.laysFinal "SettingsDeskModel" "SettingsDeskModel" "lows" "[I" : Cond) ∈ sdB0 := sd_tb4 204 rfl rfl
theorem l_O_6 : (.laysFinal "SettingsDeskModel" "SettingsDeskModel" "highs" "[I" : Cond) ∈ sdB0 := sd_tb4 206 rfl rfl
theorem l_O_7 : (.laysFinal "SettingsDeskModel" "SettingsDeskModel" "flags" "[I" : Cond) ∈ sdB0 := sd_tb4 208 rfl rfl
theorem l_O_8 : (.laysFinal "SettingsDeskModel" "SettingsDeskModel" "hasStandard" "[Z" : Cond) ∈ sdB0 := sd_tb4 210 rfl rfl
theorem l_O_9 : (.laysFinal "SettingsDeskModel" "SettingsDeskModel" "standards" "[I" : Cond) ∈ sdB0 := sd_tb4 212 rfl rfl
theorem l_O_10 : (.lays "SettingsDeskModel" "SettingsDeskModel" "rules" "I" : Cond) ∈ sdB0 := sd_tb4 214 rfl rfl
theorem l_O_11 : (.laysFinal "SettingsDeskModel" "SettingsDeskModel" "ruleList" "[I" : Cond) ∈ sdB0 := sd_tb4 216 rfl rfl
theorem l_O_12 : (.laysFinal "SettingsDeskModel" "SettingsDeskModel" "ruleA" "[I" : Cond) ∈ sdB0 := sd_tb4 218 rfl rfl
theorem l_O_13 : (.laysFinal "SettingsDeskModel" "SettingsDeskModel" "ruleValue" "[I" : Cond) ∈ sdB0 := sd_tb4 220 rfl rfl
theorem l_O_14 : (.laysFinal "SettingsDeskModel" "SettingsDeskModel" "ruleB" "[I" : Cond) ∈ sdB0 := sd_tb4 222 rfl rfl
theorem l_O_15 : (.laysFinal "SettingsDeskModel" "SettingsDeskModel" "ruleThere" "[Z" : Cond) ∈ sdB0 := sd_tb4 224 rfl rfl
theorem l_O_16 : (.laysFinal "SettingsDeskModel" "SettingsDeskModel" "sizes" "[I" : Cond) ∈ sdB0 := sd_tb4 226 rfl rfl
theorem l_O_17 : (.laysFinal "SettingsDeskModel" "SettingsDeskModel" "keys" "[I" : Cond) ∈ sdB0 := sd_tb4 228 rfl rfl
theorem l_O_18 : (.laysFinal "SettingsDeskModel" "SettingsDeskModel" "bits" "[I" : Cond) ∈ sdB0 := sd_tb4 230 rfl rfl
theorem l_O_19 : (.laysFinal "SettingsDeskModel" "SettingsDeskModel" "values" "[I" : Cond) ∈ sdB0 := sd_tb4 232 rfl rfl
theorem l_O_20 : (.lays "SettingsDeskModel" "SettingsDeskModel" "older" "I" : Cond) ∈ sdB0 := sd_tb4 234 rfl rfl
theorem l_O_21 : (.lays "SettingsDeskModel" "SettingsDeskModel" "changes" "I" : Cond) ∈ sdB0 := sd_tb4 236 rfl rfl
theorem l_O_22 : (.laysFinal "SettingsDeskModel" "SettingsDeskModel" "begun" "[Z" : Cond) ∈ sdB0 := sd_tb4 238 rfl rfl
theorem l_O_23 : (.lays "SettingsDeskModel" "SettingsDeskModel" "holder" "I" : Cond) ∈ sdB0 := sd_tb5 0 rfl rfl
theorem l_O_24 : (.lays "SettingsDeskModel" "SettingsDeskModel" "waits" "I" : Cond) ∈ sdB0 := sd_tb5 2 rfl rfl
theorem l_O_25 : (.lays "SettingsDeskModel" "SettingsDeskModel" "off" "Z" : Cond) ∈ sdB0 := sd_tb5 4 rfl rfl
theorem l_O_26 : (.lays "SettingsDeskModel" "SettingsDeskModel" "failing" "I" : Cond) ∈ sdB0 := sd_tb5 6 rfl rfl
theorem l_O_27 : (.lays "SettingsDeskModel" "SettingsDeskModel" "fault" "I" : Cond) ∈ sdB0 := sd_tb5 8 rfl rfl
theorem l_O_28 : (.lays "SettingsDeskModel" "SettingsDeskModel" "faultList" "I" : Cond) ∈ sdB0 := sd_tb5 10 rfl rfl
theorem l_O_29 : (.lays "SettingsDeskModel" "SettingsDeskModel" "faultKey" "I" : Cond) ∈ sdB0 := sd_tb5 12 rfl rfl
theorem l_O_30 : (.lays "SettingsDeskModel" "SettingsDeskModel" "faultLeaf" "I" : Cond) ∈ sdB0 := sd_tb5 14 rfl rfl
theorem l_O_31 : (.lays "SettingsDeskModel" "SettingsDeskModel" "foundList" "I" : Cond) ∈ sdB0 := sd_tb5 16 rfl rfl
theorem l_O_32 : (.lays "SettingsDeskModel" "SettingsDeskModel" "foundKey" "I" : Cond) ∈ sdB0 := sd_tb5 18 rfl rfl
theorem l_O_33 : (.lays "SettingsDeskModel" "SettingsDeskModel" "foundLeaf" "I" : Cond) ∈ sdB0 := sd_tb5 20 rfl rfl
theorem l_O_34 : (.lays "SettingsDeskModel" "SettingsDeskModel" "foundKind" "I" : Cond) ∈ sdB0 := sd_tb5 22 rfl rfl
theorem lay_O {c : Cond} : ∀ w ∈ u_ws "SettingsDeskModel" T_O 35, w ∈ c :: sdB0 := by
  show ∀ w ∈ ([.lays "SettingsDeskModel" "SettingsDeskModel" "thrown" "I", .lays "SettingsDeskModel" "SettingsDeskModel" "ready" "Z", .lays "SettingsDeskModel" "SettingsDeskModel" "lists" "I", .laysFinal "SettingsDeskModel" "SettingsDeskModel" "leaves" "[I", .laysFinal "SettingsDeskModel" "SettingsDeskModel" "refers" "[Z", .laysFinal "SettingsDeskModel" "SettingsDeskModel" "lows" "[I", .laysFinal "SettingsDeskModel" "SettingsDeskModel" "highs" "[I", .laysFinal "SettingsDeskModel" "SettingsDeskModel" "flags" "[I", .laysFinal "SettingsDeskModel" "SettingsDeskModel" "hasStandard" "[Z", .laysFinal "SettingsDeskModel" "SettingsDeskModel" "standards" "[I", .lays "SettingsDeskModel" "SettingsDeskModel" "rules" "I", .laysFinal "SettingsDeskModel" "SettingsDeskModel" "ruleList" "[I", .laysFinal "SettingsDeskModel" "SettingsDeskModel" "ruleA" "[I", .laysFinal "SettingsDeskModel" "SettingsDeskModel" "ruleValue" "[I", .laysFinal "SettingsDeskModel" "SettingsDeskModel" "ruleB" "[I", .laysFinal "SettingsDeskModel" "SettingsDeskModel" "ruleThere" "[Z", .laysFinal "SettingsDeskModel" "SettingsDeskModel" "sizes" "[I", .laysFinal "SettingsDeskModel" "SettingsDeskModel" "keys" "[I", .laysFinal "SettingsDeskModel" "SettingsDeskModel" "bits" "[I", .laysFinal "SettingsDeskModel" "SettingsDeskModel" "values" "[I", .lays "SettingsDeskModel" "SettingsDeskModel" "older" "I", .lays "SettingsDeskModel" "SettingsDeskModel" "changes" "I", .laysFinal "SettingsDeskModel" "SettingsDeskModel" "begun" "[Z", .lays "SettingsDeskModel" "SettingsDeskModel" "holder" "I", .lays "SettingsDeskModel" "SettingsDeskModel" "waits" "I", .lays "SettingsDeskModel" "SettingsDeskModel" "off" "Z", .lays "SettingsDeskModel" "SettingsDeskModel" "failing" "I", .lays "SettingsDeskModel" "SettingsDeskModel" "fault" "I", .lays "SettingsDeskModel" "SettingsDeskModel" "faultList" "I", .lays "SettingsDeskModel" "SettingsDeskModel" "faultKey" "I", .lays "SettingsDeskModel" "SettingsDeskModel" "faultLeaf" "I", .lays "SettingsDeskModel" "SettingsDeskModel" "foundList" "I", .lays "SettingsDeskModel" "SettingsDeskModel" "foundKey" "I", .lays "SettingsDeskModel" "SettingsDeskModel" "foundLeaf" "I", .lays "SettingsDeskModel" "SettingsDeskModel" "foundKind" "I"] : List Cond), w ∈ c :: sdB0
  exact List.forall_mem_cons.mpr ⟨List.mem_cons_of_mem _ l_O_0, List.forall_mem_cons.mpr ⟨List.mem_cons_of_mem _ l_O_1, List.forall_mem_cons.mpr ⟨List.mem_cons_of_mem _ l_O_2, List.forall_mem_cons.mpr ⟨List.mem_cons_of_mem _ l_O_3, List.forall_mem_cons.mpr ⟨List.mem_cons_of_mem _ l_O_4, List.forall_mem_cons.mpr ⟨List.mem_cons_of_mem _ l_O_5, List.forall_mem_cons.mpr ⟨List.mem_cons_of_mem _ l_O_6, List.forall_mem_cons.mpr ⟨List.mem_cons_of_mem _ l_O_7, List.forall_mem_cons.mpr ⟨List.mem_cons_of_mem _ l_O_8, List.forall_mem_cons.mpr ⟨List.mem_cons_of_mem _ l_O_9, List.forall_mem_cons.mpr ⟨List.mem_cons_of_mem _ l_O_10, List.forall_mem_cons.mpr ⟨List.mem_cons_of_mem _ l_O_11, List.forall_mem_cons.mpr ⟨List.mem_cons_of_mem _ l_O_12, List.forall_mem_cons.mpr ⟨List.mem_cons_of_mem _ l_O_13, List.forall_mem_cons.mpr ⟨List.mem_cons_of_mem _ l_O_14, List.forall_mem_cons.mpr ⟨List.mem_cons_of_mem _ l_O_15, List.forall_mem_cons.mpr ⟨List.mem_cons_of_mem _ l_O_16, List.forall_mem_cons.mpr ⟨List.mem_cons_of_mem _ l_O_17, List.forall_mem_cons.mpr ⟨List.mem_cons_of_mem _ l_O_18, List.forall_mem_cons.mpr ⟨List.mem_cons_of_mem _ l_O_19, List.forall_mem_cons.mpr ⟨List.mem_cons_of_mem _ l_O_20, List.forall_mem_cons.mpr ⟨List.mem_cons_of_mem _ l_O_21, List.forall_mem_cons.mpr ⟨List.mem_cons_of_mem _ l_O_22, List.forall_mem_cons.mpr ⟨List.mem_cons_of_mem _ l_O_23, List.forall_mem_cons.mpr ⟨List.mem_cons_of_mem _ l_O_24, List.forall_mem_cons.mpr ⟨List.mem_cons_of_mem _ l_O_25, List.forall_mem_cons.mpr ⟨List.mem_cons_of_mem _ l_O_26, List.forall_mem_cons.mpr ⟨List.mem_cons_of_mem _ l_O_27, List.forall_mem_cons.mpr ⟨List.mem_cons_of_mem _ l_O_28, List.forall_mem_cons.mpr ⟨List.mem_cons_of_mem _ l_O_29, List.forall_mem_cons.mpr ⟨List.mem_cons_of_mem _ l_O_30, List.forall_mem_cons.mpr ⟨List.mem_cons_of_mem _ l_O_31, List.forall_mem_cons.mpr ⟨List.mem_cons_of_mem _ l_O_32, List.forall_mem_cons.mpr ⟨List.mem_cons_of_mem _ l_O_33, List.forall_mem_cons.mpr ⟨List.mem_cons_of_mem _ l_O_34, fun _ h => absurd h List.not_mem_nil⟩⟩⟩⟩⟩⟩⟩⟩⟩⟩⟩⟩⟩⟩⟩⟩⟩⟩⟩⟩⟩⟩⟩⟩⟩⟩⟩⟩⟩⟩⟩⟩⟩⟩⟩
abbrev sdCl : List vw_C := [("SettingsDesk", T_D, 12), ("SettingsDesk$Schema", T_C, 6), ("SettingsDesk$Settings", T_S, 4), ("SettingsDesk$Session", T_N, 3), ("SettingsDesk$Trouble", T_T, 4), ("SettingsDesk$Leaf", T_F, 7), ("SettingsDesk$Rule", T_R, 5), ("SettingsDesk$Merge", T_G, 5), ("SettingsDesk$Check", T_K, 3), ("SettingsDesk$Difference", T_E, 8), ("SettingsDeskModel", T_O, 35)]
def sd_tys (dA : Nat → ClassId) : List (ClassId × FieldType) := [(dA 0, .int), (dA 1, .boolean), (dA 2, .long), (dA 3, .object "SettingsDesk$Leaf"), (dA 4, .object "SettingsDesk$Rule"), (dA 5, .object "SettingsDesk$Settings"), (dA 6, .object "SettingsDesk$Session")]
def sdNw : List Cond := [.methodLinkNest "SettingsDesk$Schema" 38 ⟨"SettingsDesk$Leaf", "<init>", "()V"⟩ "SettingsDesk", .methodLinkNest "SettingsDesk$Schema" 39 ⟨"SettingsDesk$Rule", "<init>", "()V"⟩ "SettingsDesk", .methodLinkNest "SettingsDesk" 41 ⟨"SettingsDesk$Trouble", "<init>", "()V"⟩ "SettingsDesk", .methodLinkNest "SettingsDesk" 63 ⟨"SettingsDesk$Session", "<init>", "()V"⟩ "SettingsDesk", .castable "java/lang/IllegalStateException" "java/lang/IllegalStateException", .declares ⟨"java/lang/RuntimeException", "<init>", "()V"⟩, .declares ⟨"java/lang/RuntimeException", "<init>", "(Ljava/lang/String;)V"⟩, .declares ⟨"java/lang/Exception", "<init>", "()V"⟩, .declares ⟨"java/lang/Exception", "<init>", "(Ljava/lang/String;)V"⟩, .declares ⟨"java/lang/Throwable", "<init>", "()V"⟩, .declares ⟨"java/lang/Throwable", "<init>", "(Ljava/lang/String;)V"⟩, .castable "java/lang/IndexOutOfBoundsException" "java/lang/IndexOutOfBoundsException", .castable "java/lang/IllegalArgumentException" "java/lang/IllegalArgumentException", .castable "java/lang/UnsupportedOperationException" "java/lang/UnsupportedOperationException"]
def sdSs : List (String × Nat × String) := [("SettingsDesk", 292, "the power is off, or the schema is ready"), ("SettingsDesk", 72, "there are as many lists as there may be"), ("SettingsDesk", 299, "there is no such list"), ("SettingsDesk", 85, "the list has as many leaves as it may have"), ("SettingsDesk", 93, "there can be no such leaf"), ("SettingsDesk", 304, "there is no such list or leaf"), ("SettingsDesk", 117, "the leaf can have no such standard"), ("SettingsDesk", 128, "there are as many rules as there may be"), ("SettingsDesk", 294, "the power is off, or the schema is not ready"), ("SettingsDesk", 306, "there is no such session"), ("SettingsDesk", 308, "the session has not begun"), ("SettingsDesk", 166, "there can be no such entry"), ("SettingsDesk", 183, "the list has as many entries as it may have"), ("SettingsDesk", 310, "the candidate has no such entry"), ("SettingsDesk", 193, "the leaf takes no such value"), ("SettingsDesk", 208, "there is no such set"), ("SettingsDesk", 219, "there is no such entry, or the leaf is nothing"), ("SettingsDesk", 225, "there can be no such number of ticks"), ("SettingsDesk", 245, "there are not so many older sets"), ("SettingsDesk", 255, "there is no such difference, or nothing such of it"), ("SettingsDesk", 279, "there can be no such number of pages")]
abbrev sdE0 (sc : Option (Nat × Nat × (Nat → Int32))) : sdE := (sdCl, sdNw, sdSs, sc)
def isI (n : Nat) (L : Nat → sdL) (c : ClassId) (t len : Nat) : Prop := t < n ∧ L t = sd_I c len
def isQ (n : Nat) (L : Nat → sdL) (c : ClassId) (t len : Nat) (g : Nat → Nat) : Prop := t < n ∧ L t = sd_Q c len g
def isT (n : Nat) (L : Nat → sdL) (o : Nat) : Prop := o < n ∧ L o = sd_O 4 [none, none, none, none]
def isF (n : Nat) (L : Nat → sdL) (o : Nat) : Prop := o < n ∧ L o = sd_O 5 [none, none, none, none, none, none, none]
def isR (n : Nat) (L : Nat → sdL) (o : Nat) : Prop := o < n ∧ L o = sd_O 6 [none, none, none, none, none]
def isS (n : Nat) (L : Nat → sdL) (dA : Nat → ClassId) (o : Nat) : Prop := o < n ∧ L o = sd_O 2 [some (some (o + 1)), some (some (o + 2)), some (some (o + 3)), some (some (o + 4))] ∧ isI n L (dA 0) (o + 1) 4 ∧ isI n L (dA 0) (o + 2) 48 ∧ isI n L (dA 0) (o + 3) 192 ∧ isI n L (dA 0) (o + 4) 48
theorem isS.counts {n : Nat} {L : Nat → sdL} {dA : Nat → ClassId} {o : Nat} (h : isS n L dA o) : isI n L (dA 0) (o + 1) 4 := h.2.2.1
theorem isS.keys {n : Nat} {L : Nat → sdL} {dA : Nat → ClassId} {o : Nat} (h : isS n L dA o) : isI n L (dA 0) (o + 2) 48 := h.2.2.2.1
theorem isS.values {n : Nat} {L : Nat → sdL} {dA : Nat → ClassId} {o : Nat} (h : isS n L dA o) : isI n L (dA 0) (o + 3) 192 := h.2.2.2.2.1
theorem isS.given {n : Nat} {L : Nat → sdL} {dA : Nat → ClassId} {o : Nat} (h : isS n L dA o) : isI n L (dA 0) (o + 4) 48 := h.2.2.2.2.2
def isN (n : Nat) (L : Nat → sdL) (dA : Nat → ClassId) (o : Nat) : Prop := o < n ∧ L o = sd_O 3 [none, some (some (o + 1)), some (some (o + 6))] ∧ isS n L dA (o + 1) ∧ isS n L dA (o + 6)
theorem isN.candidate {n : Nat} {L : Nat → sdL} {dA : Nat → ClassId} {o : Nat} (h : isN n L dA o) : isS n L dA (o + 1) := h.2.2.1
theorem isN.base {n : Nat} {L : Nat → sdL} {dA : Nat → ClassId} {o : Nat} (h : isN n L dA o) : isS n L dA (o + 6) := h.2.2.2
def isC (n : Nat) (L : Nat → sdL) (dA : Nat → ClassId) : Prop := 1 < n ∧ L 1 = sd_O 1 [none, none, some (some 2), some (some 3), none, some (some 4)] ∧ isI n L (dA 0) 2 4 ∧ isQ n L (dA 3) 3 16 (fun j => 5 + j) ∧ isQ n L (dA 4) 4 4 (fun j => 21 + j) ∧ (∀ j, j < 16 → isF n L (5 + j)) ∧ ∀ j, j < 4 → isR n L (21 + j)
theorem isC.leaves {n : Nat} {L : Nat → sdL} {dA : Nat → ClassId} (h : isC n L dA) : isI n L (dA 0) 2 4 := h.2.2.1
theorem isC.leafTable {n : Nat} {L : Nat → sdL} {dA : Nat → ClassId} (h : isC n L dA) : isQ n L (dA 3) 3 16 (fun j => 5 + j) := h.2.2.2.1
theorem isC.rules {n : Nat} {L : Nat → sdL} {dA : Nat → ClassId} (h : isC n L dA) : isQ n L (dA 4) 4 4 (fun j => 21 + j) := h.2.2.2.2.1
theorem sd_lt {i : Int32} {n : Nat} (h : vp_in i n) : i.toNatClampNeg < n := Nat.not_le.mp fun q => h (Or.inr q)
theorem isC.leafTableAt {n : Nat} {L : Nat → sdL} {dA : Nat → ClassId} (h : isC n L dA) {i : Int32} (hi : vp_in i 16) : isF n L (5 + i.toNatClampNeg) := h.2.2.2.2.2.1 _ (sd_lt hi)
theorem isC.rulesAt {n : Nat} {L : Nat → sdL} {dA : Nat → ClassId} (h : isC n L dA) {i : Int32} (hi : vp_in i 4) : isR n L (21 + i.toNatClampNeg) := h.2.2.2.2.2.2 _ (sd_lt hi)
def isD (n : Nat) (L : Nat → sdL) (dA : Nat → ClassId) : Prop := 0 < n ∧ L 0 = sd_O 0 [some (some 1), some (some 25), some (some 30), some (some 35), some (some 40), some (some 41), some (some 42), none, none, none, none, none] ∧ isC n L dA ∧ isS n L dA 25 ∧ isS n L dA 30 ∧ isS n L dA 35 ∧ isQ n L (dA 5) 40 8 (fun j => 43 + 5 * j) ∧ isQ n L (dA 6) 41 3 (fun j => 83 + 11 * j) ∧ isT n L 42 ∧ (∀ j, j < 8 → isS n L dA (43 + 5 * j)) ∧ ∀ j, j < 3 → isN n L dA (83 + 11 * j)
theorem isD.schema {n : Nat} {L : Nat → sdL} {dA : Nat → ClassId} (h : isD n L dA) : isC n L dA := h.2.2.1
theorem isD.running {n : Nat} {L : Nat → sdL} {dA : Nat → ClassId} (h : isD n L dA) : isS n L dA 25 := h.2.2.2.1
theorem isD.saved {n : Nat} {L : Nat → sdL} {dA : Nat → ClassId} (h : isD n L dA) : isS n L dA 30 := h.2.2.2.2.1
theorem isD.outcome {n : Nat} {L : Nat → sdL} {dA : Nat → ClassId} (h : isD n L dA) : isS n L dA 35 := h.2.2.2.2.2.1
theorem isD.older {n : Nat} {L : Nat → sdL} {dA : Nat → ClassId} (h : isD n L dA) : isQ n L (dA 5) 40 8 (fun j => 43 + 5 * j) := h.2.2.2.2.2.2.1
theorem isD.sessions {n : Nat} {L : Nat → sdL} {dA : Nat → ClassId} (h : isD n L dA) : isQ n L (dA 6) 41 3 (fun j => 83 + 11 * j) := h.2.2.2.2.2.2.2.1
theorem isD.trouble {n : Nat} {L : Nat → sdL} {dA : Nat → ClassId} (h : isD n L dA) : isT n L 42 := h.2.2.2.2.2.2.2.2.1
theorem isD.olderAt {n : Nat} {L : Nat → sdL} {dA : Nat → ClassId} (h : isD n L dA) {i : Int32} (hi : vp_in i 8) : isS n L dA (43 + 5 * i.toNatClampNeg) := h.2.2.2.2.2.2.2.2.2.1 _ (sd_lt hi)
theorem isD.sessionsAt {n : Nat} {L : Nat → sdL} {dA : Nat → ClassId} (h : isD n L dA) {i : Int32} (hi : vp_in i 3) : isN n L dA (83 + 11 * i.toNatClampNeg) := h.2.2.2.2.2.2.2.2.2.2 _ (sd_lt hi)
def isG (n : Nat) (L : Nat → sdL) (dA : Nat → ClassId) (o ca ba ru ou tr : Nat) : Prop := o < n ∧ L o = sd_O 7 [some (some ca), some (some ba), some (some ru), some (some ou), some (some tr)] ∧ isS n L dA ca ∧ isS n L dA ba ∧ isS n L dA ru ∧ isS n L dA ou ∧ isT n L tr
theorem isG.candidate {n : Nat} {L : Nat → sdL} {dA : Nat → ClassId} {o ca ba ru ou tr : Nat} (h : isG n L dA o ca ba ru ou tr) : isS n L dA ca := h.2.2.1
theorem isG.base {n : Nat} {L : Nat → sdL} {dA : Nat → ClassId} {o ca ba ru ou tr : Nat} (h : isG n L dA o ca ba ru ou tr) : isS n L dA ba := h.2.2.2.1
theorem isG.running {n : Nat} {L : Nat → sdL} {dA : Nat → ClassId} {o ca ba ru ou tr : Nat} (h : isG n L dA o ca ba ru ou tr) : isS n L dA ru := h.2.2.2.2.1
theorem isG.outcome {n : Nat} {L : Nat → sdL} {dA : Nat → ClassId} {o ca ba ru ou tr : Nat} (h : isG n L dA o ca ba ru ou tr) : isS n L dA ou := h.2.2.2.2.2.1
theorem isG.trouble {n : Nat} {L : Nat → sdL} {dA : Nat → ClassId} {o ca ba ru ou tr : Nat} (h : isG n L dA o ca ba ru ou tr) : isT n L tr := h.2.2.2.2.2.2
def isK (n : Nat) (L : Nat → sdL) (dA : Nat → ClassId) (o se tr : Nat) : Prop := o < n ∧ L o = sd_O 8 [some (some 1), some (some se), some (some tr)] ∧ isC n L dA ∧ isS n L dA se ∧ isT n L tr
theorem isK.schema {n : Nat} {L : Nat → sdL} {dA : Nat → ClassId} {o se tr : Nat} (h : isK n L dA o se tr) : isC n L dA := h.2.2.1
theorem isK.settings {n : Nat} {L : Nat → sdL} {dA : Nat → ClassId} {o se tr : Nat} (h : isK n L dA o se tr) : isS n L dA se := h.2.2.2.1
theorem isK.trouble {n : Nat} {L : Nat → sdL} {dA : Nat → ClassId} {o se tr : Nat} (h : isK n L dA o se tr) : isT n L tr := h.2.2.2.2
def isE (n : Nat) (L : Nat → sdL) (dA : Nat → ClassId) (o ca ru : Nat) : Prop := o < n ∧ L o = sd_O 9 [some (some ca), some (some ru), none, none, none, none, none, none] ∧ isS n L dA ca ∧ isS n L dA ru
theorem isE.candidate {n : Nat} {L : Nat → sdL} {dA : Nat → ClassId} {o ca ru : Nat} (h : isE n L dA o ca ru) : isS n L dA ca := h.2.2.1
theorem isE.running {n : Nat} {L : Nat → sdL} {dA : Nat → ClassId} {o ca ru : Nat} (h : isE n L dA o ca ru) : isS n L dA ru := h.2.2.2
def isO (n : Nat) (L : Nat → sdL) (dA : Nat → ClassId) : Prop := 116 < n ∧ L 116 = sd_O 10 [none, none, none, some (some 117), some (some 118), some (some 119), some (some 120), some (some 121), some (some 122), some (some 123), none, some (some 124), some (some 125), some (some 126), some (some 127), some (some 128), some (some 129), some (some 130), some (some 131), some (some 132), none, none, some (some 133), none, none, none, none, none, none, none, none, none, none, none, none] ∧ isI n L (dA 0) 117 4 ∧ isI n L (dA 1) 118 16 ∧ isI n L (dA 0) 119 16 ∧ isI n L (dA 0) 120 16 ∧ isI n L (dA 0) 121 16 ∧ isI n L (dA 1) 122 16 ∧ isI n L (dA 0) 123 16 ∧ isI n L (dA 0) 124 4 ∧ isI n L (dA 0) 125 4 ∧ isI n L (dA 0) 126 4 ∧ isI n L (dA 0) 127 4 ∧ isI n L (dA 1) 128 4 ∧ isI n L (dA 0) 129 68 ∧ isI n L (dA 0) 130 816 ∧ isI n L (dA 0) 131 816 ∧ isI n L (dA 0) 132 3264 ∧ isI n L (dA 1) 133 3
theorem isO.leaves {n : Nat} {L : Nat → sdL} {dA : Nat → ClassId} (h : isO n L dA) : isI n L (dA 0) 117 4 := h.2.2.1
theorem isO.refers {n : Nat} {L : Nat → sdL} {dA : Nat → ClassId} (h : isO n L dA) : isI n L (dA 1) 118 16 := h.2.2.2.1
theorem isO.lows {n : Nat} {L : Nat → sdL} {dA : Nat → ClassId} (h : isO n L dA) : isI n L (dA 0) 119 16 := h.2.2.2.2.1
theorem isO.highs {n : Nat} {L : Nat → sdL} {dA : Nat → ClassId} (h : isO n L dA) : isI n L (dA 0) 120 16 := h.2.2.2.2.2.1
theorem isO.flags {n : Nat} {L : Nat → sdL} {dA : Nat → ClassId} (h : isO n L dA) : isI n L (dA 0) 121 16 := h.2.2.2.2.2.2.1
theorem isO.hasStandard {n : Nat} {L : Nat → sdL} {dA : Nat → ClassId} (h : isO n L dA) : isI n L (dA 1) 122 16 := h.2.2.2.2.2.2.2.1
theorem isO.standards {n : Nat} {L : Nat → sdL} {dA : Nat → ClassId} (h : isO n L dA) : isI n L (dA 0) 123 16 := h.2.2.2.2.2.2.2.2.1
theorem isO.ruleList {n : Nat} {L : Nat → sdL} {dA : Nat → ClassId} (h : isO n L dA) : isI n L (dA 0) 124 4 := h.2.2.2.2.2.2.2.2.2.1
theorem isO.ruleA {n : Nat} {L : Nat → sdL} {dA : Nat → ClassId} (h : isO n L dA) : isI n L (dA 0) 125 4 := h.2.2.2.2.2.2.2.2.2.2.1
theorem isO.ruleValue {n : Nat} {L : Nat → sdL} {dA : Nat → ClassId} (h : isO n L dA) : isI n L (dA 0) 126 4 := h.2.2.2.2.2.2.2.2.2.2.2.1
theorem isO.ruleB {n : Nat} {L : Nat → sdL} {dA : Nat → ClassId} (h : isO n L dA) : isI n L (dA 0) 127 4 := h.2.2.2.2.2.2.2.2.2.2.2.2.1
theorem isO.ruleThere {n : Nat} {L : Nat → sdL} {dA : Nat → ClassId} (h : isO n L dA) : isI n L (dA 1) 128 4 := h.2.2.2.2.2.2.2.2.2.2.2.2.2.1
theorem isO.sizes {n : Nat} {L : Nat → sdL} {dA : Nat → ClassId} (h : isO n L dA) : isI n L (dA 0) 129 68 := h.2.2.2.2.2.2.2.2.2.2.2.2.2.2.1
theorem isO.keys {n : Nat} {L : Nat → sdL} {dA : Nat → ClassId} (h : isO n L dA) : isI n L (dA 0) 130 816 := h.2.2.2.2.2.2.2.2.2.2.2.2.2.2.2.1
theorem isO.bits {n : Nat} {L : Nat → sdL} {dA : Nat → ClassId} (h : isO n L dA) : isI n L (dA 0) 131 816 := h.2.2.2.2.2.2.2.2.2.2.2.2.2.2.2.2.1
theorem isO.values {n : Nat} {L : Nat → sdL} {dA : Nat → ClassId} (h : isO n L dA) : isI n L (dA 0) 132 3264 := h.2.2.2.2.2.2.2.2.2.2.2.2.2.2.2.2.2.1
theorem isO.begun {n : Nat} {L : Nat → sdL} {dA : Nat → ClassId} (h : isO n L dA) : isI n L (dA 1) 133 3 := h.2.2.2.2.2.2.2.2.2.2.2.2.2.2.2.2.2.2
end
section
/-! exceptions: 'throw new E("text")' out of a method -/
/-- the frame of a method, seen from here: as if it had been entered in this heap -/
theorem sd_anew {p : Program} {l : Launch} {e : Env} {R : Room} {s : State} {m : MethodId} {args : Array Value} {below : List Frame} {meth : Method} {c : Code} {T : State} {locs : List Loc} {cells slots kc ks : Nat}
    (X : Stand p l e R s m args below meth c T locs cells slots) (h1 : cells + kc ≤ R.cells) (h2 : slots + ks ≤ R.slots) :
    Stand p l e { frames := R.frames, locals := R.locals, cells := kc, slots := ks } ((T.setVm s.vm).setFrames (.invoking m args :: below)) m args below meth c T [] 0 0 := by
  have hcur : (T.setVm s.vm).cur < (T.setVm s.vm).threads.size := State.cur_lt_of_top (show (T.setVm s.vm).topJava?.isSome from X.here.top)
  have hF : ((T.setVm s.vm).setFrames (.invoking m args :: below)).frames = .invoking m args :: below := State.frames_setFrames _ hcur
  have hlim : e.platform.stackLimits (T.setVm s.vm).me = e.platform.stackLimits s.me := X.limits
  have hbyt : (T.setVm s.vm).me.stackBytes = s.me.stackBytes := X.bytes
  have hnil : ∀ a : Array Cell, a.toList.drop a.size = [] := fun a => List.drop_eq_nil_of_le (Nat.le_of_eq Array.length_toList)
  refine { admits := X.admits, cas := X.cas, clock := X.clock, frames := hF, room := ?_, hears := X.hears, method := X.method, code := X.code, here := X.here, tail := X.tail, warmed := X.warmed, limits := ?_, bytes := ?_, same := ?_ }
  · have h := X.room
    have e1 := State.localsInUse_invoking hF X.method X.code
    have e2 := State.localsInUse_invoking X.frames X.method X.code
    have q1 := X.heapSize
    have q2 := X.used
    simp only [State.hasRoom, Bool.and_eq_true, decide_eq_true_eq, e1, e2, hF, X.frames, List.length_cons, State.stackLimits_setFrames, State.stackBytes_setFrames, hlim, hbyt] at h ⊢
    obtain ⟨⟨⟨⟨a1, a2, a3, a4, a5, a6⟩, a7⟩, a8⟩, a9⟩ := h
    refine ⟨⟨⟨⟨by omega, by omega, by omega, by omega, by omega, a6⟩, ?_⟩, ?_⟩, X.book⟩
    · show T.heap.size + kc ≤ e.platform.maxCells
      omega
    · show T.slotsUsed + ks ≤ e.platform.maxSlots
      omega
  · rw [State.stackLimits_setFrames]; rfl
  · rw [State.stackBytes_setFrames]; rfl
  · obtain ⟨g0, hg0⟩ := X.frames_eq
    obtain ⟨th, hth, -⟩ := State.frames_cons (show (T.setVm s.vm).frames = .java g0 :: below from hg0)
    refine ⟨?_, Nat.le_refl _, Nat.le_refl _, ?_, ?_, fun a c9 h9 => ⟨c9, h9, rfl, rfl, fun _ _ => rfl⟩⟩
    · show T.setVm s.vm = { ((T.setVm s.vm).setFrames (.invoking m args :: below)).setFrames (T.setVm s.vm).frames with heap := T.heap, slotsUsed := T.slotsUsed }
      rw [State.setFrames_setFrames, State.setFrames_self hth]
      rfl
    · show T.slotsUsed = T.slotsUsed + ((T.heap.toList.drop T.heap.size).map (·.slots.size)).sum
      rw [hnil]; rfl
    · show ((T.heap.toList.drop T.heap.size).map (·.slots.size)).sum ≤ 0
      rw [hnil]; exact Nat.le_refl _
/-- nothing old was written: every old cell is as it was -/
theorem sd_same0 {s U : State} {k n : Nat} (h : s.sameButNew U [] k n) : s.heap.size ≤ U.heap.size ∧ ∀ q : Nat, q < s.heap.size → U.heap[q]? = s.heap[q]? := by
  obtain ⟨-, h2, -, -, -, h6⟩ := h
  refine ⟨h2, fun q hq => ?_⟩
  obtain ⟨c9, e1, e2, e3, e4⟩ := h6 q _ (Array.getElem?_eq_getElem hq)
  have hs : c9.slots = (s.heap[q]).slots := Array.ext_getElem? fun i => e4 i (fun hm => nomatch hm)
  rw [hs] at e2
  rw [e1, e2, Array.getElem?_eq_getElem hq]
/-- a word of the tables, one that stays, or one of the four on Throwable's statics -/
def sd_ok (ws nw : List Cond) (w : Cond) : Prop := w ∈ ws ∨ w ∈ nw ∨ w = .isRef (.static Bundle.tN "UNASSIGNED_STACK" Bundle.steD) ∨ w = .isRef (.static Bundle.tN "SUPPRESSED_SENTINEL" Bundle.listD) ∨ w = .laysStatic Bundle.tN "UNASSIGNED_STACK" Bundle.steD ∨ w = .laysStatic Bundle.tN "SUPPRESSED_SENTINEL" Bundle.listD
section
variable {l : Launch} {E : sdE} {Y : sdY} {D : va_G} {tys : List (ClassId × FieldType)} {b n : Nat} {ad : Nat → Nat} {L : Nat → sdL} {aF : Nat → Nat} {F : sdM → Heap → Prop} {Q : Option Value → sdM → Prop} {X : String → sdM → Prop}
variable {pc : Nat} {loc : List (Nat × Value)} {st : List Value} {M : sdM} {rc rs : Nat}
set_option maxHeartbeats 1000000 in
theorem x_throwS {cls text : String} {names : List String} {ik is ic wd : Nat} (hT : l.stackTraces = false) (hcls : Bundle.fit cls = true) (hnames : ∀ n ∈ names, Bundle.fit n = true) (hgw : GoodIn Y.2.2.2.2.1 Y.2.2.2.2.1) (hk : Cond.classLink Y.1 ik cls ∈ Y.2.2.2.2.1) (hini : Cond.initialized cls ∈ Y.2.2.2.2.1) (hins : Cond.instantiable cls 6 ∈ Y.2.2.2.2.1) (hss : (Y.1, is, text) ∈ E.2.2.1)
    (hat : ∀ w ∈ Bundle.ownAtoms Y.1 ic cls names, sd_ok Y.2.2.2.2.1 E.2.1 w)
    (d0 : decode Y.2.1 pc = .ok (.new ik, 3)) (d3 : decode Y.2.1 (pc + 3) = .ok (.dup, 1)) (d4 : (decode Y.2.1 (pc + 4) = .ok (.ldc is, 2) ∧ wd = 2) ∨ (decode Y.2.1 (pc + 4) = .ok (.ldc_w is, 3) ∧ wd = 3)) (d6 : decode Y.2.1 (pc + 4 + wd) = .ok (.invokespecial ic, 3)) (d9 : decode Y.2.1 (pc + 4 + wd + 3) = .ok (.athrow, 1))
    (hR1 : names.length + 3 < Y.2.2.2.2.2.1.frames) (hR2 : (st.map fun v => v.category).sum + (13 * (names.length + 1) + 43) ≤ Y.2.2.2.2.2.1.locals) (hR3 : Y.2.2.2.2.2.1.cells = Y.2.2.2.2.2.2.1) (hR4 : Y.2.2.2.2.2.1.slots = Y.2.2.2.2.2.2.2)
    (hF : ∀ (M : sdM) (H : Heap), sd_H D E.1 n ad L M H → F M H) (k : X cls M) : sdW l E Y D tys b n ad L aF F Q X pc loc st M (rc + 1) (rs + 6) := by
  intro p e s m args below meth c H locs ls cells slots hC hK hH hS hl hc hs T hT0 X0
  subst hT0
  have htr : e.platform.stackTraces = false := (show e.platform.stackTraces = l.stackTraces by rw [X0.admits.platform]).trans hT
  have Z := sd_anew X0 (kc := 1) (ks := 6) (by rw [hR3]; omega) (by rw [hR4]; omega)
  obtain ⟨s', hs'⟩ : ∃ z, z = (T.setVm s.vm).setFrames (.invoking m args :: below) := ⟨_, rfl⟩
  rw [← hs'] at Z
  have hvm : s'.vm = s.vm := by rw [hs']; rfl
  have hhp : s'.heap = T.heap := by rw [hs']; rfl
  have hW0 : s.WarmedH s'.vm := by rw [hvm]; exact State.WarmedH.refl s
  have hK' := hK.move hW0 hhp hS
  have hws : ∀ w ∈ Y.2.2.2.2.1, w.before args s' = true := fun w hw => word_at hW0 (hgw w hw).2 (hC.1.2.2.2.2 w hw)
  have h : ∀ w ∈ Bundle.ownAtoms Y.1 ic cls names, w.before args s' = true := by
    intro w hw
    rcases hat w hw with h | h | h | h | h | h
    · exact hws w h
    · exact va_Nw.use (hK'.2.1 w h).2.1 (hK'.2.1 w h).1
    · rw [h]; exact hK'.2.2.2.1.1.ref
    · rw [h]; exact hK'.2.2.2.1.2.ref
    · rw [h]; exact hK'.2.2.2.1.1.lays
    · rw [h]; exact hK'.2.2.2.1.2.lays
  have hown' : s'.vm.findClass Y.1 = some m.cls := by rw [hvm]; exact hC.1.2.2.2.1
  obtain ⟨sa, hsa⟩ := hK'.2.2.1 _ hss
  have hres : W p l e { frames := Y.2.2.2.2.2.1.frames, locals := Y.2.2.2.2.2.1.locals, cells := 1, slots := 6 } s' m args below meth c T.heap [] 0 0 (sd_Z b aF F Q X Y.2.2.2.2.2.2.1 Y.2.2.2.2.2.2.2 below args s) (F0 m pc ls (st.map (sd_v ad))) := by
    refine W.newc hC.1.1 hC.1.2.1 hown' (hws _ hk) (hws _ hins) (hws _ hini) rfl d0 (Nat.le_refl _) (Nat.le_refl _) fun cX kX g1 g2 g3 g4 => ?_
    refine W.eq (g2 := F0 m (pc + 3) ls (.ref T.heap.size :: st.map (sd_v ad))) rfl ?_
    refine lv_dup hC.1.1 hC.1.2.1 d3 rfl ?_
    have fin : W p l e { frames := Y.2.2.2.2.2.1.frames, locals := Y.2.2.2.2.2.1.locals, cells := 1, slots := 6 } s' m args below meth c (T.heap.push { cls := cX, slots := kX.instanceTypes.map defaultValue, vm := .none }) [] (0 + 1) (0 + 6) (sd_Z b aF F Q X Y.2.2.2.2.2.2.1 Y.2.2.2.2.2.2.2 below args s) (F0 m (pc + 4 + wd) ls (.ref sa :: .ref T.heap.size :: .ref T.heap.size :: st.map (sd_v ad))) := by
      intro T2 hT2 X2
      obtain ⟨U, hsteps, hrun, hend, hWm, hsame, ce, hce, hO⟩ := X2.ctorThrowS hC.1.1 htr (own := Y.1) (cls := cls) (names := names) (ic := ic) hown' hcls hnames h (fun x hx => nomatch hx) g1 g2 (a := T.heap.size) (by rw [hT2]; simp) (by rw [hhp]; exact Nat.le_refl _) (msg := .ref sa) rfl
        (g := F0 m (pc + 4 + wd) ls (.ref sa :: .ref T.heap.size :: .ref T.heap.size :: st.map (sd_v ad))) rfl (hl.1.trans hC.1.2.2.1.symm) rfl rfl (rest := st.map (sd_v ad)) rfl (by rw [hC.1.2.1]; exact d6) (by rw [hC.1.2.1]; exact d9) (fun x hx => (hC.2.2.2.1 x hx).elim) hR1
        (by
          have hcat := sd_cats ad st
          have h1 : (Value.ref T.heap.size).category = 1 := rfl
          show 2 * 0 + ((Value.ref T.heap.size :: st.map (sd_v ad)).map fun v => v.category).sum + (13 * (names.length + 1) + 42) ≤ Y.2.2.2.2.2.1.locals
          simp only [List.map_cons, List.sum_cons, h1, hcat]
          omega) hC.2.1
      obtain ⟨f1, f2⟩ := sd_same0 hsame
      rw [hhp] at f1 f2
      have hcl : s.vm.findClass cls = some ce.cls := by
        have h9 := hO.cls
        rw [hvm] at h9
        exact h9
      have hall : s.sameButNew ({ U with vm := s.vm } : State) locs Y.2.2.2.2.2.2.1 Y.2.2.2.2.2.2.2 := by
        subst hs'
        obtain ⟨e1, e2⟩ := hsame
        rw [State.setFrames_setFrames] at e1
        have h2 : (T.setVm s.vm).sameButNew ({ U with vm := s.vm } : State) [] (0 + 1) (0 + 6) := ⟨e1, e2⟩
        have h3 := X0.same.trans h2
        rw [List.append_nil] at h3
        exact h3.mono (by omega) (by omega)
      refine ⟨U, hsteps, .threw T.heap.size, hrun, hend, Or.inr ⟨T.heap.size, rfl, cls, M, ce, locs, k, hF _ _ (fun j hj => (hH j hj).kept (f2 _ (hH j hj).lt)), hce, hO.vm, hcl, ⟨Nat.le_trans hS.1 f1, fun q h1 h2 => ?_⟩, State.WarmedH.trans hW0 hWm, hall, hS.2.2⟩⟩
      rw [show U.heap[q]? = T.heap[q]? from f2 q (Nat.lt_of_lt_of_le h1 hS.1)]
      exact hS.2.1 q h1 h2
    rcases d4 with ⟨d4, rfl⟩ | ⟨d4, rfl⟩
    · exact va_ldcS hC.1.1 hC.1.2.1 hown' hsa d4 fin
    · intro T2 hT2 X2
      obtain ⟨t, a1, b1⟩ := fin T2 hT2 X2
      exact ⟨t, X2.ldcStringW hC.1.1 hown' (text := text) (a := sa) hsa.1 hsa.2 (g := F0 m (pc + 4) ls (.ref T.heap.size :: .ref T.heap.size :: st.map (sd_v ad))) rfl (by rw [hC.1.2.1]; exact d4) t a1, b1⟩
  exact hres T rfl Z
end
end
section
/-! cells that are made: worlds that grow -/
def sd_loc (n : Nat) (L : Nat → sdL) : Prop := ∀ k, k < n → ∀ (a a' : Nat → Nat) (f : Nat → Int32), (∀ t, t < n → a t = a' t) → L k a f = L k a' f
def sd_up (n : Nat) (L : Nat → sdL) (n2 : Nat) (L2 : Nat → sdL) : Prop := n ≤ n2 ∧ ∀ k, k < n → L2 k = L k
theorem sd_up.trans {n n2 n3 : Nat} {L L2 L3 : Nat → sdL} (h : sd_up n L n2 L2) (h2 : sd_up n2 L2 n3 L3) : sd_up n L n3 L3 := ⟨Nat.le_trans h.1 h2.1, fun k hk => (h2.2 k (Nat.lt_of_lt_of_le hk h.1)).trans (h.2 k hk)⟩
def sd_bel (n : Nat) (v : Value) : Prop := ∀ k, v = .ref k → k < n
theorem sd_bel_i {n : Nat} {x : Int32} : sd_bel n (.int x) := fun _ h => nomatch h
theorem sd_bel_r {n k : Nat} (h : k < n) : sd_bel n (.ref k) := fun _ e => by cases e; exact h
theorem sd_v_ext {n : Nat} {ad ad2 : Nat → Nat} (h : ∀ k, k < n → ad2 k = ad k) {v : Value} (hv : sd_bel n v) : sd_v ad2 v = sd_v ad v := by
  cases v with
  | ref k => show Value.ref (ad2 k) = Value.ref (ad k); rw [h k (hv k rfl)]
  | _ => rfl
theorem sd_map_ext {n : Nat} {ad ad2 : Nat → Nat} (h : ∀ k, k < n → ad2 k = ad k) {l : List Value} (hl : ∀ v ∈ l, sd_bel n v) : l.map (sd_v ad2) = l.map (sd_v ad) := List.map_congr_left (fun v hv => sd_v_ext h (hl v hv))
theorem sd_l_ext {n : Nat} {ad ad2 : Nat → Nat} (h : ∀ k, k < n → ad2 k = ad k) {l : List (Nat × Value)} (hl : ∀ q ∈ l, sd_bel n q.2) : sd_l ad2 l = sd_l ad l := List.map_congr_left (fun q hq => by rw [sd_v_ext h (hl q hq)])
theorem sd_H.down {D : va_G} {cl : List vw_C} {n n2 : Nat} {ad ad2 : Nat → Nat} {L L2 : Nat → sdL} {M : sdM} {H : Heap} (hloc : sd_loc n L) (hu : sd_up n L n2 L2) (ha : ∀ k, k < n → ad2 k = ad k) (h : sd_H D cl n2 ad2 L2 M H) : sd_H D cl n ad L M H := fun k hk => by
  have h1 := h k (Nat.lt_of_lt_of_le hk hu.1)
  rw [ha k hk, hu.2 k hk, hloc k hk ad2 ad (M k) (fun t ht => ha t ht)] at h1
  exact h1
/-- a new cell behind the others -/
theorem sd_grow {D : va_G} {cl : List vw_C} {b n q : Nat} {ad : Nat → Nat} {L : Nat → sdL} {M : sdM} {H1 : Heap} {ly : sdL} {f : Nat → Int32} {e : va_E} (hloc : sd_loc n L) (hly : ∀ a f, ly a f = ly ad f) (he : e = ly ad f) (hP : va_P D cl (sd_G n ad L M ++ [(q, e)]) H1) (hD : va_D (sd_A b) (sd_G n ad L M ++ [(q, e)])) :
    sd_H D cl (n + 1) (va_up ad n q) (va_up L n ly) (va_up M n f) H1 ∧ sd_ad b (n + 1) (va_up ad n q) ∧ sd_loc (n + 1) (va_up L n ly) ∧ sd_up n L (n + 1) (va_up L n ly) ∧ ∀ k, k < n → va_up ad n q k = ad k := by
  have hne : ∀ k, k < n → k ≠ n := fun k hk => Nat.ne_of_lt hk
  have had : ∀ k, k < n → va_up ad n q k = ad k := fun k hk => va_up_ne ad q (hne k hk)
  have old : ∀ k, k < n → (sd_G n ad L M ++ [(q, e)])[k]? = some (ad k, L k ad (M k)) := fun k hk => by rw [List.getElem?_append_left (by rw [sd_G_len]; exact hk), sd_G_get hk]
  have new : (sd_G n ad L M ++ [(q, e)])[n]? = some (q, e) := by rw [List.getElem?_append_right (by rw [sd_G_len]; exact Nat.le_refl _), sd_G_len, Nat.sub_self]; rfl
  have both : ∀ k, k < n + 1 → ∃ x : va_E, (sd_G n ad L M ++ [(q, e)])[k]? = some (va_up ad n q k, x) := fun k hk => by
    by_cases h : k = n
    · subst h; exact ⟨e, by rw [va_up_self]; exact new⟩
    · exact ⟨_, by rw [had k (by omega)]; exact old k (by omega)⟩
  refine ⟨fun k hk => ?_, ⟨fun i j hi hj hij => ?_, fun k hk => ?_⟩, fun k hk a a' f9 h => ?_, ⟨Nat.le_succ n, fun k hk => va_up_ne L ly (hne k hk)⟩, had⟩
  · by_cases h : k = n
    · subst h
      rw [va_up_self, va_up_self, va_up_self, hly, ← he]
      exact hP _ _ new
    · have hk2 : k < n := by omega
      rw [had k hk2, va_up_ne L ly h, va_up_ne M f h, hloc k hk2 (va_up ad n q) ad (M k) (fun t ht => had t ht)]
      exact hP _ _ (old k hk2)
  · obtain ⟨x, hx⟩ := both i hi
    obtain ⟨y, hy⟩ := both j hj
    exact hD.1 i j _ _ hx hy hij
  · obtain ⟨x, hx⟩ := both k hk
    exact hD.2 k _ hx
  · by_cases h9 : k = n
    · subst h9
      rw [va_up_self, hly, hly a']
    · rw [va_up_ne L ly h9]
      exact hloc k (by omega) a a' f9 (fun t ht => h t (by omega))
/-- the fields of a new object hold no reference -/
def sd_noref (fs : List (Option (Option Nat))) : Prop := ∀ q ∈ fs, ∀ t, q ≠ some (some t)
theorem sd_fv_noref {ad ad2 : Nat → Nat} {f : Nat → Int32} : ∀ (fs : List (Option (Option Nat))) (i : Nat), sd_noref fs → sd_fv ad f i fs = sd_fv ad2 f i fs
  | [], i, h => rfl
  | q :: r, i, h => by
    simp only [sd_fv]
    rw [sd_fv_noref (ad := ad) (ad2 := ad2) r (i + 1) (fun x hx => h x (List.mem_cons_of_mem _ hx))]
    have h1 : sd_fx ad (f i) q = sd_fx ad2 (f i) q := by
      cases q with
      | none => rfl
      | some q => cases q with
        | none => rfl
        | some t => exact absurd rfl (h _ List.mem_cons_self t)
    rw [h1]
section
variable {l : Launch} {E : sdE} {Y : sdY} {D : va_G} {tys : List (ClassId × FieldType)} {b n : Nat} {ad : Nat → Nat} {L : Nat → sdL} {aF : Nat → Nat} {F : sdM → Heap → Prop} {Q : Option Value → sdM → Prop} {X : String → sdM → Prop}
variable {pc : Nat} {loc : List (Nat × Value)} {st : List Value} {M : sdM} {rc rs : Nat}
theorem x_objInit {t idx : Nat} (d : decode Y.2.1 pc = .ok (.invokespecial idx, 3)) (h1 : Cond.methodLink Y.1 idx Lib.objectInit ∈ Y.2.2.2.2.1) (h2 : Cond.instanceMethod Lib.objectInit ∈ Y.2.2.2.2.1) (h3 : Cond.code Lib.objectInit ⟨#[0xb1]⟩ 1 none ∈ Y.2.2.2.2.1) (hR1 : 1 ≤ Y.2.2.2.2.2.1.frames) (hR2 : (st.map fun v => v.category).sum + 12 ≤ Y.2.2.2.2.2.1.locals)
    (k : sdW l E Y D tys b n ad L aF F Q X (pc + 3) loc st M rc rs) : sdW l E Y D tys b n ad L aF F Q X pc loc (.ref t :: st) M rc rs := by
  intro p e s m args below meth c H locs ls cells slots hC hK hH hS hl hc hs
  refine W.objInit (a := ad t) (rest := st.map (sd_v ad)) hC.1.1 hC.1.2.1 hC.1.2.2.2.1 (hC.1.2.2.2.2 _ h1) (hC.1.2.2.2.2 _ h2) (hC.1.2.2.2.2 _ h3) rfl (hl.1.trans hC.1.2.2.1.symm) rfl d hR1 (by rw [sd_cats]; show 2 * 0 + _ + 12 ≤ _; omega) ?_
  exact k p e s m args below meth c H locs ls cells slots hC hK hH hS hl hc hs
theorem x_new {ci N idx : Nat} {C : String} {T : u_T} (fs : List (Option (Option Nat))) (hA : sd_ad b n ad) (hloc : sd_loc n L) (hb1 : ∀ q ∈ loc, sd_bel n q.2) (hb2 : ∀ v ∈ st, sd_bel n v) (d : decode Y.2.1 pc = .ok (.new idx, 3)) (hc9 : E.1[ci]? = some (C, T, N)) (ty : Nat → FieldType) (hty : ∀ k, k < N → parseFieldDescriptor (T k).2.2.1 = some (ty k)) (hin : ∀ w ∈ u_ws C T N, w ∈ Y.2.2.2.2.1)
    (h1 : Cond.classLink Y.1 idx C ∈ Y.2.2.2.2.1) (h2 : Cond.instantiable C N ∈ Y.2.2.2.2.1) (h3 : Cond.initialized C ∈ Y.2.2.2.2.1) (hnr : sd_noref fs) (hfs : ∀ j, j < N → defaultValue (ty j) = vp_V (sd_fv (fun _ => 0) (fun _ => 0) 0 fs) j) (hR3 : Y.2.2.2.2.2.1.cells = Y.2.2.2.2.2.2.1) (hR4 : Y.2.2.2.2.2.1.slots = Y.2.2.2.2.2.2.2)
    (k : ∀ (ad2 : Nat → Nat) (L2 : Nat → sdL) (M2 : sdM), sd_ad b (n + 1) ad2 → sd_loc (n + 1) L2 → sd_up n L (n + 1) L2 → L2 n = sd_O ci fs → (∀ k, k < n → ad2 k = ad k) → M2 = va_up M n (fun _ => 0) → sdW l E Y D tys b (n + 1) ad2 L2 aF F Q X (pc + 3) loc (.ref n :: st) M2 rc rs) : sdW l E Y D tys b n ad L aF F Q X pc loc st M (rc + 1) (rs + N) := by
  intro p e s m args below meth c H locs ls cells slots hC hK hH hS hl hc hs
  refine va_new (ci := ci) (fs := sd_fv ad (fun _ => 0) 0 fs) hC.1.1 hC.1.2.1 hC.1.2.2.2.2 hin ty hty hC.1.2.2.2.1 (hC.1.2.2.2.2 _ h1) (hC.1.2.2.2.2 _ h2) (hC.1.2.2.2.2 _ h3) hK.1 hH.toP hA.toD hS (fun q h => Nat.le_trans hK.2.2.2.2.1 h) hc9 (by rw [sd_fv_noref (ad2 := fun _ => 0) fs 0 hnr]; exact hfs) (by rw [hR3]; omega) (by rw [hR4]; omega) d (fun q H1 hP1 hD1 hS1 => ?_)
  obtain ⟨g1, g2, g3, g4, g5⟩ := sd_grow (ly := sd_O ci fs) (f := fun _ => 0) hloc (fun a f => by show Sum.inr (ci, sd_fv a f 0 fs) = Sum.inr (ci, sd_fv ad f 0 fs); rw [sd_fv_noref (ad := a) (ad2 := ad) fs 0 hnr]) rfl hP1 hD1
  have key := k _ _ _ g2 g3 g4 (va_up_self _ _ _) g5 rfl p e s m args below meth c H1 locs ls (cells + 1) (slots + N) hC hK g1 hS1 (by rw [sd_l_ext g5 hb1]; exact hl) (by omega) (by omega)
  have hst : List.map (sd_v (va_up ad n q)) (.ref n :: st) = .ref q :: st.map (sd_v ad) := by
    rw [List.map_cons, sd_map_ext g5 hb2]
    show Value.ref (va_up ad n q n) :: _ = _
    rw [va_up_self]
  rw [hst] at key
  exact key
/-- a final field of the object that is being made gets a reference -/
theorem x_putr (j u : Nat) {t ci N : Nat} {fs : List (Option (Option Nat))} {C ref : String} {T : u_T} {idx : Nat} {ty : FieldType} (hA : sd_ad b n ad) (hi9 : ∀ (s : State) (m : MethodId) (meth : Method) (c : Code) (args : Array Value) (p : Program), sd_C Y p s m args meth c → meth.name = "<init>") (d : decode Y.2.1 pc = .ok (.putfield idx, 3)) (hn : t < n) (hL : L t = sd_O ci fs) (hj : j < fs.length) (hc9 : E.1[ci]? = some (C, T, N)) (hN : j < N) (hin : ∀ w ∈ u_ws C T N, w ∈ Y.2.2.2.2.1) (hlk : Cond.fieldLink Y.1 idx ref (T j).2.1 (T j).2.2.1 ∈ Y.2.2.2.2.1) (href : ref = (T j).1)
    (ty0 : Nat → FieldType) (hty : ∀ k, k < N → parseFieldDescriptor (T k).2.2.1 = some (ty0 k)) (hnm : ∀ a, a < N → ∀ b, b < N → a ≠ b → (T a).2.1 ≠ (T b).2.1) (hfin : (T j).2.2.2 = true) (hdecl : (T j).1 = Y.1) (hd : parseFieldDescriptor (T j).2.2.1 = some ty) (hnr : narrow ty (.ref (ad u)) = .ref (ad u)) (hft : fits ty (.ref (ad u)) = true)
    (k : sdW l E Y D tys b n ad (va_up L t (sd_O ci (fs.set j (some (some u))))) aF F Q X (pc + 3) loc st M rc rs) : sdW l E Y D tys b n ad L aF F Q X pc loc (.ref u :: .ref t :: st) M rc rs := by
  intro p e s m args below meth c H locs ls cells slots hC hK hH hS hl hc hs
  subst href
  have hG : (sd_G n ad L M)[t]? = some (ad t, .inr (ci, sd_fv ad (M t) 0 fs)) := by rw [sd_G_get hn, hL]; rfl
  refine va_putF (v := .ref (ad u)) hC.1.1 hC.1.2.1 hC.1.2.2.2.2 hin ty0 hty hnm hC.1.2.2.2.1 hK.1 hH.toP hA.toD hS t hG hc9 j hN (hC.1.2.2.2.2 _ hlk) (fun _ h => h) hfin (hi9 s m meth c args p hC) hdecl hd hnr hft (by rw [sd_fv_len]; exact hj) d (fun H1 locs1 hP1 _ hS1 => ?_)
  have hset : (sd_G n ad L M).set t (ad t, .inr (ci, (sd_fv ad (M t) 0 fs).set j (.ref (ad u)))) = sd_G n ad (va_up L t (sd_O ci (fs.set j (some (some u))))) M := by
    apply List.ext_getElem?
    intro i
    by_cases hi : i = t
    · subst hi
      rw [List.getElem?_set_self (by rw [sd_G_len]; exact hn), sd_G_get hn, va_up_self, sd_fv_setr]
      rfl
    · rw [List.getElem?_set_ne (Ne.symm hi)]
      by_cases h : i < n
      · rw [sd_G_get h, sd_G_get h, va_up_ne L _ hi]
      · rw [List.getElem?_eq_none (by rw [sd_G_len]; omega), List.getElem?_eq_none (by rw [sd_G_len]; omega)]
  rw [hset] at hP1
  exact k p e s m args below meth c H1 locs1 ls cells slots hC hK (sd_H.ofP hP1) hS1 hl hc hs
set_option maxHeartbeats 1000000 in
/-- a call of a constructor, that may leave another world -/
theorem x_callIg {Y' : sdY} {y : MethodName} {idx na t : Nat} {host : String} {As rest st0 : List Value} {F' : sdM → Heap → Prop} {Q' : Option Value → sdM → Prop} {X' : String → sdM → Prop}
    (hCn : sd_CnF l E y Y'.2.2.2.2.1 Y'.2.2.2.2.2.1 Y'.2.2.2.2.2.2.1 Y'.2.2.2.2.2.2.2 D tys b n ad L M (.ref t :: As) F' Q' X')
    (gws : GoodIn Y.2.2.2.2.1 Y'.2.2.2.2.1) (g2 : ∃ ws', Y'.2.2.2.2.1 = Cond.code y Y'.2.1 Y'.2.2.1 none :: ws') (hin9 : Cond.initialized y.cls ∈ Y.2.2.2.2.1) (him : Cond.instanceMethod y ∈ Y.2.2.2.2.1) (hlk : Cond.methodLink Y.1 idx y ∈ Y.2.2.2.2.1 ∨ Cond.methodLinkNest Y.1 idx y host ∈ E.2.1)
    (g7 : y.name = "<init>" ∧ y.cls ≠ "java/lang/invoke/MethodHandle" ∧ y.cls ≠ "java/lang/invoke/VarHandle" ∧ (parseMethodDescriptor y.desc).map (fun d => d.parameters.length) = some na)
    (g3 : Y'.2.2.2.2.2.1.cells = Y'.2.2.2.2.2.2.1 ∧ Y'.2.2.2.2.2.1.slots = Y'.2.2.2.2.2.2.2 ∧ Y.2.2.2.2.2.1.cells = Y.2.2.2.2.2.2.1 ∧ Y.2.2.2.2.2.1.slots = Y.2.2.2.2.2.2.2) (g8 : Y'.2.2.2.2.2.1.frames + 1 ≤ Y.2.2.2.2.2.1.frames ∧ 8 + (Y'.2.2.1 + 11) + Y'.2.2.2.2.2.1.locals ≤ Y.2.2.2.2.2.1.locals)
    (d : decode Y.2.1 pc = .ok (.invokespecial idx, 3)) (hna : As.length = na) (hst : st0 = As.reverse ++ .ref t :: rest) (hcat : (rest.map fun v => v.category).sum ≤ 8) (hX : ∀ E' M', X' E' M' → False)
    (k : ∀ (v : Option Value) (M' : sdM) (H1 : Heap), Q' v M' → F' M' H1 → v = none ∧ ∃ (n2 : Nat) (ad2 : Nat → Nat) (L2 : Nat → sdL), sd_H D E.1 n2 ad2 L2 M' H1 ∧ sd_l ad2 loc = sd_l ad loc ∧ rest.map (sd_v ad2) = rest.map (sd_v ad) ∧ sdW l E Y D tys b n2 ad2 L2 aF F Q X (pc + 3) loc rest M' rc rs) : sdW l E Y D tys b n ad L aF F Q X pc loc st0 M (rc + Y'.2.2.2.2.2.2.1) (rs + Y'.2.2.2.2.2.2.2) := by
  intro p e s m args below meth c H locs ls cells slots hC hK hH hS hl hc hs
  subst hst
  obtain ⟨ws', g2⟩ := g2
  obtain ⟨g3, g4, g5, g6⟩ := g3
  intro T hT X0
  subst hT
  obtain ⟨hy1, hy2, hy3, hy4⟩ := g7
  have hini : (Cond.initialized y.cls).before args s = true := hC.1.2.2.2.2 _ hin9
  have hinst : (Cond.instanceMethod y).before args s = true := hC.1.2.2.2.2 _ him
  have hcode : (Cond.code y Y'.2.1 Y'.2.2.1 none).before args s = true := hC.1.2.2.2.2 _ (gws _ (by rw [g2]; exact List.mem_cons_self)).1
  have hpl : e.platform.magicAccessors = ({} : Platform).magicAccessors := by rw [X0.admits.platform]
  have hlen : ∀ sig, parseMethodDescriptor y.desc = some sig → (As.map (sd_v ad)).length = sig.parameters.length := fun sig h => by
    rw [h] at hy4
    rw [List.length_map, hna]
    exact (Option.some.inj hy4).symm
  have hstk : (F0 m pc ls ((As.reverse ++ .ref t :: rest).map (sd_v ad))).stack = (As.map (sd_v ad)).reverse ++ .ref (ad t) :: rest.map (sd_v ad) := by
    show List.map (sd_v ad) (As.reverse ++ .ref t :: rest) = _
    simp [List.map_append, List.map_reverse, sd_v]
  have hstep : ∃ (mk : MethodId) (vm₁ : Vm), s.methodNamed? y = some mk ∧ s.WarmedH vm₁ ∧ ∀ target, (∀ acts, Steps p.tables e below (doInvoke e ((T.setVm vm₁).setTop { F0 m pc ls ((As.reverse ++ .ref t :: rest).map (sd_v ad)) with stack := rest.map (sd_v ad) }) acts mk (Value.ref (ad t) :: As.map (sd_v ad)).toArray).1 target) → Steps p.tables e below (T.setTop (F0 m pc ls ((As.reverse ++ .ref t :: rest).map (sd_v ad)))) target := by
    rcases hlk with hlk | hlk
    · obtain ⟨mk, methM, cM, kP, vm₁, hnamed, hmethM, hcodeM, -, hlocalsM, -, hkP, -, hW₁, hstep₁⟩ := Steps.initColdArgs (e := e) (f := F0 m pc ls ((As.reverse ++ .ref t :: rest).map (sd_v ad))) X0.here hC.1.1 X0.warmed hpl hC.1.2.2.2.1 hy1 ⟨hy2, hy3⟩ (hC.1.2.2.2.2 _ hlk) hinst hcode rfl hlen hstk (by rw [hC.1.2.1]; exact d)
      exact ⟨mk, vm₁, hnamed, hW₁, hstep₁⟩
    · obtain ⟨mk, methM, cM, kP, vm₁, hnamed, hmethM, hcodeM, -, hlocalsM, -, hkP, -, hW₁, hstep₁⟩ := Steps.initColdArgsNest (e := e) (f := F0 m pc ls ((As.reverse ++ .ref t :: rest).map (sd_v ad))) X0.here hC.1.1 X0.warmed hpl hC.1.2.2.2.1 hy1 ⟨hy2, hy3⟩ (va_Nw.use (hK.2.1 _ hlk).2.1 (hK.2.1 _ hlk).1) hinst hcode rfl hlen hstk (by rw [hC.1.2.1]; exact d)
      exact ⟨mk, vm₁, hnamed, hW₁, hstep₁⟩
  obtain ⟨mk, vm₁, hnamed, hW₁, st1⟩ := hstep
  have X₁ := X0.noted hW₁
  rcases sd_pay (g := { F0 m pc ls ((As.reverse ++ .ref t :: rest).map (sd_v ad)) with stack := rest.map (sd_v ad) }) (a := (Value.ref (ad t) :: As.map (sd_v ad)).toArray) hCn X₁ rfl (hl.1.trans hC.1.2.2.1.symm) (by rw [hC.1.2.1]; exact d) (X₁.named hnamed) (fun w hw => pay_in hC.1.2.2.2.2 gws w hw _ _ X₁.warmed) (pay_in hC.1.2.2.2.2 gws _ (by rw [g2]; exact List.mem_cons_self) _ _ X₁.warmed) (word_at X₁.warmed (Or.inl rfl) hini) g3 g4 g8.1 g8.2 (lv_room (rest := rest.map (sd_v ad)) (by rw [sd_cats]; exact hcat)) (by rw [g5]; omega) (by rw [g6]; omega) ⟨rfl, (hK.move X₁.warmed rfl hS).call, hH⟩ with ⟨v, M', T', L', St', hq, hF', hfr, hL', hst'⟩ | ⟨q, E', M', ce, T', L', St', hx, hF', hce, hcv, hcl, hfr, hL', hst'⟩
  · obtain ⟨rfl, n2, ad2, L2, hH2, e1, e2, k2⟩ := k v M' T'.heap hq hF'
    obtain ⟨t2, a1, b1⟩ := k2 p e s m args below meth c T'.heap (locs ++ L') ls (cells + Y'.2.2.2.2.2.2.1) (slots + Y'.2.2.2.2.2.2.2) hC hK hH2 (sd_S_next hS hfr hL') (by rw [e1]; exact hl) (by omega) (by omega) T' rfl St'
    refine ⟨t2, st1 _ (fun acts => ?_), b1⟩
    rw [doInvoke_state]
    rw [e2] at a1
    exact hst'.trans a1
  · exact (hX _ _ hx).elim
/-- the same, where the world stays but for the memory and the layout L2 -/
theorem x_callIv {Y' : sdY} {y : MethodName} {idx na t : Nat} {host : String} {As rest st0 : List Value} {L2 : Nat → sdL} {Q0 : sdM → Prop}
    (hCn : sd_CnF l E y Y'.2.2.2.2.1 Y'.2.2.2.2.2.1 Y'.2.2.2.2.2.2.1 Y'.2.2.2.2.2.2.2 D tys b n ad L M (.ref t :: As) (sd_H D E.1 n ad L2) (sd_qv Q0) sd_xf)
    (gws : GoodIn Y.2.2.2.2.1 Y'.2.2.2.2.1) (g2 : ∃ ws', Y'.2.2.2.2.1 = Cond.code y Y'.2.1 Y'.2.2.1 none :: ws') (hin9 : Cond.initialized y.cls ∈ Y.2.2.2.2.1) (him : Cond.instanceMethod y ∈ Y.2.2.2.2.1) (hlk : Cond.methodLink Y.1 idx y ∈ Y.2.2.2.2.1 ∨ Cond.methodLinkNest Y.1 idx y host ∈ E.2.1)
    (g7 : y.name = "<init>" ∧ y.cls ≠ "java/lang/invoke/MethodHandle" ∧ y.cls ≠ "java/lang/invoke/VarHandle" ∧ (parseMethodDescriptor y.desc).map (fun d => d.parameters.length) = some na)
    (g3 : Y'.2.2.2.2.2.1.cells = Y'.2.2.2.2.2.2.1 ∧ Y'.2.2.2.2.2.1.slots = Y'.2.2.2.2.2.2.2 ∧ Y.2.2.2.2.2.1.cells = Y.2.2.2.2.2.2.1 ∧ Y.2.2.2.2.2.1.slots = Y.2.2.2.2.2.2.2) (g8 : Y'.2.2.2.2.2.1.frames + 1 ≤ Y.2.2.2.2.2.1.frames ∧ 8 + (Y'.2.2.1 + 11) + Y'.2.2.2.2.2.1.locals ≤ Y.2.2.2.2.2.1.locals)
    (d : decode Y.2.1 pc = .ok (.invokespecial idx, 3)) (hna : As.length = na) (hst : st0 = As.reverse ++ .ref t :: rest) (hcat : (rest.map fun v => v.category).sum ≤ 8)
    (k : ∀ (M' : sdM), Q0 M' → sdW l E Y D tys b n ad L2 aF F Q X (pc + 3) loc rest M' rc rs) : sdW l E Y D tys b n ad L aF F Q X pc loc st0 M (rc + Y'.2.2.2.2.2.2.1) (rs + Y'.2.2.2.2.2.2.2) :=
  x_callIg hCn gws g2 hin9 him hlk g7 g3 g8 d hna hst hcat (fun _ _ h => h) (fun v M' H1 hq hF' => ⟨hq.1, n, ad, L2, hF', rfl, rfl, k M' hq.2⟩)
end
end
section
/-! the layouts' predicates in a world that has grown -/
theorem sd_nr {fs : List (Option (Option Nat))} (h : fs.all (fun q => q == none || q == some none) = true) : sd_noref fs := by
  intro q hq t e
  have h1 := List.all_eq_true.mp h q hq
  subst e
  simp at h1
section
variable {n n2 : Nat} {L L2 : Nat → sdL} {dA : Nat → ClassId}
theorem isI.up {c : ClassId} {t len : Nat} (h : isI n L c t len) (u : sd_up n L n2 L2) : isI n2 L2 c t len := ⟨Nat.lt_of_lt_of_le h.1 u.1, (u.2 _ h.1).trans h.2⟩
theorem isQ.up {c : ClassId} {t len : Nat} {g : Nat → Nat} (h : isQ n L c t len g) (u : sd_up n L n2 L2) : isQ n2 L2 c t len g := ⟨Nat.lt_of_lt_of_le h.1 u.1, (u.2 _ h.1).trans h.2⟩
theorem isT.up {o : Nat} (h : isT n L o) (u : sd_up n L n2 L2) : isT n2 L2 o := ⟨Nat.lt_of_lt_of_le h.1 u.1, (u.2 _ h.1).trans h.2⟩
theorem isF.up {o : Nat} (h : isF n L o) (u : sd_up n L n2 L2) : isF n2 L2 o := ⟨Nat.lt_of_lt_of_le h.1 u.1, (u.2 _ h.1).trans h.2⟩
theorem isR.up {o : Nat} (h : isR n L o) (u : sd_up n L n2 L2) : isR n2 L2 o := ⟨Nat.lt_of_lt_of_le h.1 u.1, (u.2 _ h.1).trans h.2⟩
theorem isS.up {o : Nat} (h : isS n L dA o) (u : sd_up n L n2 L2) : isS n2 L2 dA o := ⟨Nat.lt_of_lt_of_le h.1 u.1, (u.2 _ h.1).trans h.2.1, h.counts.up u, h.keys.up u, h.values.up u, h.given.up u⟩
theorem isN.up {o : Nat} (h : isN n L dA o) (u : sd_up n L n2 L2) : isN n2 L2 dA o := ⟨Nat.lt_of_lt_of_le h.1 u.1, (u.2 _ h.1).trans h.2.1, h.candidate.up u, h.base.up u⟩
theorem isC.up (h : isC n L dA) (u : sd_up n L n2 L2) : isC n2 L2 dA := ⟨Nat.lt_of_lt_of_le h.1 u.1, (u.2 _ h.1).trans h.2.1, h.leaves.up u, h.leafTable.up u, h.rules.up u, fun j hj => (h.2.2.2.2.2.1 j hj).up u, fun j hj => (h.2.2.2.2.2.2 j hj).up u⟩
theorem isD.up (h : isD n L dA) (u : sd_up n L n2 L2) : isD n2 L2 dA := ⟨Nat.lt_of_lt_of_le h.1 u.1, (u.2 _ h.1).trans h.2.1, h.schema.up u, h.running.up u, h.saved.up u, h.outcome.up u, h.older.up u, h.sessions.up u, h.trouble.up u, fun j hj => (h.2.2.2.2.2.2.2.2.2.1 j hj).up u, fun j hj => (h.2.2.2.2.2.2.2.2.2.2 j hj).up u⟩
theorem isG.up {o ca ba ru ou tr : Nat} (h : isG n L dA o ca ba ru ou tr) (u : sd_up n L n2 L2) : isG n2 L2 dA o ca ba ru ou tr := ⟨Nat.lt_of_lt_of_le h.1 u.1, (u.2 _ h.1).trans h.2.1, h.candidate.up u, h.base.up u, h.running.up u, h.outcome.up u, h.trouble.up u⟩
theorem isK.up {o se tr : Nat} (h : isK n L dA o se tr) (u : sd_up n L n2 L2) : isK n2 L2 dA o se tr := ⟨Nat.lt_of_lt_of_le h.1 u.1, (u.2 _ h.1).trans h.2.1, h.schema.up u, h.settings.up u, h.trouble.up u⟩
theorem isE.up {o ca ru : Nat} (h : isE n L dA o ca ru) (u : sd_up n L n2 L2) : isE n2 L2 dA o ca ru := ⟨Nat.lt_of_lt_of_le h.1 u.1, (u.2 _ h.1).trans h.2.1, h.candidate.up u, h.running.up u⟩
/-- one cell of the world is laid out anew: what lies below it stays -/
theorem sd_up_at {o : Nat} {ly : sdL} (h : o ≤ n) : sd_up o L n (va_up L o ly) := ⟨h, fun _ hk => va_up_ne L ly (Nat.ne_of_lt hk)⟩
theorem sd_loc_at {o : Nat} {ly : sdL} (h : sd_loc n L) (hly : ∀ (a a' : Nat → Nat) (f : Nat → Int32), (∀ t, t < n → a t = a' t) → ly a f = ly a' f) : sd_loc n (va_up L o ly) := fun k hk a a' f e => by
  by_cases h9 : k = o
  · subst h9; rw [va_up_self]; exact hly a a' f e
  · rw [va_up_ne L ly h9]; exact h k hk a a' f e
end
end
section
/-! new arrays -/
section
variable {l : Launch} {E : sdE} {Y : sdY} {D : va_G} {tys : List (ClassId × FieldType)} {b n : Nat} {ad : Nat → Nat} {L : Nat → sdL} {aF : Nat → Nat} {F : sdM → Heap → Prop} {Q : Option Value → sdM → Prop} {X : String → sdM → Prop}
variable {pc : Nat} {loc : List (Nat × Value)} {st : List Value} {M : sdM} {rc rs : Nat}
/-- new int[len], new boolean[len] -/
theorem x_newI {atype : ArrayType} {ty : FieldType} {t0 len : Nat} {cA : ClassId} {x : Int32} (hA : sd_ad b n ad) (hloc : sd_loc n L) (hb1 : ∀ q ∈ loc, sd_bel n q.2) (hb2 : ∀ v ∈ st, sd_bel n v) (d : decode Y.2.1 pc = .ok (.newarray atype, 2)) (hty : newarray.typeOf atype = ty) (hz : ty = .int ∨ ty = .boolean) (harr : Cond.arrayClass (newarray.typeOf atype) ∈ Y.2.2.2.2.1) (ht : tys[t0]? = some (cA, ty)) (hx : ¬ x < 0) (hN : x.toNatClampNeg = len) (hsz : len * componentBytes ty ≤ 536870912) (hR3 : Y.2.2.2.2.2.1.cells = Y.2.2.2.2.2.2.1) (hR4 : Y.2.2.2.2.2.1.slots = Y.2.2.2.2.2.2.2)
    (k : ∀ (ad2 : Nat → Nat) (M2 : sdM), sd_ad b (n + 1) ad2 → sd_loc (n + 1) (va_up L n (sd_I cA len)) → sd_up n L (n + 1) (va_up L n (sd_I cA len)) → (∀ k, k < n → ad2 k = ad k) → M2 = va_up M n (fun _ => 0) → sdW l E Y D tys b (n + 1) ad2 (va_up L n (sd_I cA len)) aF F Q X (pc + 2) loc (.ref n :: st) M2 rc rs) : sdW l E Y D tys b n ad L aF F Q X pc loc (.int x :: st) M (rc + 1) (rs + len) := by
  intro p e s m args below meth c H locs ls cells slots hC hK hH hS hl hc hs
  refine va_newa (a0 := (len, .inl (fun _ => 0))) hC.1.1 hC.1.2.1 (hC.1.2.2.2.2 _ harr) hty hK.1 hH.toP hA.toD hS (fun q h => Nat.le_trans hK.2.2.2.2.1 h) (fun cA9 => by rcases hz with rfl | rfl <;> rfl) hx hN hsz (by rw [hR3]; omega) (by rw [hR4]; omega) d (fun q cA9 H1 hK1 hP1 hD1 hS1 => ?_)
  have he : cA9 = cA := by
    have h1 := (hK1.2 tys.length (cA9, ty) (by rw [List.getElem?_append_right (Nat.le_refl _), Nat.sub_self]; rfl)).2
    have h2 := (hK.1.2 t0 (cA, ty) ht).2
    rcases hz with rfl | rfl <;> exact Option.some.inj (h1.symm.trans h2)
  subst he
  obtain ⟨g1, g2, g3, g4, g5⟩ := sd_grow (ly := sd_I cA9 len) (f := fun _ => 0) hloc (fun a f => rfl) rfl hP1 hD1
  have key := k _ _ g2 g3 g4 g5 rfl p e s m args below meth c H1 locs ls (cells + 1) (slots + len) hC hK g1 hS1 (by rw [sd_l_ext g5 hb1]; exact hl) (by omega) (by omega)
  have hst : List.map (sd_v (va_up ad n q)) (.ref n :: st) = .ref q :: st.map (sd_v ad) := by
    rw [List.map_cons, sd_map_ext g5 hb2]
    show Value.ref (va_up ad n q n) :: _ = _
    rw [va_up_self]
  rw [hst] at key
  exact key
end
/-- an array of references that is being filled -/
def sd_P (c : ClassId) (n : Nat) (g : Nat → Option Nat) : sdL := fun ad _ => .inl (c, n, .inr (.inr (.inr (.inr (fun j => (g j).map ad)))))
section
variable {l : Launch} {E : sdE} {Y : sdY} {D : va_G} {tys : List (ClassId × FieldType)} {b n : Nat} {ad : Nat → Nat} {L : Nat → sdL} {aF : Nat → Nat} {F : sdM → Heap → Prop} {Q : Option Value → sdM → Prop} {X : String → sdM → Prop}
variable {pc : Nat} {loc : List (Nat × Value)} {st : List Value} {M : sdM} {rc rs : Nat}
/-- new C[len] -/
theorem x_newQ {C : String} {idx t0 len : Nat} {cA : ClassId} {x : Int32} (hA : sd_ad b n ad) (hloc : sd_loc n L) (hb1 : ∀ q ∈ loc, sd_bel n q.2) (hb2 : ∀ v ∈ st, sd_bel n v) (d : decode Y.2.1 pc = .ok (.anewarray idx, 3)) (h1 : Cond.classLink Y.1 idx C ∈ Y.2.2.2.2.1) (h2 : Cond.arrayOver (.object C) ∈ Y.2.2.2.2.1) (ht : tys[t0]? = some (cA, .object C)) (hx : ¬ x < 0) (hN : x.toNatClampNeg = len) (hsz : len * 4 ≤ 536870912) (hR3 : Y.2.2.2.2.2.1.cells = Y.2.2.2.2.2.2.1) (hR4 : Y.2.2.2.2.2.1.slots = Y.2.2.2.2.2.2.2)
    (k : ∀ (ad2 : Nat → Nat) (M2 : sdM), sd_ad b (n + 1) ad2 → sd_loc (n + 1) (va_up L n (sd_P cA len (fun _ => none))) → sd_up n L (n + 1) (va_up L n (sd_P cA len (fun _ => none))) → (∀ k, k < n → ad2 k = ad k) → M2 = va_up M n (fun _ => 0) → sdW l E Y D tys b (n + 1) ad2 (va_up L n (sd_P cA len (fun _ => none))) aF F Q X (pc + 3) loc (.ref n :: st) M2 rc rs) : sdW l E Y D tys b n ad L aF F Q X pc loc (.int x :: st) M (rc + 1) (rs + len) := by
  intro p e s m args below meth c H locs ls cells slots hC hK hH hS hl hc hs
  refine va_newq hC.1.1 hC.1.2.1 hC.1.2.2.2.1 (hC.1.2.2.2.2 _ h1) (va_AO.of (hC.1.2.2.2.2 _ h2)) hK.1 hH.toP hA.toD hS (fun q h => Nat.le_trans hK.2.2.2.2.1 h) hx hN hsz (by rw [hR3]; omega) (by rw [hR4]; omega) d (fun q cA9 H1 hK1 hP1 hD1 hS1 => ?_)
  have he : cA9 = cA := by
    obtain ⟨_, _, _, _, _, g4⟩ := (hK1.2 tys.length (cA9, .object C) (by rw [List.getElem?_append_right (Nat.le_refl _), Nat.sub_self]; rfl)).2
    obtain ⟨_, _, _, _, _, g5⟩ := (hK.1.2 t0 (cA, .object C) ht).2
    exact Option.some.inj (g4.symm.trans g5)
  subst he
  obtain ⟨g1, g2, g3, g4, g5⟩ := sd_grow (ly := sd_P cA9 len (fun _ => none)) (f := fun _ => 0) hloc (fun a f => rfl) rfl hP1 hD1
  have key := k _ _ g2 g3 g4 g5 rfl p e s m args below meth c H1 locs ls (cells + 1) (slots + len) hC hK g1 hS1 (by rw [sd_l_ext g5 hb1]; exact hl) (by omega) (by omega)
  have hst : List.map (sd_v (va_up ad n q)) (.ref n :: st) = .ref q :: st.map (sd_v ad) := by
    rw [List.map_cons, sd_map_ext g5 hb2]
    show Value.ref (va_up ad n q n) :: _ = _
    rw [va_up_self]
  rw [hst] at key
  exact key
/-- a reference into such an array -/
theorem x_aast {t u t0 len ci N : Nat} {cA : ClassId} {C : String} {T : u_T} {fs : List (Option (Option Nat))} {g : Nat → Option Nat} {i : Int32} (hA : sd_ad b n ad) (d : decode Y.2.1 pc = .ok (.aastore, 1)) (hn : t < n) (hL : L t = sd_P cA len g) (hn2 : u < n) (hL2 : L u = sd_O ci fs) (hc9 : E.1[ci]? = some (C, T, N)) (ht : tys[t0]? = some (cA, .object C)) (hi : vp_in i len)
    (k : sdW l E Y D tys b n ad (va_up L t (sd_P cA len (va_up g i.toNatClampNeg (some u)))) aF F Q X (pc + 1) loc st M rc rs) : sdW l E Y D tys b n ad L aF F Q X pc loc (.ref u :: .int i :: .ref t :: st) M rc rs := by
  intro p e s m args below meth c H locs ls cells slots hC hK hH hS hl hc hs
  have hG : (sd_G n ad L M)[t]? = some (ad t, .inl (cA, len, .inr (.inr (.inr (.inr (fun j => (g j).map ad)))))) := by rw [sd_G_get hn, hL]; rfl
  have hG2 : (sd_G n ad L M)[u]? = some (ad u, .inr (ci, sd_fv ad (M u) 0 fs)) := by rw [sd_G_get hn2, hL2]; rfl
  refine va_astq (r := (C, T, N)) hC.1.1 hC.1.2.1 hK.1 hH.toP hA.toD hS t t0 u ci hG ht hG2 hc9 hi d (fun H1 locs1 hP1 _ hS1 => ?_)
  have hset : (sd_G n ad L M).set t (ad t, .inl (cA, len, .inr (.inr (.inr (.inr (va_up (fun j => (g j).map ad) i.toNatClampNeg (some (ad u)))))))) = sd_G n ad (va_up L t (sd_P cA len (va_up g i.toNatClampNeg (some u)))) M := by
    apply List.ext_getElem?
    intro q
    by_cases hq : q = t
    · subst hq
      rw [List.getElem?_set_self (by rw [sd_G_len]; exact hn), sd_G_get hn, va_up_self]
      have hf : (va_up (fun j => (g j).map ad) i.toNatClampNeg (some (ad u))) = (fun j => (va_up g i.toNatClampNeg (some u) j).map ad) := by
        funext j
        by_cases hj : j = i.toNatClampNeg
        · subst hj; rw [va_up_self, va_up_self]; rfl
        · rw [va_up_ne _ _ hj, va_up_ne _ _ hj]
      rw [hf]
      rfl
    · rw [List.getElem?_set_ne (Ne.symm hq)]
      by_cases h : q < n
      · rw [sd_G_get h, sd_G_get h, va_up_ne L _ hq]
      · rw [List.getElem?_eq_none (by rw [sd_G_len]; omega), List.getElem?_eq_none (by rw [sd_G_len]; omega)]
  rw [hset] at hP1
  exact k p e s m args below meth c H1 locs1 ls cells slots hC hK (sd_H.ofP hP1) hS1 hl hc hs
end
section
variable {n n2 : Nat} {L L2 : Nat → sdL} {dA : Nat → ClassId}
theorem isI.cg {c : ClassId} {t len : Nat} (h : isI n L c t len) (hn : n ≤ n2) (he : L2 t = L t) : isI n2 L2 c t len := ⟨Nat.lt_of_lt_of_le h.1 hn, he.trans h.2⟩
theorem isS.cg {o : Nat} (h : isS n L dA o) (hn : n ≤ n2) (he : ∀ k, o ≤ k → k ≤ o + 4 → L2 k = L k) : isS n2 L2 dA o :=
  ⟨Nat.lt_of_lt_of_le h.1 hn, (he _ (by omega) (by omega)).trans h.2.1, h.counts.cg hn (he _ (by omega) (by omega)), h.keys.cg hn (he _ (by omega) (by omega)), h.values.cg hn (he _ (by omega) (by omega)), h.given.cg hn (he _ (by omega) (by omega))⟩
theorem isN.cg {o : Nat} (h : isN n L dA o) (hn : n ≤ n2) (he : ∀ k, o ≤ k → k ≤ o + 10 → L2 k = L k) : isN n2 L2 dA o :=
  ⟨Nat.lt_of_lt_of_le h.1 hn, (he _ (by omega) (by omega)).trans h.2.1, h.candidate.cg hn (fun k h1 h2 => he k (by omega) (by omega)), h.base.cg hn (fun k h1 h2 => he k (by omega) (by omega))⟩
theorem isC.cg (h : isC n L dA) (hn : n ≤ n2) (he : ∀ k, 1 ≤ k → k ≤ 24 → L2 k = L k) : isC n2 L2 dA :=
  ⟨Nat.lt_of_lt_of_le h.1 hn, (he _ (by omega) (by omega)).trans h.2.1, h.leaves.cg hn (he _ (by omega) (by omega)), ⟨Nat.lt_of_lt_of_le h.leafTable.1 hn, (he _ (by omega) (by omega)).trans h.leafTable.2⟩, ⟨Nat.lt_of_lt_of_le h.rules.1 hn, (he _ (by omega) (by omega)).trans h.rules.2⟩, fun j hj => ⟨Nat.lt_of_lt_of_le (h.2.2.2.2.2.1 j hj).1 hn, (he _ (by omega) (by omega)).trans (h.2.2.2.2.2.1 j hj).2⟩, fun j hj => ⟨Nat.lt_of_lt_of_le (h.2.2.2.2.2.2 j hj).1 hn, (he _ (by omega) (by omega)).trans (h.2.2.2.2.2.2 j hj).2⟩⟩
end
/-- one cell's content under another layout -/
theorem sd_H_at {D : va_G} {cl : List vw_C} {n t : Nat} {ad : Nat → Nat} {L : Nat → sdL} {M : sdM} {H : Heap} {ly : sdL} (h : sd_H D cl n ad L M H) (he : t < n → va_at D cl (ad t, L t ad (M t)) H → va_at D cl (ad t, ly ad (M t)) H) : sd_H D cl n ad (va_up L t ly) M H := fun k hk => by
  by_cases hkt : k = t
  · subst hkt; rw [va_up_self]; exact he hk (h k hk)
  · rw [va_up_ne L ly hkt]; exact h k hk
/-- a filled array of references -/
theorem sd_full {D : va_G} {cl : List vw_C} {a len : Nat} {ad : Nat → Nat} {f : Nat → Int32} {H : Heap} {c : ClassId} {g : Nat → Option Nat} {g2 : Nat → Nat} (hg : ∀ j, j < len → g j = some (g2 j)) (h : va_at D cl (a, sd_P c len g ad f) H) : va_at D cl (a, sd_Q c len g2 ad f) H := by
  have h1 : H[a]? = some (arrV c len (fun j => va_rf ((g j).map ad))) := h
  show H[a]? = some (arrV c len (fun j => va_rf (if j < len then some (ad (g2 j)) else none)))
  rw [h1]
  have h2 : arrV c len (fun j => va_rf ((g j).map ad)) = arrV c len (fun j => va_rf (if j < len then some (ad (g2 j)) else none)) := by
    unfold arrV
    congr 1
    apply congrArg
    funext j
    show va_rf ((g j.val).map ad) = va_rf (if j.val < len then some (ad (g2 j.val)) else none)
    rw [hg j.val j.isLt, if_pos j.isLt]
    rfl
  rw [h2]
def sd_Pl (n : Nat) (g : Nat → Option Nat) : Prop := ∀ j t, g j = some t → t < n
theorem sd_Pl_none {n : Nat} : sd_Pl n (fun _ => none) := fun _ _ h => nomatch h
theorem sd_Pl_up {n i t : Nat} {g : Nat → Option Nat} (h : sd_Pl n g) (ht : t < n) : sd_Pl n (va_up g i (some t)) := fun j u e => by
  by_cases hj : j = i
  · subst hj
    rw [va_up_self] at e
    cases e
    exact ht
  · rw [va_up_ne g _ hj] at e
    exact h j u e
theorem sd_P_loc {n len : Nat} {c : ClassId} {g : Nat → Option Nat} (h : sd_Pl n g) : ∀ (a a' : Nat → Nat) (f : Nat → Int32), (∀ t, t < n → a t = a' t) → sd_P c len g a f = sd_P c len g a' f := fun a a' f e => by
  have hf : (fun j => (g j).map a) = (fun j => (g j).map a') := by
    funext j
    cases hg : g j with
    | none => rfl
    | some t => show some (a t) = some (a' t); rw [e t (h j t hg)]
  unfold sd_P
  rw [hf]
theorem sd_Q_loc {n len : Nat} {c : ClassId} {g : Nat → Nat} (h : ∀ j, j < len → g j < n) : ∀ (a a' : Nat → Nat) (f : Nat → Int32), (∀ t, t < n → a t = a' t) → sd_Q c len g a f = sd_Q c len g a' f := fun a a' f e => by
  have hf : (fun j => if j < len then some (a (g j)) else none) = (fun j => if j < len then some (a' (g j)) else none) := by
    funext j
    by_cases hj : j < len
    · rw [if_pos hj, if_pos hj, e _ (h j hj)]
    · rw [if_neg hj, if_neg hj]
  unfold sd_Q
  rw [hf]
end
section
abbrev y_S_firstRow : MethodName := ⟨"SettingsDesk$Settings", "firstRow", "(I)I"⟩
theorem d_S_firstRow_0 : decode prog_9_method_4_code 0 = .ok (.iload_n 1, 1) := by decide +kernel
theorem d_S_firstRow_1 : decode prog_9_method_4_code 1 = .ok (.bipush (12), 2) := by decide +kernel
theorem d_S_firstRow_3 : decode prog_9_method_4_code 3 = .ok (.imul, 1) := by decide +kernel
theorem d_S_firstRow_4 : decode prog_9_method_4_code 4 = .ok (.ireturn, 1) := by decide +kernel
def Y_S_firstRow : sdY := ("SettingsDesk$Settings", prog_9_method_4_code, 2, (some .int), .code y_S_firstRow prog_9_method_4_code 2 (some .int) :: sdB0, { frames := 0, cells := 0, slots := 0, locals := 0 }, 0, 0)
section
variable {l : Launch} {D : va_G} {dA : Nat → ClassId} {b n : Nat} {ad : Nat → Nat} {L : Nat → sdL} {sc : Option (Nat × Nat × (Nat → Int32))}
def w_S_firstRow (o : Nat) (M : sdM) (a1 : Int32) (Q : Int32 → sdM → Prop) : Prop := Q (a1 * (12 : Int32)) M
set_option maxHeartbeats 1000000 in
theorem c_S_firstRow {a1 : Int32} {o : Nat} (hA : sd_ad b n ad) (hT : l.stackTraces = false) (ho : isS n L dA o) {Q : Int32 → sdM → Prop} {M : sdM} (hw : w_S_firstRow o M a1 Q) : sd_Cn l (sdE0 sc) y_S_firstRow Y_S_firstRow.2.2.2.2.1 Y_S_firstRow.2.2.2.2.2.1 0 0 D (sd_tys dA) b n ad L M [.ref o, .int a1] (sd_qi Q) sd_xf := by
  refine sd_enter (Y := Y_S_firstRow) rfl rfl rfl (Nat.le_of_ble_eq_true rfl) ?_
  show sdW l (sdE0 sc) Y_S_firstRow D (sd_tys dA) b n ad L ad (sd_H D (sdE0 sc).1 n ad L) (sd_qi Q) sd_xf 0 [(0, .ref o), (1, .int a1)] [] M 0 0
  unfold w_S_firstRow at hw
  refine x_iload_n 1 1 d_S_firstRow_0 rfl rfl ?_
  refine x_bipush (v := 12) d_S_firstRow_1 (by decide) ?_
  refine x_imul d_S_firstRow_3 ?_
  exact x_iret d_S_firstRow_4 rfl (fun _ h => h) ⟨_, rfl, hw⟩
end
theorem q0 : (.fieldLink "SettingsDesk$Settings" 9 "SettingsDesk$Settings" "counts" "[I" : Cond) ∈ sdB0 := sd_tb1 137 rfl rfl
abbrev y_S_endRow : MethodName := ⟨"SettingsDesk$Settings", "endRow", "(I)I"⟩
theorem d_S_endRow_0 : decode prog_9_method_5_code 0 = .ok (.iload_n 1, 1) := by decide +kernel
theorem d_S_endRow_1 : decode prog_9_method_5_code 1 = .ok (.bipush (12), 2) := by decide +kernel
theorem d_S_endRow_3 : decode prog_9_method_5_code 3 = .ok (.imul, 1) := by decide +kernel
theorem d_S_endRow_4 : decode prog_9_method_5_code 4 = .ok (.aload_n 0, 1) := by decide +kernel
theorem d_S_endRow_5 : decode prog_9_method_5_code 5 = .ok (.getfield 9, 3) := by decide +kernel
theorem d_S_endRow_8 : decode prog_9_method_5_code 8 = .ok (.iload_n 1, 1) := by decide +kernel
theorem d_S_endRow_9 : decode prog_9_method_5_code 9 = .ok (.iaload, 1) := by decide +kernel
theorem d_S_endRow_10 : decode prog_9_method_5_code 10 = .ok (.iadd, 1) := by decide +kernel
theorem d_S_endRow_11 : decode prog_9_method_5_code 11 = .ok (.ireturn, 1) := by decide +kernel
def Y_S_endRow : sdY := ("SettingsDesk$Settings", prog_9_method_5_code, 2, (some .int), .code y_S_endRow prog_9_method_5_code 2 (some .int) :: sdB0, { frames := 0, cells := 0, slots := 0, locals := 0 }, 0, 0)
section
variable {l : Launch} {D : va_G} {dA : Nat → ClassId} {b n : Nat} {ad : Nat → Nat} {L : Nat → sdL} {sc : Option (Nat × Nat × (Nat → Int32))}
def w_S_endRow (o : Nat) (M : sdM) (a1 : Int32) (Q : Int32 → sdM → Prop) : Prop := vp_in a1 4 ∧ Q ((a1 * (12 : Int32)) + (M (o + 1) a1.toNatClampNeg)) M
set_option maxHeartbeats 1000000 in
theorem c_S_endRow {a1 : Int32} {o : Nat} (hA : sd_ad b n ad) (hT : l.stackTraces = false) (ho : isS n L dA o) {Q : Int32 → sdM → Prop} {M : sdM} (hw : w_S_endRow o M a1 Q) : sd_Cn l (sdE0 sc) y_S_endRow Y_S_endRow.2.2.2.2.1 Y_S_endRow.2.2.2.2.2.1 0 0 D (sd_tys dA) b n ad L M [.ref o, .int a1] (sd_qi Q) sd_xf := by
  refine sd_enter (Y := Y_S_endRow) rfl rfl rfl (Nat.le_of_ble_eq_true rfl) ?_
  show sdW l (sdE0 sc) Y_S_endRow D (sd_tys dA) b n ad L ad (sd_H D (sdE0 sc).1 n ad L) (sd_qi Q) sd_xf 0 [(0, .ref o), (1, .int a1)] [] M 0 0
  unfold w_S_endRow at hw
  refine x_iload_n 1 1 d_S_endRow_0 rfl rfl ?_
  refine x_bipush (v := 12) d_S_endRow_1 (by decide) ?_
  refine x_imul d_S_endRow_3 ?_
  refine x_aload_n 0 0 d_S_endRow_4 rfl rfl ?_
  refine x_getr 0 (o + 1) d_S_endRow_5 ho.1 ho.2.1 rfl rfl (by decide) lay_S (List.mem_cons_of_mem _ q0) rfl ?_
  refine x_iload_n 1 1 d_S_endRow_8 rfl rfl ?_
  obtain ⟨hi2, hw⟩ := hw
  refine x_iald d_S_endRow_9 ho.counts.1 ho.counts.2 rfl hi2 ?_
  refine x_iadd d_S_endRow_10 ?_
  exact x_iret d_S_endRow_11 rfl (fun _ h => h) ⟨_, rfl, hw⟩
end
theorem q1 : (.fieldLink "SettingsDesk$Settings" 21 "SettingsDesk$Settings" "given" "[I" : Cond) ∈ sdB0 := sd_tb1 143 rfl rfl
abbrev y_S_isGiven : MethodName := ⟨"SettingsDesk$Settings", "isGiven", "(II)Z"⟩
theorem d_S_isGiven_0 : decode prog_9_method_16_code 0 = .ok (.iload_n 1, 1) := by decide +kernel
theorem d_S_isGiven_1 : decode prog_9_method_16_code 1 = .ok (.iconst (-1), 1) := by decide +kernel
theorem d_S_isGiven_2 : decode prog_9_method_16_code 2 = .ok (.if_icmp .eq (20), 3) := by decide +kernel
theorem d_S_isGiven_5 : decode prog_9_method_16_code 5 = .ok (.aload_n 0, 1) := by decide +kernel
theorem d_S_isGiven_6 : decode prog_9_method_16_code 6 = .ok (.getfield 21, 3) := by decide +kernel
theorem d_S_isGiven_9 : decode prog_9_method_16_code 9 = .ok (.iload_n 1, 1) := by decide +kernel
theorem d_S_isGiven_10 : decode prog_9_method_16_code 10 = .ok (.iaload, 1) := by decide +kernel
theorem d_S_isGiven_11 : decode prog_9_method_16_code 11 = .ok (.iconst 1, 1) := by decide +kernel
theorem d_S_isGiven_12 : decode prog_9_method_16_code 12 = .ok (.iload_n 2, 1) := by decide +kernel
theorem d_S_isGiven_13 : decode prog_9_method_16_code 13 = .ok (.ishl, 1) := by decide +kernel
theorem d_S_isGiven_14 : decode prog_9_method_16_code 14 = .ok (.iand, 1) := by decide +kernel
theorem d_S_isGiven_15 : decode prog_9_method_16_code 15 = .ok (.ifCond .eq (7), 3) := by decide +kernel
theorem d_S_isGiven_18 : decode prog_9_method_16_code 18 = .ok (.iconst 1, 1) := by decide +kernel
theorem d_S_isGiven_19 : decode prog_9_method_16_code 19 = .ok (.goto (4), 3) := by decide +kernel
theorem d_S_isGiven_22 : decode prog_9_method_16_code 22 = .ok (.iconst 0, 1) := by decide +kernel
theorem d_S_isGiven_23 : decode prog_9_method_16_code 23 = .ok (.ireturn, 1) := by decide +kernel
def Y_S_isGiven : sdY := ("SettingsDesk$Settings", prog_9_method_16_code, 3, (some .boolean), .code y_S_isGiven prog_9_method_16_code 3 (some .boolean) :: sdB0, { frames := 0, cells := 0, slots := 0, locals := 0 }, 0, 0)
section
variable {l : Launch} {D : va_G} {dA : Nat → ClassId} {b n : Nat} {ad : Nat → Nat} {L : Nat → sdL} {sc : Option (Nat × Nat × (Nat → Int32))}
def k_S_isGiven_23 (o : Nat) (Q : Int32 → sdM → Prop) (M : sdM) (s0 : Int32) : Prop := sdB s0 ∧ Q s0 M
set_option maxHeartbeats 1000000 in
theorem t_S_isGiven_23 {o : Nat} (hA : sd_ad b n ad) (hT : l.stackTraces = false) (ho : isS n L dA o) {Q : Int32 → sdM → Prop} (M : sdM) (s0 : Int32) (hw : k_S_isGiven_23 o Q M s0) : sdW l (sdE0 sc) Y_S_isGiven D (sd_tys dA) b n ad L ad (sd_H D (sdE0 sc).1 n ad L) (sd_qi Q) sd_xf 23 [] [.int s0] M 0 0 := by
  unfold k_S_isGiven_23 at hw
  exact x_zret d_S_isGiven_23 rfl (sdB_n hw.1) (fun _ h => h) ⟨_, rfl, hw.2⟩
def k_S_isGiven_22 (o : Nat) (Q : Int32 → sdM → Prop) (M : sdM) : Prop := k_S_isGiven_23 o Q M (0 : Int32)
set_option maxHeartbeats 1000000 in
theorem t_S_isGiven_22 {o : Nat} (hA : sd_ad b n ad) (hT : l.stackTraces = false) (ho : isS n L dA o) {Q : Int32 → sdM → Prop} (M : sdM) (hw : k_S_isGiven_22 o Q M ) : sdW l (sdE0 sc) Y_S_isGiven D (sd_tys dA) b n ad L ad (sd_H D (sdE0 sc).1 n ad L) (sd_qi Q) sd_xf 22 [] [] M 0 0 := by
  unfold k_S_isGiven_22 at hw
  refine x_iconst (v := 0) d_S_isGiven_22 (by decide) ?_
  exact t_S_isGiven_23 hA hT ho M (0 : Int32) hw
def w_S_isGiven (o : Nat) (M : sdM) (a1 : Int32) (a2 : Int32) (Q : Int32 → sdM → Prop) : Prop := (a1 = (-1 : Int32) → k_S_isGiven_22 o Q M) ∧ (¬ a1 = (-1 : Int32) → vp_in a1 48 ∧ (((M (o + 4) a1.toNatClampNeg) &&& ((1 : Int32) <<< (a2 &&& 31))) = 0 → k_S_isGiven_22 o Q M) ∧ (¬ ((M (o + 4) a1.toNatClampNeg) &&& ((1 : Int32) <<< (a2 &&& 31))) = 0 → k_S_isGiven_23 o Q M (1 : Int32)))
set_option maxHeartbeats 1000000 in
theorem c_S_isGiven {a1 : Int32} {a2 : Int32} {o : Nat} (hA : sd_ad b n ad) (hT : l.stackTraces = false) (ho : isS n L dA o) {Q : Int32 → sdM → Prop} {M : sdM} (hw : w_S_isGiven o M a1 a2 Q) : sd_Cn l (sdE0 sc) y_S_isGiven Y_S_isGiven.2.2.2.2.1 Y_S_isGiven.2.2.2.2.2.1 0 0 D (sd_tys dA) b n ad L M [.ref o, .int a1, .int a2] (sd_qi Q) sd_xf := by
  refine sd_enter (Y := Y_S_isGiven) rfl rfl rfl (Nat.le_of_ble_eq_true rfl) ?_
  show sdW l (sdE0 sc) Y_S_isGiven D (sd_tys dA) b n ad L ad (sd_H D (sdE0 sc).1 n ad L) (sd_qi Q) sd_xf 0 [(0, .ref o), (1, .int a1), (2, .int a2)] [] M 0 0
  unfold w_S_isGiven at hw
  refine x_iload_n 1 1 d_S_isGiven_0 rfl rfl ?_
  refine x_iconst (v := (-1)) d_S_isGiven_1 (by decide) ?_
  refine x_icmp_eq 22 d_S_isGiven_2 rfl (fun hc => ?_) (fun hc => ?_)
  · have hw := hw.1 hc
    refine x_sub [] [] rfl ?_
    exact t_S_isGiven_22 hA hT ho M hw
  · have hw := hw.2 hc
    refine x_aload_n 0 0 d_S_isGiven_5 rfl rfl ?_
    refine x_getr 3 (o + 4) d_S_isGiven_6 ho.1 ho.2.1 rfl rfl (by decide) lay_S (List.mem_cons_of_mem _ q1) rfl ?_
    refine x_iload_n 1 1 d_S_isGiven_9 rfl rfl ?_
    obtain ⟨hi2, hw⟩ := hw
    refine x_iald d_S_isGiven_10 ho.given.1 ho.given.2 rfl hi2 ?_
    refine x_iconst (v := 1) d_S_isGiven_11 (by decide) ?_
    refine x_iload_n 2 2 d_S_isGiven_12 rfl rfl ?_
    refine x_ishl d_S_isGiven_13 ?_
    refine x_iand d_S_isGiven_14 ?_
    refine x_if_eq 22 d_S_isGiven_15 rfl (fun hc => ?_) (fun hc => ?_)
    · have hw := hw.1 hc
      refine x_sub [] [] rfl ?_
      exact t_S_isGiven_22 hA hT ho M hw
    · have hw := hw.2 hc
      refine x_iconst (v := 1) d_S_isGiven_18 (by decide) ?_
      refine x_goto 23 d_S_isGiven_19 rfl ?_
      refine x_sub [] [] rfl ?_
      exact t_S_isGiven_23 hA hT ho M (1 : Int32) hw
end
theorem q2 : (.fieldLink "SettingsDesk$Settings" 18 "SettingsDesk$Settings" "values" "[I" : Cond) ∈ sdB0 := sd_tb1 142 rfl rfl
abbrev y_S_valueAt : MethodName := ⟨"SettingsDesk$Settings", "valueAt", "(II)I"⟩
theorem d_S_valueAt_0 : decode prog_9_method_17_code 0 = .ok (.iload_n 1, 1) := by decide +kernel
theorem d_S_valueAt_1 : decode prog_9_method_17_code 1 = .ok (.iconst (-1), 1) := by decide +kernel
theorem d_S_valueAt_2 : decode prog_9_method_17_code 2 = .ok (.if_icmp .ne (7), 3) := by decide +kernel
theorem d_S_valueAt_5 : decode prog_9_method_17_code 5 = .ok (.iconst 0, 1) := by decide +kernel
theorem d_S_valueAt_6 : decode prog_9_method_17_code 6 = .ok (.goto (13), 3) := by decide +kernel
theorem d_S_valueAt_9 : decode prog_9_method_17_code 9 = .ok (.aload_n 0, 1) := by decide +kernel
theorem d_S_valueAt_10 : decode prog_9_method_17_code 10 = .ok (.getfield 18, 3) := by decide +kernel
theorem d_S_valueAt_13 : decode prog_9_method_17_code 13 = .ok (.iload_n 1, 1) := by decide +kernel
theorem d_S_valueAt_14 : decode prog_9_method_17_code 14 = .ok (.iconst 4, 1) := by decide +kernel
theorem d_S_valueAt_15 : decode prog_9_method_17_code 15 = .ok (.imul, 1) := by decide +kernel
theorem d_S_valueAt_16 : decode prog_9_method_17_code 16 = .ok (.iload_n 2, 1) := by decide +kernel
theorem d_S_valueAt_17 : decode prog_9_method_17_code 17 = .ok (.iadd, 1) := by decide +kernel
theorem d_S_valueAt_18 : decode prog_9_method_17_code 18 = .ok (.iaload, 1) := by decide +kernel
theorem d_S_valueAt_19 : decode prog_9_method_17_code 19 = .ok (.ireturn, 1) := by decide +kernel
def Y_S_valueAt : sdY := ("SettingsDesk$Settings", prog_9_method_17_code, 3, (some .int), .code y_S_valueAt prog_9_method_17_code 3 (some .int) :: sdB0, { frames := 0, cells := 0, slots := 0, locals := 0 }, 0, 0)
section
variable {l : Launch} {D : va_G} {dA : Nat → ClassId} {b n : Nat} {ad : Nat → Nat} {L : Nat → sdL} {sc : Option (Nat × Nat × (Nat → Int32))}
def k_S_valueAt_19 (o : Nat) (Q : Int32 → sdM → Prop) (M : sdM) (s0 : Int32) : Prop := Q s0 M
set_option maxHeartbeats 1000000 in
theorem t_S_valueAt_19 {o : Nat} (hA : sd_ad b n ad) (hT : l.stackTraces = false) (ho : isS n L dA o) {Q : Int32 → sdM → Prop} (M : sdM) (s0 : Int32) (hw : k_S_valueAt_19 o Q M s0) : sdW l (sdE0 sc) Y_S_valueAt D (sd_tys dA) b n ad L ad (sd_H D (sdE0 sc).1 n ad L) (sd_qi Q) sd_xf 19 [] [.int s0] M 0 0 := by
  unfold k_S_valueAt_19 at hw
  exact x_iret d_S_valueAt_19 rfl (fun _ h => h) ⟨_, rfl, hw⟩
def w_S_valueAt (o : Nat) (M : sdM) (a1 : Int32) (a2 : Int32) (Q : Int32 → sdM → Prop) : Prop := (¬ a1 = (-1 : Int32) → vp_in ((a1 * (4 : Int32)) + a2) 192 ∧ k_S_valueAt_19 o Q M (M (o + 3) ((a1 * (4 : Int32)) + a2).toNatClampNeg)) ∧ (a1 = (-1 : Int32) → k_S_valueAt_19 o Q M (0 : Int32))
set_option maxHeartbeats 1000000 in
theorem c_S_valueAt {a1 : Int32} {a2 : Int32} {o : Nat} (hA : sd_ad b n ad) (hT : l.stackTraces = false) (ho : isS n L dA o) {Q : Int32 → sdM → Prop} {M : sdM} (hw : w_S_valueAt o M a1 a2 Q) : sd_Cn l (sdE0 sc) y_S_valueAt Y_S_valueAt.2.2.2.2.1 Y_S_valueAt.2.2.2.2.2.1 0 0 D (sd_tys dA) b n ad L M [.ref o, .int a1, .int a2] (sd_qi Q) sd_xf := by
  refine sd_enter (Y := Y_S_valueAt) rfl rfl rfl (Nat.le_of_ble_eq_true rfl) ?_
  show sdW l (sdE0 sc) Y_S_valueAt D (sd_tys dA) b n ad L ad (sd_H D (sdE0 sc).1 n ad L) (sd_qi Q) sd_xf 0 [(0, .ref o), (1, .int a1), (2, .int a2)] [] M 0 0
  unfold w_S_valueAt at hw
  refine x_iload_n 1 1 d_S_valueAt_0 rfl rfl ?_
  refine x_iconst (v := (-1)) d_S_valueAt_1 (by decide) ?_
  refine x_icmp_ne 9 d_S_valueAt_2 rfl (fun hc => ?_) (fun hc => ?_)
  · have hw := hw.1 hc
    refine x_aload_n 0 0 d_S_valueAt_9 rfl rfl ?_
    refine x_getr 2 (o + 3) d_S_valueAt_10 ho.1 ho.2.1 rfl rfl (by decide) lay_S (List.mem_cons_of_mem _ q2) rfl ?_
    refine x_iload_n 1 1 d_S_valueAt_13 rfl rfl ?_
    refine x_iconst (v := 4) d_S_valueAt_14 (by decide) ?_
    refine x_imul d_S_valueAt_15 ?_
    refine x_iload_n 2 2 d_S_valueAt_16 rfl rfl ?_
    refine x_iadd d_S_valueAt_17 ?_
    obtain ⟨hi2, hw⟩ := hw
    refine x_iald d_S_valueAt_18 ho.values.1 ho.values.2 rfl hi2 ?_
    refine x_sub [] [] rfl ?_
    exact t_S_valueAt_19 hA hT ho M (M (o + 3) ((a1 * (4 : Int32)) + a2).toNatClampNeg) hw
  · have hw := hw.2 hc
    refine x_iconst (v := 0) d_S_valueAt_5 (by decide) ?_
    refine x_goto 19 d_S_valueAt_6 rfl ?_
    refine x_sub [] [] rfl ?_
    exact t_S_valueAt_19 hA hT ho M (0 : Int32) hw
end
theorem q3 : (.methodLink "SettingsDesk$Settings" 59 ⟨"SettingsDesk$Settings", "isGiven", "(II)Z"⟩ : Cond) ∈ sdB0 := sd_tb2 29 rfl rfl
theorem q4 : (.code ⟨"SettingsDesk$Settings", "isGiven", "(II)Z"⟩ prog_9_method_16_code 3 (some .boolean) : Cond) ∈ sdB0 := sd_tb2 32 rfl rfl
theorem q5 : (.instanceMethod ⟨"SettingsDesk$Settings", "isGiven", "(II)Z"⟩ : Cond) ∈ sdB0 := sd_tb2 30 rfl rfl
theorem q6 : (.selects "SettingsDesk$Settings" ⟨"SettingsDesk$Settings", "isGiven", "(II)Z"⟩ ⟨"SettingsDesk$Settings", "isGiven", "(II)Z"⟩ : Cond) ∈ sdB0 := sd_tb2 31 rfl rfl
theorem q7 : (.initialized "SettingsDesk$Settings" : Cond) ∈ sdB0 := sd_tb1 5 rfl rfl
theorem q8 : (.methodLink "SettingsDesk$Settings" 63 ⟨"SettingsDesk$Settings", "valueAt", "(II)I"⟩ : Cond) ∈ sdB0 := sd_tb2 33 rfl rfl
theorem q9 : (.code ⟨"SettingsDesk$Settings", "valueAt", "(II)I"⟩ prog_9_method_17_code 3 (some .int) : Cond) ∈ sdB0 := sd_tb2 36 rfl rfl
theorem q10 : (.instanceMethod ⟨"SettingsDesk$Settings", "valueAt", "(II)I"⟩ : Cond) ∈ sdB0 := sd_tb2 34 rfl rfl
theorem q11 : (.selects "SettingsDesk$Settings" ⟨"SettingsDesk$Settings", "valueAt", "(II)I"⟩ ⟨"SettingsDesk$Settings", "valueAt", "(II)I"⟩ : Cond) ∈ sdB0 := sd_tb2 35 rfl rfl
abbrev y_S_sameLeaf : MethodName := ⟨"SettingsDesk$Settings", "sameLeaf", "(IILSettingsDesk$Settings;I)Z"⟩
theorem d_S_sameLeaf_0 : decode prog_9_method_20_code 0 = .ok (.aload_n 0, 1) := by decide +kernel
theorem d_S_sameLeaf_1 : decode prog_9_method_20_code 1 = .ok (.iload_n 1, 1) := by decide +kernel
theorem d_S_sameLeaf_2 : decode prog_9_method_20_code 2 = .ok (.iload_n 2, 1) := by decide +kernel
theorem d_S_sameLeaf_3 : decode prog_9_method_20_code 3 = .ok (.invokevirtual 59, 3) := by decide +kernel
theorem d_S_sameLeaf_6 : decode prog_9_method_20_code 6 = .ok (.aload_n 3, 1) := by decide +kernel
theorem d_S_sameLeaf_7 : decode prog_9_method_20_code 7 = .ok (.iload 4, 2) := by decide +kernel
theorem d_S_sameLeaf_9 : decode prog_9_method_20_code 9 = .ok (.iload_n 2, 1) := by decide +kernel
theorem d_S_sameLeaf_10 : decode prog_9_method_20_code 10 = .ok (.invokevirtual 59, 3) := by decide +kernel
theorem d_S_sameLeaf_13 : decode prog_9_method_20_code 13 = .ok (.if_icmp .ne (23), 3) := by decide +kernel
theorem d_S_sameLeaf_16 : decode prog_9_method_20_code 16 = .ok (.aload_n 0, 1) := by decide +kernel
theorem d_S_sameLeaf_17 : decode prog_9_method_20_code 17 = .ok (.iload_n 1, 1) := by decide +kernel
theorem d_S_sameLeaf_18 : decode prog_9_method_20_code 18 = .ok (.iload_n 2, 1) := by decide +kernel
theorem d_S_sameLeaf_19 : decode prog_9_method_20_code 19 = .ok (.invokevirtual 63, 3) := by decide +kernel
theorem d_S_sameLeaf_22 : decode prog_9_method_20_code 22 = .ok (.aload_n 3, 1) := by decide +kernel
theorem d_S_sameLeaf_23 : decode prog_9_method_20_code 23 = .ok (.iload 4, 2) := by decide +kernel
theorem d_S_sameLeaf_25 : decode prog_9_method_20_code 25 = .ok (.iload_n 2, 1) := by decide +kernel
theorem d_S_sameLeaf_26 : decode prog_9_method_20_code 26 = .ok (.invokevirtual 63, 3) := by decide +kernel
theorem d_S_sameLeaf_29 : decode prog_9_method_20_code 29 = .ok (.if_icmp .ne (7), 3) := by decide +kernel
theorem d_S_sameLeaf_32 : decode prog_9_method_20_code 32 = .ok (.iconst 1, 1) := by decide +kernel
theorem d_S_sameLeaf_33 : decode prog_9_method_20_code 33 = .ok (.goto (4), 3) := by decide +kernel
theorem d_S_sameLeaf_36 : decode prog_9_method_20_code 36 = .ok (.iconst 0, 1) := by decide +kernel
theorem d_S_sameLeaf_37 : decode prog_9_method_20_code 37 = .ok (.ireturn, 1) := by decide +kernel
def Y_S_sameLeaf : sdY := ("SettingsDesk$Settings", prog_9_method_20_code, 5, (some .boolean), .code y_S_sameLeaf prog_9_method_20_code 5 (some .boolean) :: sdB0, { frames := 1, cells := 0, slots := 0, locals := 22 }, 0, 0)
theorem cw_S_sameLeaf_S_isGiven_59 : sd_cwV Y_S_sameLeaf Y_S_isGiven y_S_isGiven 59 2 "SettingsDesk$Settings" := ⟨sd_goodV q3 q5 q6 q7 q4, ⟨_, rfl⟩, ⟨rfl, rfl, rfl, rfl⟩, ⟨rfl, by decide, by decide, by decide +kernel⟩, ⟨by decide, by decide⟩⟩
theorem cw_S_sameLeaf_S_valueAt_63 : sd_cwV Y_S_sameLeaf Y_S_valueAt y_S_valueAt 63 2 "SettingsDesk$Settings" := ⟨sd_goodV q8 q10 q11 q7 q9, ⟨_, rfl⟩, ⟨rfl, rfl, rfl, rfl⟩, ⟨rfl, by decide, by decide, by decide +kernel⟩, ⟨by decide, by decide⟩⟩
section
variable {l : Launch} {D : va_G} {dA : Nat → ClassId} {b n : Nat} {ad : Nat → Nat} {L : Nat → sdL} {sc : Option (Nat × Nat × (Nat → Int32))}
def k_S_sameLeaf_37 (o : Nat) (Q : Int32 → sdM → Prop) (M : sdM) (s0 : Int32) : Prop := sdB s0 ∧ Q s0 M
set_option maxHeartbeats 1000000 in
theorem t_S_sameLeaf_37 {o : Nat} (hA : sd_ad b n ad) (hT : l.stackTraces = false) (ho : isS n L dA o) {Q : Int32 → sdM → Prop} (M : sdM) (s0 : Int32) (hw : k_S_sameLeaf_37 o Q M s0) : sdW l (sdE0 sc) Y_S_sameLeaf D (sd_tys dA) b n ad L ad (sd_H D (sdE0 sc).1 n ad L) (sd_qi Q) sd_xf 37 [] [.int s0] M 0 0 := by
  unfold k_S_sameLeaf_37 at hw
  exact x_zret d_S_sameLeaf_37 rfl (sdB_n hw.1) (fun _ h => h) ⟨_, rfl, hw.2⟩
def k_S_sameLeaf_36 (o : Nat) (Q : Int32 → sdM → Prop) (M : sdM) : Prop := k_S_sameLeaf_37 o Q M (0 : Int32)
set_option maxHeartbeats 1000000 in
theorem t_S_sameLeaf_36 {o : Nat} (hA : sd_ad b n ad) (hT : l.stackTraces = false) (ho : isS n L dA o) {Q : Int32 → sdM → Prop} (M : sdM) (hw : k_S_sameLeaf_36 o Q M ) : sdW l (sdE0 sc) Y_S_sameLeaf D (sd_tys dA) b n ad L ad (sd_H D (sdE0 sc).1 n ad L) (sd_qi Q) sd_xf 36 [] [] M 0 0 := by
  unfold k_S_sameLeaf_36 at hw
  refine x_iconst (v := 0) d_S_sameLeaf_36 (by decide) ?_
  exact t_S_sameLeaf_37 hA hT ho M (0 : Int32) hw
def w_S_sameLeaf (o : Nat) (M : sdM) (a1 : Int32) (a2 : Int32) (p3 : Nat) (a4 : Int32) (Q : Int32 → sdM → Prop) : Prop := w_S_isGiven o M a1 a2 (fun r10 M9 => w_S_isGiven p3 M9 a4 a2 (fun r12 M11 => (¬ r10 = r12 → k_S_sameLeaf_36 o Q M11) ∧ (r10 = r12 → w_S_valueAt o M11 a1 a2 (fun r14 M13 => w_S_valueAt p3 M13 a4 a2 (fun r16 M15 => (¬ r14 = r16 → k_S_sameLeaf_36 o Q M15) ∧ (r14 = r16 → k_S_sameLeaf_37 o Q M15 (1 : Int32)))))))
set_option maxHeartbeats 1000000 in
theorem c_S_sameLeaf {a1 : Int32} {a2 : Int32} {p3 : Nat} {a4 : Int32} {o : Nat} (hA : sd_ad b n ad) (hT : l.stackTraces = false) (ho : isS n L dA o) (hp3 : isS n L dA p3) {Q : Int32 → sdM → Prop} {M : sdM} (hw : w_S_sameLeaf o M a1 a2 p3 a4 Q) : sd_Cn l (sdE0 sc) y_S_sameLeaf Y_S_sameLeaf.2.2.2.2.1 Y_S_sameLeaf.2.2.2.2.2.1 0 0 D (sd_tys dA) b n ad L M [.ref o, .int a1, .int a2, .ref p3, .int a4] (sd_qi Q) sd_xf := by
  refine sd_enter (Y := Y_S_sameLeaf) rfl rfl rfl (Nat.le_of_ble_eq_true rfl) ?_
  show sdW l (sdE0 sc) Y_S_sameLeaf D (sd_tys dA) b n ad L ad (sd_H D (sdE0 sc).1 n ad L) (sd_qi Q) sd_xf 0 [(0, .ref o), (1, .int a1), (2, .int a2), (3, .ref p3), (4, .int a4)] [] M 0 0
  unfold w_S_sameLeaf at hw
  refine x_aload_n 0 0 d_S_sameLeaf_0 rfl rfl ?_
  refine x_iload_n 1 1 d_S_sameLeaf_1 rfl rfl ?_
  refine x_iload_n 2 2 d_S_sameLeaf_2 rfl rfl ?_
  refine x_callVi (As := [.int a1, .int a2]) (t := o) (rest := []) (rc := 0) (rs := 0) (c_S_isGiven hA hT ho hw) cw_S_sameLeaf_S_isGiven_59 ho.1 ho.2.1 rfl d_S_sameLeaf_3 rfl rfl (Nat.le_of_ble_eq_true rfl) (fun _ _ h => h.elim) (fun _ _ h => h) (fun r10 M9 hw => ?_)
  refine x_aload_n 3 3 d_S_sameLeaf_6 rfl rfl ?_
  refine x_iload 4 4 d_S_sameLeaf_7 rfl ?_
  refine x_iload_n 2 2 d_S_sameLeaf_9 rfl rfl ?_
  refine x_callVi (As := [.int a4, .int a2]) (t := p3) (rest := [.int r10]) (rc := 0) (rs := 0) (c_S_isGiven hA hT hp3 hw) cw_S_sameLeaf_S_isGiven_59 hp3.1 hp3.2.1 rfl d_S_sameLeaf_10 rfl rfl (Nat.le_of_ble_eq_true rfl) (fun _ _ h => h.elim) (fun _ _ h => h) (fun r12 M11 hw => ?_)
  refine x_icmp_ne 36 d_S_sameLeaf_13 rfl (fun hc => ?_) (fun hc => ?_)
  · have hw := hw.1 hc
    refine x_sub [] [] rfl ?_
    exact t_S_sameLeaf_36 hA hT ho M11 hw
  · have hw := hw.2 hc
    refine x_aload_n 0 0 d_S_sameLeaf_16 rfl rfl ?_
    refine x_iload_n 1 1 d_S_sameLeaf_17 rfl rfl ?_
    refine x_iload_n 2 2 d_S_sameLeaf_18 rfl rfl ?_
    refine x_callVi (As := [.int a1, .int a2]) (t := o) (rest := []) (rc := 0) (rs := 0) (c_S_valueAt hA hT ho hw) cw_S_sameLeaf_S_valueAt_63 ho.1 ho.2.1 rfl d_S_sameLeaf_19 rfl rfl (Nat.le_of_ble_eq_true rfl) (fun _ _ h => h.elim) (fun _ _ h => h) (fun r14 M13 hw => ?_)
    refine x_aload_n 3 3 d_S_sameLeaf_22 rfl rfl ?_
    refine x_iload 4 4 d_S_sameLeaf_23 rfl ?_
    refine x_iload_n 2 2 d_S_sameLeaf_25 rfl rfl ?_
    refine x_callVi (As := [.int a4, .int a2]) (t := p3) (rest := [.int r14]) (rc := 0) (rs := 0) (c_S_valueAt hA hT hp3 hw) cw_S_sameLeaf_S_valueAt_63 hp3.1 hp3.2.1 rfl d_S_sameLeaf_26 rfl rfl (Nat.le_of_ble_eq_true rfl) (fun _ _ h => h.elim) (fun _ _ h => h) (fun r16 M15 hw => ?_)
    refine x_icmp_ne 36 d_S_sameLeaf_29 rfl (fun hc => ?_) (fun hc => ?_)
    · have hw := hw.1 hc
      refine x_sub [] [] rfl ?_
      exact t_S_sameLeaf_36 hA hT ho M15 hw
    · have hw := hw.2 hc
      refine x_iconst (v := 1) d_S_sameLeaf_32 (by decide) ?_
      refine x_goto 37 d_S_sameLeaf_33 rfl ?_
      refine x_sub [] [] rfl ?_
      exact t_S_sameLeaf_37 hA hT ho M15 (1 : Int32) hw
end
theorem q12 : (.methodLink "SettingsDesk$Settings" 80 ⟨"SettingsDesk$Settings", "sameLeaf", "(IILSettingsDesk$Settings;I)Z"⟩ : Cond) ∈ sdB0 := sd_tb2 25 rfl rfl
theorem q13 : (.code ⟨"SettingsDesk$Settings", "sameLeaf", "(IILSettingsDesk$Settings;I)Z"⟩ prog_9_method_20_code 5 (some .boolean) : Cond) ∈ sdB0 := sd_tb2 28 rfl rfl
theorem q14 : (.instanceMethod ⟨"SettingsDesk$Settings", "sameLeaf", "(IILSettingsDesk$Settings;I)Z"⟩ : Cond) ∈ sdB0 := sd_tb2 26 rfl rfl
theorem q15 : (.selects "SettingsDesk$Settings" ⟨"SettingsDesk$Settings", "sameLeaf", "(IILSettingsDesk$Settings;I)Z"⟩ ⟨"SettingsDesk$Settings", "sameLeaf", "(IILSettingsDesk$Settings;I)Z"⟩ : Cond) ∈ sdB0 := sd_tb2 27 rfl rfl
abbrev y_S_sameEntry : MethodName := ⟨"SettingsDesk$Settings", "sameEntry", "(ILSettingsDesk$Settings;I)Z"⟩
theorem d_S_sameEntry_0 : decode prog_9_method_21_code 0 = .ok (.iload_n 1, 1) := by decide +kernel
theorem d_S_sameEntry_1 : decode prog_9_method_21_code 1 = .ok (.iconst (-1), 1) := by decide +kernel
theorem d_S_sameEntry_2 : decode prog_9_method_21_code 2 = .ok (.if_icmp .eq (8), 3) := by decide +kernel
theorem d_S_sameEntry_5 : decode prog_9_method_21_code 5 = .ok (.iload_n 3, 1) := by decide +kernel
theorem d_S_sameEntry_6 : decode prog_9_method_21_code 6 = .ok (.iconst (-1), 1) := by decide +kernel
theorem d_S_sameEntry_7 : decode prog_9_method_21_code 7 = .ok (.if_icmp .ne (14), 3) := by decide +kernel
theorem d_S_sameEntry_10 : decode prog_9_method_21_code 10 = .ok (.iload_n 1, 1) := by decide +kernel
theorem d_S_sameEntry_11 : decode prog_9_method_21_code 11 = .ok (.iload_n 3, 1) := by decide +kernel
theorem d_S_sameEntry_12 : decode prog_9_method_21_code 12 = .ok (.if_icmp .ne (7), 3) := by decide +kernel
theorem d_S_sameEntry_15 : decode prog_9_method_21_code 15 = .ok (.iconst 1, 1) := by decide +kernel
theorem d_S_sameEntry_16 : decode prog_9_method_21_code 16 = .ok (.goto (4), 3) := by decide +kernel
theorem d_S_sameEntry_19 : decode prog_9_method_21_code 19 = .ok (.iconst 0, 1) := by decide +kernel
theorem d_S_sameEntry_20 : decode prog_9_method_21_code 20 = .ok (.ireturn, 1) := by decide +kernel
theorem d_S_sameEntry_21 : decode prog_9_method_21_code 21 = .ok (.iconst 0, 1) := by decide +kernel
theorem d_S_sameEntry_22 : decode prog_9_method_21_code 22 = .ok (.istore 4, 2) := by decide +kernel
theorem d_S_sameEntry_24 : decode prog_9_method_21_code 24 = .ok (.iload 4, 2) := by decide +kernel
theorem d_S_sameEntry_26 : decode prog_9_method_21_code 26 = .ok (.iconst 4, 1) := by decide +kernel
theorem d_S_sameEntry_27 : decode prog_9_method_21_code 27 = .ok (.if_icmp .ge (23), 3) := by decide +kernel
theorem d_S_sameEntry_30 : decode prog_9_method_21_code 30 = .ok (.aload_n 0, 1) := by decide +kernel
theorem d_S_sameEntry_31 : decode prog_9_method_21_code 31 = .ok (.iload_n 1, 1) := by decide +kernel
theorem d_S_sameEntry_32 : decode prog_9_method_21_code 32 = .ok (.iload 4, 2) := by decide +kernel
theorem d_S_sameEntry_34 : decode prog_9_method_21_code 34 = .ok (.aload_n 2, 1) := by decide +kernel
theorem d_S_sameEntry_35 : decode prog_9_method_21_code 35 = .ok (.iload_n 3, 1) := by decide +kernel
theorem d_S_sameEntry_36 : decode prog_9_method_21_code 36 = .ok (.invokevirtual 80, 3) := by decide +kernel
theorem d_S_sameEntry_39 : decode prog_9_method_21_code 39 = .ok (.ifCond .ne (5), 3) := by decide +kernel
theorem d_S_sameEntry_42 : decode prog_9_method_21_code 42 = .ok (.iconst 0, 1) := by decide +kernel
theorem d_S_sameEntry_43 : decode prog_9_method_21_code 43 = .ok (.ireturn, 1) := by decide +kernel
theorem d_S_sameEntry_44 : decode prog_9_method_21_code 44 = .ok (.iinc 4 (1), 3) := by decide +kernel
theorem d_S_sameEntry_47 : decode prog_9_method_21_code 47 = .ok (.goto (-23), 3) := by decide +kernel
theorem d_S_sameEntry_50 : decode prog_9_method_21_code 50 = .ok (.iconst 1, 1) := by decide +kernel
theorem d_S_sameEntry_51 : decode prog_9_method_21_code 51 = .ok (.ireturn, 1) := by decide +kernel
def Y_S_sameEntry : sdY := ("SettingsDesk$Settings", prog_9_method_21_code, 5, (some .boolean), .code y_S_sameEntry prog_9_method_21_code 5 (some .boolean) :: sdB0, { frames := 2, cells := 0, slots := 0, locals := 46 }, 0, 0)
theorem cw_S_sameEntry_S_sameLeaf_80 : sd_cwV Y_S_sameEntry Y_S_sameLeaf y_S_sameLeaf 80 4 "SettingsDesk$Settings" := ⟨sd_goodV q12 q14 q15 q7 q13, ⟨_, rfl⟩, ⟨rfl, rfl, rfl, rfl⟩, ⟨rfl, by decide, by decide, by decide +kernel⟩, ⟨by decide, by decide⟩⟩
section
variable {l : Launch} {D : va_G} {dA : Nat → ClassId} {b n : Nat} {ad : Nat → Nat} {L : Nat → sdL} {sc : Option (Nat × Nat × (Nat → Int32))}
def h_S_sameEntry_24 (o : Nat) (Q : Int32 → sdM → Prop) : Nat → sdM → Int32 → Nat → Int32 → Int32 → Prop
  | 0, _, _, _, _, _ => False
  | N + 1, M, x1, o2, x3, x4 => ((4 : Int32) ≤ x4 → sdB (1 : Int32) ∧ Q (1 : Int32) M) ∧ (¬ (4 : Int32) ≤ x4 → w_S_sameLeaf o M x1 x4 o2 x3 (fun r4 M3 => (¬ r4 = 0 → h_S_sameEntry_24 o Q N M3 x1 o2 x3 (x4 + 1)) ∧ (r4 = 0 → sdB (0 : Int32) ∧ Q (0 : Int32) M3)))
set_option maxHeartbeats 1000000 in
theorem t_S_sameEntry_24 {o : Nat} (hA : sd_ad b n ad) (hT : l.stackTraces = false) (ho : isS n L dA o) {Q : Int32 → sdM → Prop} (N : Nat) : ∀ (M : sdM) (x1 : Int32) (o2 : Nat) (x3 : Int32) (x4 : Int32) (ho2 : isS n L dA o2), h_S_sameEntry_24 o Q N M x1 o2 x3 x4 → sdW l (sdE0 sc) Y_S_sameEntry D (sd_tys dA) b n ad L ad (sd_H D (sdE0 sc).1 n ad L) (sd_qi Q) sd_xf 24 [(0, .ref o), (1, .int x1), (2, .ref o2), (3, .int x3), (4, .int x4)] [] M 0 0 := by
  induction N with
  | zero => intro M x1 o2 x3 x4 ho2 hw; exact hw.elim
  | succ N ih =>
    intro M x1 o2 x3 x4 ho2 hw
    rw [h_S_sameEntry_24] at hw
    refine x_iload 4 4 d_S_sameEntry_24 rfl ?_
    refine x_iconst (v := 4) d_S_sameEntry_26 (by decide) ?_
    refine x_icmp_ge 50 d_S_sameEntry_27 rfl (fun hc => ?_) (fun hc => ?_)
    · have hw := hw.1 hc
      refine x_iconst (v := 1) d_S_sameEntry_50 (by decide) ?_
      exact x_zret d_S_sameEntry_51 rfl (sdB_n hw.1) (fun _ h => h) ⟨_, rfl, hw.2⟩
    · have hw := hw.2 hc
      refine x_aload_n 0 0 d_S_sameEntry_30 rfl rfl ?_
      refine x_iload_n 1 1 d_S_sameEntry_31 rfl rfl ?_
      refine x_iload 4 4 d_S_sameEntry_32 rfl ?_
      refine x_aload_n 2 2 d_S_sameEntry_34 rfl rfl ?_
      refine x_iload_n 3 3 d_S_sameEntry_35 rfl rfl ?_
      refine x_callVi (As := [.int x1, .int x4, .ref o2, .int x3]) (t := o) (rest := []) (rc := 0) (rs := 0) (c_S_sameLeaf hA hT ho ho2 hw) cw_S_sameEntry_S_sameLeaf_80 ho.1 ho.2.1 rfl d_S_sameEntry_36 rfl rfl (Nat.le_of_ble_eq_true rfl) (fun _ _ h => h.elim) (fun _ _ h => h) (fun r4 M3 hw => ?_)
      refine x_if_ne 44 d_S_sameEntry_39 rfl (fun hc => ?_) (fun hc => ?_)
      · have hw := hw.1 hc
        refine x_iinc 4 4 [(4, .int (x4 + 1)), (0, .ref o), (1, .int x1), (2, .ref o2), (3, .int x3)] d_S_sameEntry_44 rfl (congrArg (HAdd.hAdd x4) (show Int32.ofInt 1 = 1 by decide)) (by decide) rfl ?_
        refine x_goto 24 d_S_sameEntry_47 rfl ?_
        refine x_sub [1, 2, 3, 4, 0] [(0, .ref o), (1, .int x1), (2, .ref o2), (3, .int x3), (4, .int (x4 + 1))] rfl ?_
        exact ih M3 x1 o2 x3 (x4 + 1) ho2 hw
      · have hw := hw.2 hc
        refine x_iconst (v := 0) d_S_sameEntry_42 (by decide) ?_
        exact x_zret d_S_sameEntry_43 rfl (sdB_n hw.1) (fun _ h => h) ⟨_, rfl, hw.2⟩
def k_S_sameEntry_20 (o : Nat) (Q : Int32 → sdM → Prop) (M : sdM) (s0 : Int32) : Prop := sdB s0 ∧ Q s0 M
set_option maxHeartbeats 1000000 in
theorem t_S_sameEntry_20 {o : Nat} (hA : sd_ad b n ad) (hT : l.stackTraces = false) (ho : isS n L dA o) {Q : Int32 → sdM → Prop} (M : sdM) (s0 : Int32) (hw : k_S_sameEntry_20 o Q M s0) : sdW l (sdE0 sc) Y_S_sameEntry D (sd_tys dA) b n ad L ad (sd_H D (sdE0 sc).1 n ad L) (sd_qi Q) sd_xf 20 [] [.int s0] M 0 0 := by
  unfold k_S_sameEntry_20 at hw
  exact x_zret d_S_sameEntry_20 rfl (sdB_n hw.1) (fun _ h => h) ⟨_, rfl, hw.2⟩
def k_S_sameEntry_10 (o : Nat) (Q : Int32 → sdM → Prop) (M : sdM) (x1 : Int32) (x3 : Int32) : Prop := (¬ x1 = x3 → k_S_sameEntry_20 o Q M (0 : Int32)) ∧ (x1 = x3 → k_S_sameEntry_20 o Q M (1 : Int32))
set_option maxHeartbeats 1000000 in
theorem t_S_sameEntry_10 {o : Nat} (hA : sd_ad b n ad) (hT : l.stackTraces = false) (ho : isS n L dA o) {Q : Int32 → sdM → Prop} (M : sdM) (x1 : Int32) (x3 : Int32) (hw : k_S_sameEntry_10 o Q M x1 x3) : sdW l (sdE0 sc) Y_S_sameEntry D (sd_tys dA) b n ad L ad (sd_H D (sdE0 sc).1 n ad L) (sd_qi Q) sd_xf 10 [(1, .int x1), (3, .int x3)] [] M 0 0 := by
  unfold k_S_sameEntry_10 at hw
  refine x_iload_n 1 0 d_S_sameEntry_10 rfl rfl ?_
  refine x_iload_n 3 1 d_S_sameEntry_11 rfl rfl ?_
  refine x_icmp_ne 19 d_S_sameEntry_12 rfl (fun hc => ?_) (fun hc => ?_)
  · have hw := hw.1 hc
    refine x_iconst (v := 0) d_S_sameEntry_19 (by decide) ?_
    refine x_sub [] [] rfl ?_
    exact t_S_sameEntry_20 hA hT ho M (0 : Int32) hw
  · have hw := hw.2 hc
    refine x_iconst (v := 1) d_S_sameEntry_15 (by decide) ?_
    refine x_goto 20 d_S_sameEntry_16 rfl ?_
    refine x_sub [] [] rfl ?_
    exact t_S_sameEntry_20 hA hT ho M (1 : Int32) hw
def w_S_sameEntry (o : Nat) (M : sdM) (a1 : Int32) (p2 : Nat) (a3 : Int32) (Q : Int32 → sdM → Prop) : Prop := (a1 = (-1 : Int32) → k_S_sameEntry_10 o Q M a1 a3) ∧ (¬ a1 = (-1 : Int32) → (¬ a3 = (-1 : Int32) → ∃ N9 : Nat, h_S_sameEntry_24 o Q N9 M a1 p2 a3 (0 : Int32)) ∧ (a3 = (-1 : Int32) → k_S_sameEntry_10 o Q M a1 a3))
set_option maxHeartbeats 1000000 in
theorem c_S_sameEntry {a1 : Int32} {p2 : Nat} {a3 : Int32} {o : Nat} (hA : sd_ad b n ad) (hT : l.stackTraces = false) (ho : isS n L dA o) (hp2 : isS n L dA p2) {Q : Int32 → sdM → Prop} {M : sdM} (hw : w_S_sameEntry o M a1 p2 a3 Q) : sd_Cn l (sdE0 sc) y_S_sameEntry Y_S_sameEntry.2.2.2.2.1 Y_S_sameEntry.2.2.2.2.2.1 0 0 D (sd_tys dA) b n ad L M [.ref o, .int a1, .ref p2, .int a3] (sd_qi Q) sd_xf := by
  refine sd_enter (Y := Y_S_sameEntry) rfl rfl rfl (Nat.le_of_ble_eq_true rfl) ?_
  show sdW l (sdE0 sc) Y_S_sameEntry D (sd_tys dA) b n ad L ad (sd_H D (sdE0 sc).1 n ad L) (sd_qi Q) sd_xf 0 [(0, .ref o), (1, .int a1), (2, .ref p2), (3, .int a3)] [] M 0 0
  unfold w_S_sameEntry at hw
  refine x_iload_n 1 1 d_S_sameEntry_0 rfl rfl ?_
  refine x_iconst (v := (-1)) d_S_sameEntry_1 (by decide) ?_
  refine x_icmp_eq 10 d_S_sameEntry_2 rfl (fun hc => ?_) (fun hc => ?_)
  · have hw := hw.1 hc
    refine x_sub [1, 3] [(1, .int a1), (3, .int a3)] rfl ?_
    exact t_S_sameEntry_10 hA hT ho M a1 a3 hw
  · have hw := hw.2 hc
    refine x_iload_n 3 3 d_S_sameEntry_5 rfl rfl ?_
    refine x_iconst (v := (-1)) d_S_sameEntry_6 (by decide) ?_
    refine x_icmp_ne 21 d_S_sameEntry_7 rfl (fun hc => ?_) (fun hc => ?_)
    · have hw := hw.1 hc
      refine x_iconst (v := 0) d_S_sameEntry_21 (by decide) ?_
      refine x_istore 4 [(4, .int (0 : Int32)), (0, .ref o), (1, .int a1), (2, .ref p2), (3, .int a3)] d_S_sameEntry_22 (by decide) rfl ?_
      refine x_sub [1, 2, 3, 4, 0] [(0, .ref o), (1, .int a1), (2, .ref p2), (3, .int a3), (4, .int (0 : Int32))] rfl ?_
      obtain ⟨N9, hw⟩ := hw
      exact t_S_sameEntry_24 hA hT ho N9 M a1 p2 a3 (0 : Int32) hp2 hw
    · have hw := hw.2 hc
      refine x_sub [1, 3] [(1, .int a1), (3, .int a3)] rfl ?_
      exact t_S_sameEntry_10 hA hT ho M a1 a3 hw
end
theorem q16 : (.fieldLink "SettingsDesk$Settings" 15 "SettingsDesk$Settings" "keys" "[I" : Cond) ∈ sdB0 := sd_tb1 140 rfl rfl
theorem q17 : (.methodLink "SettingsDesk$Settings" 36 ⟨"SettingsDesk$Settings", "firstRow", "(I)I"⟩ : Cond) ∈ sdB0 := sd_tb2 13 rfl rfl
theorem q18 : (.code ⟨"SettingsDesk$Settings", "firstRow", "(I)I"⟩ prog_9_method_4_code 2 (some .int) : Cond) ∈ sdB0 := sd_tb2 16 rfl rfl
theorem q19 : (.instanceMethod ⟨"SettingsDesk$Settings", "firstRow", "(I)I"⟩ : Cond) ∈ sdB0 := sd_tb2 14 rfl rfl
theorem q20 : (.selects "SettingsDesk$Settings" ⟨"SettingsDesk$Settings", "firstRow", "(I)I"⟩ ⟨"SettingsDesk$Settings", "firstRow", "(I)I"⟩ : Cond) ∈ sdB0 := sd_tb2 15 rfl rfl
theorem q21 : (.methodLink "SettingsDesk$Settings" 40 ⟨"SettingsDesk$Settings", "endRow", "(I)I"⟩ : Cond) ∈ sdB0 := sd_tb2 17 rfl rfl
theorem q22 : (.code ⟨"SettingsDesk$Settings", "endRow", "(I)I"⟩ prog_9_method_5_code 2 (some .int) : Cond) ∈ sdB0 := sd_tb2 20 rfl rfl
theorem q23 : (.instanceMethod ⟨"SettingsDesk$Settings", "endRow", "(I)I"⟩ : Cond) ∈ sdB0 := sd_tb2 18 rfl rfl
theorem q24 : (.selects "SettingsDesk$Settings" ⟨"SettingsDesk$Settings", "endRow", "(I)I"⟩ ⟨"SettingsDesk$Settings", "endRow", "(I)I"⟩ : Cond) ∈ sdB0 := sd_tb2 19 rfl rfl
theorem q25 : (.methodLink "SettingsDesk$Settings" 88 ⟨"SettingsDesk$Settings", "sameEntry", "(ILSettingsDesk$Settings;I)Z"⟩ : Cond) ∈ sdB0 := sd_tb2 21 rfl rfl
theorem q26 : (.code ⟨"SettingsDesk$Settings", "sameEntry", "(ILSettingsDesk$Settings;I)Z"⟩ prog_9_method_21_code 5 (some .boolean) : Cond) ∈ sdB0 := sd_tb2 24 rfl rfl
theorem q27 : (.instanceMethod ⟨"SettingsDesk$Settings", "sameEntry", "(ILSettingsDesk$Settings;I)Z"⟩ : Cond) ∈ sdB0 := sd_tb2 22 rfl rfl
theorem q28 : (.selects "SettingsDesk$Settings" ⟨"SettingsDesk$Settings", "sameEntry", "(ILSettingsDesk$Settings;I)Z"⟩ ⟨"SettingsDesk$Settings", "sameEntry", "(ILSettingsDesk$Settings;I)Z"⟩ : Cond) ∈ sdB0 := sd_tb2 23 rfl rfl
abbrev y_S_sameList : MethodName := ⟨"SettingsDesk$Settings", "sameList", "(ILSettingsDesk$Settings;)Z"⟩
theorem d_S_sameList_0 : decode prog_9_method_23_code 0 = .ok (.aload_n 0, 1) := by decide +kernel
theorem d_S_sameList_1 : decode prog_9_method_23_code 1 = .ok (.getfield 9, 3) := by decide +kernel
theorem d_S_sameList_4 : decode prog_9_method_23_code 4 = .ok (.iload_n 1, 1) := by decide +kernel
theorem d_S_sameList_5 : decode prog_9_method_23_code 5 = .ok (.iaload, 1) := by decide +kernel
theorem d_S_sameList_6 : decode prog_9_method_23_code 6 = .ok (.aload_n 2, 1) := by decide +kernel
theorem d_S_sameList_7 : decode prog_9_method_23_code 7 = .ok (.getfield 9, 3) := by decide +kernel
theorem d_S_sameList_10 : decode prog_9_method_23_code 10 = .ok (.iload_n 1, 1) := by decide +kernel
theorem d_S_sameList_11 : decode prog_9_method_23_code 11 = .ok (.iaload, 1) := by decide +kernel
theorem d_S_sameList_12 : decode prog_9_method_23_code 12 = .ok (.if_icmp .eq (5), 3) := by decide +kernel
theorem d_S_sameList_15 : decode prog_9_method_23_code 15 = .ok (.iconst 0, 1) := by decide +kernel
theorem d_S_sameList_16 : decode prog_9_method_23_code 16 = .ok (.ireturn, 1) := by decide +kernel
theorem d_S_sameList_17 : decode prog_9_method_23_code 17 = .ok (.aload_n 0, 1) := by decide +kernel
theorem d_S_sameList_18 : decode prog_9_method_23_code 18 = .ok (.iload_n 1, 1) := by decide +kernel
theorem d_S_sameList_19 : decode prog_9_method_23_code 19 = .ok (.invokevirtual 36, 3) := by decide +kernel
theorem d_S_sameList_22 : decode prog_9_method_23_code 22 = .ok (.istore_n 3, 1) := by decide +kernel
theorem d_S_sameList_23 : decode prog_9_method_23_code 23 = .ok (.iload_n 3, 1) := by decide +kernel
theorem d_S_sameList_24 : decode prog_9_method_23_code 24 = .ok (.aload_n 0, 1) := by decide +kernel
theorem d_S_sameList_25 : decode prog_9_method_23_code 25 = .ok (.iload_n 1, 1) := by decide +kernel
theorem d_S_sameList_26 : decode prog_9_method_23_code 26 = .ok (.invokevirtual 40, 3) := by decide +kernel
theorem d_S_sameList_29 : decode prog_9_method_23_code 29 = .ok (.if_icmp .ge (36), 3) := by decide +kernel
theorem d_S_sameList_32 : decode prog_9_method_23_code 32 = .ok (.aload_n 0, 1) := by decide +kernel
theorem d_S_sameList_33 : decode prog_9_method_23_code 33 = .ok (.getfield 15, 3) := by decide +kernel
theorem d_S_sameList_36 : decode prog_9_method_23_code 36 = .ok (.iload_n 3, 1) := by decide +kernel
theorem d_S_sameList_37 : decode prog_9_method_23_code 37 = .ok (.iaload, 1) := by decide +kernel
theorem d_S_sameList_38 : decode prog_9_method_23_code 38 = .ok (.aload_n 2, 1) := by decide +kernel
theorem d_S_sameList_39 : decode prog_9_method_23_code 39 = .ok (.getfield 15, 3) := by decide +kernel
theorem d_S_sameList_42 : decode prog_9_method_23_code 42 = .ok (.iload_n 3, 1) := by decide +kernel
theorem d_S_sameList_43 : decode prog_9_method_23_code 43 = .ok (.iaload, 1) := by decide +kernel
theorem d_S_sameList_44 : decode prog_9_method_23_code 44 = .ok (.if_icmp .ne (13), 3) := by decide +kernel
theorem d_S_sameList_47 : decode prog_9_method_23_code 47 = .ok (.aload_n 0, 1) := by decide +kernel
theorem d_S_sameList_48 : decode prog_9_method_23_code 48 = .ok (.iload_n 3, 1) := by decide +kernel
theorem d_S_sameList_49 : decode prog_9_method_23_code 49 = .ok (.aload_n 2, 1) := by decide +kernel
theorem d_S_sameList_50 : decode prog_9_method_23_code 50 = .ok (.iload_n 3, 1) := by decide +kernel
theorem d_S_sameList_51 : decode prog_9_method_23_code 51 = .ok (.invokevirtual 88, 3) := by decide +kernel
theorem d_S_sameList_54 : decode prog_9_method_23_code 54 = .ok (.ifCond .ne (5), 3) := by decide +kernel
theorem d_S_sameList_57 : decode prog_9_method_23_code 57 = .ok (.iconst 0, 1) := by decide +kernel
theorem d_S_sameList_58 : decode prog_9_method_23_code 58 = .ok (.ireturn, 1) := by decide +kernel
theorem d_S_sameList_59 : decode prog_9_method_23_code 59 = .ok (.iinc 3 (1), 3) := by decide +kernel
theorem d_S_sameList_62 : decode prog_9_method_23_code 62 = .ok (.goto (-39), 3) := by decide +kernel
theorem d_S_sameList_65 : decode prog_9_method_23_code 65 = .ok (.iconst 1, 1) := by decide +kernel
theorem d_S_sameList_66 : decode prog_9_method_23_code 66 = .ok (.ireturn, 1) := by decide +kernel
def Y_S_sameList : sdY := ("SettingsDesk$Settings", prog_9_method_23_code, 4, (some .boolean), .code y_S_sameList prog_9_method_23_code 4 (some .boolean) :: sdB0, { frames := 3, cells := 0, slots := 0, locals := 70 }, 0, 0)
theorem cw_S_sameList_S_firstRow_36 : sd_cwV Y_S_sameList Y_S_firstRow y_S_firstRow 36 1 "SettingsDesk$Settings" := ⟨sd_goodV q17 q19 q20 q7 q18, ⟨_, rfl⟩, ⟨rfl, rfl, rfl, rfl⟩, ⟨rfl, by decide, by decide, by decide +kernel⟩, ⟨by decide, by decide⟩⟩
theorem cw_S_sameList_S_endRow_40 : sd_cwV Y_S_sameList Y_S_endRow y_S_endRow 40 1 "SettingsDesk$Settings" := ⟨sd_goodV q21 q23 q24 q7 q22, ⟨_, rfl⟩, ⟨rfl, rfl, rfl, rfl⟩, ⟨rfl, by decide, by decide, by decide +kernel⟩, ⟨by decide, by decide⟩⟩
theorem cw_S_sameList_S_sameEntry_88 : sd_cwV Y_S_sameList Y_S_sameEntry y_S_sameEntry 88 3 "SettingsDesk$Settings" := ⟨sd_goodV q25 q27 q28 q7 q26, ⟨_, rfl⟩, ⟨rfl, rfl, rfl, rfl⟩, ⟨rfl, by decide, by decide, by decide +kernel⟩, ⟨by decide, by decide⟩⟩
section
variable {l : Launch} {D : va_G} {dA : Nat → ClassId} {b n : Nat} {ad : Nat → Nat} {L : Nat → sdL} {sc : Option (Nat × Nat × (Nat → Int32))}
def k_S_sameList_57 (o : Nat) (Q : Int32 → sdM → Prop) (M : sdM) : Prop := sdB (0 : Int32) ∧ Q (0 : Int32) M
set_option maxHeartbeats 1000000 in
theorem t_S_sameList_57 {o : Nat} (hA : sd_ad b n ad) (hT : l.stackTraces = false) (ho : isS n L dA o) {Q : Int32 → sdM → Prop} (M : sdM) (hw : k_S_sameList_57 o Q M ) : sdW l (sdE0 sc) Y_S_sameList D (sd_tys dA) b n ad L ad (sd_H D (sdE0 sc).1 n ad L) (sd_qi Q) sd_xf 57 [] [] M 0 0 := by
  unfold k_S_sameList_57 at hw
  refine x_iconst (v := 0) d_S_sameList_57 (by decide) ?_
  exact x_zret d_S_sameList_58 rfl (sdB_n hw.1) (fun _ h => h) ⟨_, rfl, hw.2⟩
def h_S_sameList_23 (o : Nat) (Q : Int32 → sdM → Prop) : Nat → sdM → Int32 → Nat → Int32 → Prop
  | 0, _, _, _, _ => False
  | N + 1, M, x1, o2, x3 => w_S_endRow o M x1 (fun r12 M11 => (r12 ≤ x3 → sdB (1 : Int32) ∧ Q (1 : Int32) M11) ∧ (¬ r12 ≤ x3 → vp_in x3 48 ∧ vp_in x3 48 ∧ (¬ (M11 (o + 2) x3.toNatClampNeg) = (M11 (o2 + 2) x3.toNatClampNeg) → k_S_sameList_57 o Q M11) ∧ ((M11 (o + 2) x3.toNatClampNeg) = (M11 (o2 + 2) x3.toNatClampNeg) → w_S_sameEntry o M11 x3 o2 x3 (fun r16 M15 => (¬ r16 = 0 → h_S_sameList_23 o Q N M15 x1 o2 (x3 + 1)) ∧ (r16 = 0 → k_S_sameList_57 o Q M15)))))
set_option maxHeartbeats 1000000 in
theorem t_S_sameList_23 {o : Nat} (hA : sd_ad b n ad) (hT : l.stackTraces = false) (ho : isS n L dA o) {Q : Int32 → sdM → Prop} (N : Nat) : ∀ (M : sdM) (x1 : Int32) (o2 : Nat) (x3 : Int32) (ho2 : isS n L dA o2), h_S_sameList_23 o Q N M x1 o2 x3 → sdW l (sdE0 sc) Y_S_sameList D (sd_tys dA) b n ad L ad (sd_H D (sdE0 sc).1 n ad L) (sd_qi Q) sd_xf 23 [(0, .ref o), (1, .int x1), (2, .ref o2), (3, .int x3)] [] M 0 0 := by
  induction N with
  | zero => intro M x1 o2 x3 ho2 hw; exact hw.elim
  | succ N ih =>
    intro M x1 o2 x3 ho2 hw
    rw [h_S_sameList_23] at hw
    refine x_iload_n 3 3 d_S_sameList_23 rfl rfl ?_
    refine x_aload_n 0 0 d_S_sameList_24 rfl rfl ?_
    refine x_iload_n 1 1 d_S_sameList_25 rfl rfl ?_
    refine x_callVi (As := [.int x1]) (t := o) (rest := [.int x3]) (rc := 0) (rs := 0) (c_S_endRow hA hT ho hw) cw_S_sameList_S_endRow_40 ho.1 ho.2.1 rfl d_S_sameList_26 rfl rfl (Nat.le_of_ble_eq_true rfl) (fun _ _ h => h.elim) (fun _ _ h => h) (fun r12 M11 hw => ?_)
    refine x_icmp_ge 65 d_S_sameList_29 rfl (fun hc => ?_) (fun hc => ?_)
    · have hw := hw.1 hc
      refine x_iconst (v := 1) d_S_sameList_65 (by decide) ?_
      exact x_zret d_S_sameList_66 rfl (sdB_n hw.1) (fun _ h => h) ⟨_, rfl, hw.2⟩
    · have hw := hw.2 hc
      refine x_aload_n 0 0 d_S_sameList_32 rfl rfl ?_
      refine x_getr 1 (o + 2) d_S_sameList_33 ho.1 ho.2.1 rfl rfl (by decide) lay_S (List.mem_cons_of_mem _ q16) rfl ?_
      refine x_iload_n 3 3 d_S_sameList_36 rfl rfl ?_
      obtain ⟨hi13, hw⟩ := hw
      refine x_iald d_S_sameList_37 ho.keys.1 ho.keys.2 rfl hi13 ?_
      refine x_aload_n 2 2 d_S_sameList_38 rfl rfl ?_
      refine x_getr 1 (o2 + 2) d_S_sameList_39 ho2.1 ho2.2.1 rfl rfl (by decide) lay_S (List.mem_cons_of_mem _ q16) rfl ?_
      refine x_iload_n 3 3 d_S_sameList_42 rfl rfl ?_
      obtain ⟨hi14, hw⟩ := hw
      refine x_iald d_S_sameList_43 ho2.keys.1 ho2.keys.2 rfl hi14 ?_
      refine x_icmp_ne 57 d_S_sameList_44 rfl (fun hc => ?_) (fun hc => ?_)
      · have hw := hw.1 hc
        refine x_sub [] [] rfl ?_
        exact t_S_sameList_57 hA hT ho M11 hw
      · have hw := hw.2 hc
        refine x_aload_n 0 0 d_S_sameList_47 rfl rfl ?_
        refine x_iload_n 3 3 d_S_sameList_48 rfl rfl ?_
        refine x_aload_n 2 2 d_S_sameList_49 rfl rfl ?_
        refine x_iload_n 3 3 d_S_sameList_50 rfl rfl ?_
        refine x_callVi (As := [.int x3, .ref o2, .int x3]) (t := o) (rest := []) (rc := 0) (rs := 0) (c_S_sameEntry hA hT ho ho2 hw) cw_S_sameList_S_sameEntry_88 ho.1 ho.2.1 rfl d_S_sameList_51 rfl rfl (Nat.le_of_ble_eq_true rfl) (fun _ _ h => h.elim) (fun _ _ h => h) (fun r16 M15 hw => ?_)
        refine x_if_ne 59 d_S_sameList_54 rfl (fun hc => ?_) (fun hc => ?_)
        · have hw := hw.1 hc
          refine x_iinc 3 3 [(3, .int (x3 + 1)), (0, .ref o), (1, .int x1), (2, .ref o2)] d_S_sameList_59 rfl (congrArg (HAdd.hAdd x3) (show Int32.ofInt 1 = 1 by decide)) (by decide) rfl ?_
          refine x_goto 23 d_S_sameList_62 rfl ?_
          refine x_sub [1, 2, 3, 0] [(0, .ref o), (1, .int x1), (2, .ref o2), (3, .int (x3 + 1))] rfl ?_
          exact ih M15 x1 o2 (x3 + 1) ho2 hw
        · have hw := hw.2 hc
          refine x_sub [] [] rfl ?_
          exact t_S_sameList_57 hA hT ho M15 hw
def w_S_sameList (o : Nat) (M : sdM) (a1 : Int32) (p2 : Nat) (Q : Int32 → sdM → Prop) : Prop := vp_in a1 4 ∧ vp_in a1 4 ∧ ((M (o + 1) a1.toNatClampNeg) = (M (p2 + 1) a1.toNatClampNeg) → w_S_firstRow o M a1 (fun r20 M19 => ∃ N9 : Nat, h_S_sameList_23 o Q N9 M19 a1 p2 r20)) ∧ (¬ (M (o + 1) a1.toNatClampNeg) = (M (p2 + 1) a1.toNatClampNeg) → sdB (0 : Int32) ∧ Q (0 : Int32) M)
set_option maxHeartbeats 1000000 in
theorem c_S_sameList {a1 : Int32} {p2 : Nat} {o : Nat} (hA : sd_ad b n ad) (hT : l.stackTraces = false) (ho : isS n L dA o) (hp2 : isS n L dA p2) {Q : Int32 → sdM → Prop} {M : sdM} (hw : w_S_sameList o M a1 p2 Q) : sd_Cn l (sdE0 sc) y_S_sameList Y_S_sameList.2.2.2.2.1 Y_S_sameList.2.2.2.2.2.1 0 0 D (sd_tys dA) b n ad L M [.ref o, .int a1, .ref p2] (sd_qi Q) sd_xf := by
  refine sd_enter (Y := Y_S_sameList) rfl rfl rfl (Nat.le_of_ble_eq_true rfl) ?_
  show sdW l (sdE0 sc) Y_S_sameList D (sd_tys dA) b n ad L ad (sd_H D (sdE0 sc).1 n ad L) (sd_qi Q) sd_xf 0 [(0, .ref o), (1, .int a1), (2, .ref p2)] [] M 0 0
  unfold w_S_sameList at hw
  refine x_aload_n 0 0 d_S_sameList_0 rfl rfl ?_
  refine x_getr 0 (o + 1) d_S_sameList_1 ho.1 ho.2.1 rfl rfl (by decide) lay_S (List.mem_cons_of_mem _ q0) rfl ?_
  refine x_iload_n 1 1 d_S_sameList_4 rfl rfl ?_
  obtain ⟨hi17, hw⟩ := hw
  refine x_iald d_S_sameList_5 ho.counts.1 ho.counts.2 rfl hi17 ?_
  refine x_aload_n 2 2 d_S_sameList_6 rfl rfl ?_
  refine x_getr 0 (p2 + 1) d_S_sameList_7 hp2.1 hp2.2.1 rfl rfl (by decide) lay_S (List.mem_cons_of_mem _ q0) rfl ?_
  refine x_iload_n 1 1 d_S_sameList_10 rfl rfl ?_
  obtain ⟨hi18, hw⟩ := hw
  refine x_iald d_S_sameList_11 hp2.counts.1 hp2.counts.2 rfl hi18 ?_
  refine x_icmp_eq 17 d_S_sameList_12 rfl (fun hc => ?_) (fun hc => ?_)
  · have hw := hw.1 hc
    refine x_aload_n 0 0 d_S_sameList_17 rfl rfl ?_
    refine x_iload_n 1 1 d_S_sameList_18 rfl rfl ?_
    refine x_callVi (As := [.int a1]) (t := o) (rest := []) (rc := 0) (rs := 0) (c_S_firstRow hA hT ho hw) cw_S_sameList_S_firstRow_36 ho.1 ho.2.1 rfl d_S_sameList_19 rfl rfl (Nat.le_of_ble_eq_true rfl) (fun _ _ h => h.elim) (fun _ _ h => h) (fun r20 M19 hw => ?_)
    refine x_istore_n 3 [(3, .int r20), (0, .ref o), (1, .int a1), (2, .ref p2)] d_S_sameList_22 rfl (by decide) rfl ?_
    refine x_sub [1, 2, 3, 0] [(0, .ref o), (1, .int a1), (2, .ref p2), (3, .int r20)] rfl ?_
    obtain ⟨N9, hw⟩ := hw
    exact t_S_sameList_23 hA hT ho N9 M19 a1 p2 r20 hp2 hw
  · have hw := hw.2 hc
    refine x_iconst (v := 0) d_S_sameList_15 (by decide) ?_
    exact x_zret d_S_sameList_16 rfl (sdB_n hw.1) (fun _ h => h) ⟨_, rfl, hw.2⟩
end
theorem q29 : (.methodLink "SettingsDesk$Settings" 84 ⟨"SettingsDesk$Settings", "sameList", "(ILSettingsDesk$Settings;)Z"⟩ : Cond) ∈ sdB0 := sd_tb2 9 rfl rfl
theorem q30 : (.code ⟨"SettingsDesk$Settings", "sameList", "(ILSettingsDesk$Settings;)Z"⟩ prog_9_method_23_code 4 (some .boolean) : Cond) ∈ sdB0 := sd_tb2 12 rfl rfl
theorem q31 : (.instanceMethod ⟨"SettingsDesk$Settings", "sameList", "(ILSettingsDesk$Settings;)Z"⟩ : Cond) ∈ sdB0 := sd_tb2 10 rfl rfl
theorem q32 : (.selects "SettingsDesk$Settings" ⟨"SettingsDesk$Settings", "sameList", "(ILSettingsDesk$Settings;)Z"⟩ ⟨"SettingsDesk$Settings", "sameList", "(ILSettingsDesk$Settings;)Z"⟩ : Cond) ∈ sdB0 := sd_tb2 11 rfl rfl
abbrev y_S_sameAs : MethodName := ⟨"SettingsDesk$Settings", "sameAs", "(LSettingsDesk$Settings;)Z"⟩
theorem d_S_sameAs_0 : decode prog_9_method_22_code 0 = .ok (.iconst 0, 1) := by decide +kernel
theorem d_S_sameAs_1 : decode prog_9_method_22_code 1 = .ok (.istore_n 2, 1) := by decide +kernel
theorem d_S_sameAs_2 : decode prog_9_method_22_code 2 = .ok (.iload_n 2, 1) := by decide +kernel
theorem d_S_sameAs_3 : decode prog_9_method_22_code 3 = .ok (.iconst 4, 1) := by decide +kernel
theorem d_S_sameAs_4 : decode prog_9_method_22_code 4 = .ok (.if_icmp .ge (20), 3) := by decide +kernel
theorem d_S_sameAs_7 : decode prog_9_method_22_code 7 = .ok (.aload_n 0, 1) := by decide +kernel
theorem d_S_sameAs_8 : decode prog_9_method_22_code 8 = .ok (.iload_n 2, 1) := by decide +kernel
theorem d_S_sameAs_9 : decode prog_9_method_22_code 9 = .ok (.aload_n 1, 1) := by decide +kernel
theorem d_S_sameAs_10 : decode prog_9_method_22_code 10 = .ok (.invokevirtual 84, 3) := by decide +kernel
theorem d_S_sameAs_13 : decode prog_9_method_22_code 13 = .ok (.ifCond .ne (5), 3) := by decide +kernel
theorem d_S_sameAs_16 : decode prog_9_method_22_code 16 = .ok (.iconst 0, 1) := by decide +kernel
theorem d_S_sameAs_17 : decode prog_9_method_22_code 17 = .ok (.ireturn, 1) := by decide +kernel
theorem d_S_sameAs_18 : decode prog_9_method_22_code 18 = .ok (.iinc 2 (1), 3) := by decide +kernel
theorem d_S_sameAs_21 : decode prog_9_method_22_code 21 = .ok (.goto (-19), 3) := by decide +kernel
theorem d_S_sameAs_24 : decode prog_9_method_22_code 24 = .ok (.iconst 1, 1) := by decide +kernel
theorem d_S_sameAs_25 : decode prog_9_method_22_code 25 = .ok (.ireturn, 1) := by decide +kernel
def Y_S_sameAs : sdY := ("SettingsDesk$Settings", prog_9_method_22_code, 3, (some .boolean), .code y_S_sameAs prog_9_method_22_code 3 (some .boolean) :: sdB0, { frames := 4, cells := 0, slots := 0, locals := 93 }, 0, 0)
theorem cw_S_sameAs_S_sameList_84 : sd_cwV Y_S_sameAs Y_S_sameList y_S_sameList 84 2 "SettingsDesk$Settings" := ⟨sd_goodV q29 q31 q32 q7 q30, ⟨_, rfl⟩, ⟨rfl, rfl, rfl, rfl⟩, ⟨rfl, by decide, by decide, by decide +kernel⟩, ⟨by decide, by decide⟩⟩
section
variable {l : Launch} {D : va_G} {dA : Nat → ClassId} {b n : Nat} {ad : Nat → Nat} {L : Nat → sdL} {sc : Option (Nat × Nat × (Nat → Int32))}
def h_S_sameAs_2 (o : Nat) (Q : Int32 → sdM → Prop) : Nat → sdM → Nat → Int32 → Prop
  | 0, _, _, _ => False
  | N + 1, M, o1, x2 => ((4 : Int32) ≤ x2 → sdB (1 : Int32) ∧ Q (1 : Int32) M) ∧ (¬ (4 : Int32) ≤ x2 → w_S_sameList o M x2 o1 (fun r4 M3 => (¬ r4 = 0 → h_S_sameAs_2 o Q N M3 o1 (x2 + 1)) ∧ (r4 = 0 → sdB (0 : Int32) ∧ Q (0 : Int32) M3)))
set_option maxHeartbeats 1000000 in
theorem t_S_sameAs_2 {o : Nat} (hA : sd_ad b n ad) (hT : l.stackTraces = false) (ho : isS n L dA o) {Q : Int32 → sdM → Prop} (N : Nat) : ∀ (M : sdM) (o1 : Nat) (x2 : Int32) (ho1 : isS n L dA o1), h_S_sameAs_2 o Q N M o1 x2 → sdW l (sdE0 sc) Y_S_sameAs D (sd_tys dA) b n ad L ad (sd_H D (sdE0 sc).1 n ad L) (sd_qi Q) sd_xf 2 [(0, .ref o), (1, .ref o1), (2, .int x2)] [] M 0 0 := by
  induction N with
  | zero => intro M o1 x2 ho1 hw; exact hw.elim
  | succ N ih =>
    intro M o1 x2 ho1 hw
    rw [h_S_sameAs_2] at hw
    refine x_iload_n 2 2 d_S_sameAs_2 rfl rfl ?_
    refine x_iconst (v := 4) d_S_sameAs_3 (by decide) ?_
    refine x_icmp_ge 24 d_S_sameAs_4 rfl (fun hc => ?_) (fun hc => ?_)
    · have hw := hw.1 hc
      refine x_iconst (v := 1) d_S_sameAs_24 (by decide) ?_
      exact x_zret d_S_sameAs_25 rfl (sdB_n hw.1) (fun _ h => h) ⟨_, rfl, hw.2⟩
    · have hw := hw.2 hc
      refine x_aload_n 0 0 d_S_sameAs_7 rfl rfl ?_
      refine x_iload_n 2 2 d_S_sameAs_8 rfl rfl ?_
      refine x_aload_n 1 1 d_S_sameAs_9 rfl rfl ?_
      refine x_callVi (As := [.int x2, .ref o1]) (t := o) (rest := []) (rc := 0) (rs := 0) (c_S_sameList hA hT ho ho1 hw) cw_S_sameAs_S_sameList_84 ho.1 ho.2.1 rfl d_S_sameAs_10 rfl rfl (Nat.le_of_ble_eq_true rfl) (fun _ _ h => h.elim) (fun _ _ h => h) (fun r4 M3 hw => ?_)
      refine x_if_ne 18 d_S_sameAs_13 rfl (fun hc => ?_) (fun hc => ?_)
      · have hw := hw.1 hc
        refine x_iinc 2 2 [(2, .int (x2 + 1)), (0, .ref o), (1, .ref o1)] d_S_sameAs_18 rfl (congrArg (HAdd.hAdd x2) (show Int32.ofInt 1 = 1 by decide)) (by decide) rfl ?_
        refine x_goto 2 d_S_sameAs_21 rfl ?_
        refine x_sub [1, 2, 0] [(0, .ref o), (1, .ref o1), (2, .int (x2 + 1))] rfl ?_
        exact ih M3 o1 (x2 + 1) ho1 hw
      · have hw := hw.2 hc
        refine x_iconst (v := 0) d_S_sameAs_16 (by decide) ?_
        exact x_zret d_S_sameAs_17 rfl (sdB_n hw.1) (fun _ h => h) ⟨_, rfl, hw.2⟩
def w_S_sameAs (o : Nat) (M : sdM) (p1 : Nat) (Q : Int32 → sdM → Prop) : Prop := ∃ N9 : Nat, h_S_sameAs_2 o Q N9 M p1 (0 : Int32)
set_option maxHeartbeats 1000000 in
theorem c_S_sameAs {p1 : Nat} {o : Nat} (hA : sd_ad b n ad) (hT : l.stackTraces = false) (ho : isS n L dA o) (hp1 : isS n L dA p1) {Q : Int32 → sdM → Prop} {M : sdM} (hw : w_S_sameAs o M p1 Q) : sd_Cn l (sdE0 sc) y_S_sameAs Y_S_sameAs.2.2.2.2.1 Y_S_sameAs.2.2.2.2.2.1 0 0 D (sd_tys dA) b n ad L M [.ref o, .ref p1] (sd_qi Q) sd_xf := by
  refine sd_enter (Y := Y_S_sameAs) rfl rfl rfl (Nat.le_of_ble_eq_true rfl) ?_
  show sdW l (sdE0 sc) Y_S_sameAs D (sd_tys dA) b n ad L ad (sd_H D (sdE0 sc).1 n ad L) (sd_qi Q) sd_xf 0 [(0, .ref o), (1, .ref p1)] [] M 0 0
  unfold w_S_sameAs at hw
  refine x_iconst (v := 0) d_S_sameAs_0 (by decide) ?_
  refine x_istore_n 2 [(2, .int (0 : Int32)), (0, .ref o), (1, .ref p1)] d_S_sameAs_1 rfl (by decide) rfl ?_
  refine x_sub [1, 2, 0] [(0, .ref o), (1, .ref p1), (2, .int (0 : Int32))] rfl ?_
  obtain ⟨N9, hw⟩ := hw
  exact t_S_sameAs_2 hA hT ho N9 M p1 (0 : Int32) hp1 hw
end
abbrev y_JM_floorMod : MethodName := ⟨"java/lang/Math", "floorMod", "(II)I"⟩
theorem d_JM_floorMod_0 : decode prog_17_method_50_code 0 = .ok (.iload_n 0, 1) := by decide +kernel
theorem d_JM_floorMod_1 : decode prog_17_method_50_code 1 = .ok (.iload_n 1, 1) := by decide +kernel
theorem d_JM_floorMod_2 : decode prog_17_method_50_code 2 = .ok (.irem, 1) := by decide +kernel
theorem d_JM_floorMod_3 : decode prog_17_method_50_code 3 = .ok (.istore_n 2, 1) := by decide +kernel
theorem d_JM_floorMod_4 : decode prog_17_method_50_code 4 = .ok (.iload_n 0, 1) := by decide +kernel
theorem d_JM_floorMod_5 : decode prog_17_method_50_code 5 = .ok (.iload_n 1, 1) := by decide +kernel
theorem d_JM_floorMod_6 : decode prog_17_method_50_code 6 = .ok (.ixor, 1) := by decide +kernel
theorem d_JM_floorMod_7 : decode prog_17_method_50_code 7 = .ok (.ifCond .ge (11), 3) := by decide +kernel
theorem d_JM_floorMod_10 : decode prog_17_method_50_code 10 = .ok (.iload_n 2, 1) := by decide +kernel
theorem d_JM_floorMod_11 : decode prog_17_method_50_code 11 = .ok (.ifCond .eq (7), 3) := by decide +kernel
theorem d_JM_floorMod_14 : decode prog_17_method_50_code 14 = .ok (.iload_n 2, 1) := by decide +kernel
theorem d_JM_floorMod_15 : decode prog_17_method_50_code 15 = .ok (.iload_n 1, 1) := by decide +kernel
theorem d_JM_floorMod_16 : decode prog_17_method_50_code 16 = .ok (.iadd, 1) := by decide +kernel
theorem d_JM_floorMod_17 : decode prog_17_method_50_code 17 = .ok (.ireturn, 1) := by decide +kernel
theorem d_JM_floorMod_18 : decode prog_17_method_50_code 18 = .ok (.iload_n 2, 1) := by decide +kernel
theorem d_JM_floorMod_19 : decode prog_17_method_50_code 19 = .ok (.ireturn, 1) := by decide +kernel
def Y_JM_floorMod : sdY := ("java/lang/Math", prog_17_method_50_code, 3, (some .int), .code y_JM_floorMod prog_17_method_50_code 3 (some .int) :: sdB0, { frames := 0, cells := 0, slots := 0, locals := 0 }, 0, 0)
section
variable {l : Launch} {D : va_G} {dA : Nat → ClassId} {b n : Nat} {ad : Nat → Nat} {L : Nat → sdL} {sc : Option (Nat × Nat × (Nat → Int32))}
def k_JM_floorMod_18 (Q : Int32 → sdM → Prop) (M : sdM) (x2 : Int32) : Prop := Q x2 M
set_option maxHeartbeats 1000000 in
theorem t_JM_floorMod_18 (hA : sd_ad b n ad) (hT : l.stackTraces = false) {Q : Int32 → sdM → Prop} (M : sdM) (x2 : Int32) (hw : k_JM_floorMod_18 Q M x2) : sdW l (sdE0 sc) Y_JM_floorMod D (sd_tys dA) b n ad L ad (sd_H D (sdE0 sc).1 n ad L) (sd_qi Q) sd_xf 18 [(2, .int x2)] [] M 0 0 := by
  unfold k_JM_floorMod_18 at hw
  refine x_iload_n 2 0 d_JM_floorMod_18 rfl rfl ?_
  exact x_iret d_JM_floorMod_19 rfl (fun _ h => h) ⟨_, rfl, hw⟩
def w_JM_floorMod (M : sdM) (a0 : Int32) (a1 : Int32) (Q : Int32 → sdM → Prop) : Prop := ¬ a1 = 0 ∧ (0 ≤ (a0 ^^^ a1) → k_JM_floorMod_18 Q M (a0 - a0 / a1 * a1)) ∧ (¬ 0 ≤ (a0 ^^^ a1) → ((a0 - a0 / a1 * a1) = 0 → k_JM_floorMod_18 Q M (a0 - a0 / a1 * a1)) ∧ (¬ (a0 - a0 / a1 * a1) = 0 → Q ((a0 - a0 / a1 * a1) + a1) M))
set_option maxHeartbeats 1000000 in
theorem c_JM_floorMod {a0 : Int32} {a1 : Int32} (hA : sd_ad b n ad) (hT : l.stackTraces = false) {Q : Int32 → sdM → Prop} {M : sdM} (hw : w_JM_floorMod M a0 a1 Q) : sd_Cn l (sdE0 sc) y_JM_floorMod Y_JM_floorMod.2.2.2.2.1 Y_JM_floorMod.2.2.2.2.2.1 0 0 D (sd_tys dA) b n ad L M [.int a0, .int a1] (sd_qi Q) sd_xf := by
  refine sd_enter (Y := Y_JM_floorMod) (by decide +kernel) rfl rfl (Nat.le_of_ble_eq_true rfl) ?_
  show sdW l (sdE0 sc) Y_JM_floorMod D (sd_tys dA) b n ad L ad (sd_H D (sdE0 sc).1 n ad L) (sd_qi Q) sd_xf 0 [(0, .int a0), (1, .int a1)] [] M 0 0
  unfold w_JM_floorMod at hw
  refine x_iload_n 0 0 d_JM_floorMod_0 rfl rfl ?_
  refine x_iload_n 1 1 d_JM_floorMod_1 rfl rfl ?_
  obtain ⟨hz2, hw⟩ := hw
  refine x_irem d_JM_floorMod_2 hz2 ?_
  refine x_istore_n 2 [(2, .int (a0 - a0 / a1 * a1)), (0, .int a0), (1, .int a1)] d_JM_floorMod_3 rfl (by decide) rfl ?_
  refine x_iload_n 0 1 d_JM_floorMod_4 rfl rfl ?_
  refine x_iload_n 1 2 d_JM_floorMod_5 rfl rfl ?_
  refine x_ixor d_JM_floorMod_6 ?_
  refine x_if_ge 18 d_JM_floorMod_7 rfl (fun hc => ?_) (fun hc => ?_)
  · have hw := hw.1 hc
    refine x_sub [0] [(2, .int (a0 - a0 / a1 * a1))] rfl ?_
    exact t_JM_floorMod_18 hA hT M (a0 - a0 / a1 * a1) hw
  · have hw := hw.2 hc
    refine x_iload_n 2 0 d_JM_floorMod_10 rfl rfl ?_
    refine x_if_eq 18 d_JM_floorMod_11 rfl (fun hc => ?_) (fun hc => ?_)
    · have hw := hw.1 hc
      refine x_sub [0] [(2, .int (a0 - a0 / a1 * a1))] rfl ?_
      exact t_JM_floorMod_18 hA hT M (a0 - a0 / a1 * a1) hw
    · have hw := hw.2 hc
      refine x_iload_n 2 0 d_JM_floorMod_14 rfl rfl ?_
      refine x_iload_n 1 2 d_JM_floorMod_15 rfl rfl ?_
      refine x_iadd d_JM_floorMod_16 ?_
      exact x_iret d_JM_floorMod_17 rfl (fun _ h => h) ⟨_, rfl, hw⟩
end
theorem q33 : (.methodLink "SettingsDesk$Settings" 24 ⟨"java/lang/System", "arraycopy", "(Ljava/lang/Object;ILjava/lang/Object;II)V"⟩ : Cond) ∈ sdB0 := sd_tb2 44 rfl rfl
theorem q34 : (.native ⟨"java/lang/System", "arraycopy", "(Ljava/lang/Object;ILjava/lang/Object;II)V"⟩ : Cond) ∈ sdB0 := sd_tb2 46 rfl rfl
theorem q35 : (.static ⟨"java/lang/System", "arraycopy", "(Ljava/lang/Object;ILjava/lang/Object;II)V"⟩ : Cond) ∈ sdB0 := sd_tb2 45 rfl rfl
theorem q36 : (.initialized "java/lang/System" : Cond) ∈ sdB0 := sd_tb1 16 rfl rfl
abbrev y_S_copyFrom : MethodName := ⟨"SettingsDesk$Settings", "copyFrom", "(LSettingsDesk$Settings;)V"⟩
theorem d_S_copyFrom_0 : decode prog_9_method_2_code 0 = .ok (.aload_n 1, 1) := by decide +kernel
theorem d_S_copyFrom_1 : decode prog_9_method_2_code 1 = .ok (.getfield 9, 3) := by decide +kernel
theorem d_S_copyFrom_4 : decode prog_9_method_2_code 4 = .ok (.iconst 0, 1) := by decide +kernel
theorem d_S_copyFrom_5 : decode prog_9_method_2_code 5 = .ok (.aload_n 0, 1) := by decide +kernel
theorem d_S_copyFrom_6 : decode prog_9_method_2_code 6 = .ok (.getfield 9, 3) := by decide +kernel
theorem d_S_copyFrom_9 : decode prog_9_method_2_code 9 = .ok (.iconst 0, 1) := by decide +kernel
theorem d_S_copyFrom_10 : decode prog_9_method_2_code 10 = .ok (.iconst 4, 1) := by decide +kernel
theorem d_S_copyFrom_11 : decode prog_9_method_2_code 11 = .ok (.invokestatic 24, 3) := by decide +kernel
theorem d_S_copyFrom_14 : decode prog_9_method_2_code 14 = .ok (.aload_n 1, 1) := by decide +kernel
theorem d_S_copyFrom_15 : decode prog_9_method_2_code 15 = .ok (.getfield 15, 3) := by decide +kernel
theorem d_S_copyFrom_18 : decode prog_9_method_2_code 18 = .ok (.iconst 0, 1) := by decide +kernel
theorem d_S_copyFrom_19 : decode prog_9_method_2_code 19 = .ok (.aload_n 0, 1) := by decide +kernel
theorem d_S_copyFrom_20 : decode prog_9_method_2_code 20 = .ok (.getfield 15, 3) := by decide +kernel
theorem d_S_copyFrom_23 : decode prog_9_method_2_code 23 = .ok (.iconst 0, 1) := by decide +kernel
theorem d_S_copyFrom_24 : decode prog_9_method_2_code 24 = .ok (.bipush (48), 2) := by decide +kernel
theorem d_S_copyFrom_26 : decode prog_9_method_2_code 26 = .ok (.invokestatic 24, 3) := by decide +kernel
theorem d_S_copyFrom_29 : decode prog_9_method_2_code 29 = .ok (.aload_n 1, 1) := by decide +kernel
theorem d_S_copyFrom_30 : decode prog_9_method_2_code 30 = .ok (.getfield 18, 3) := by decide +kernel
theorem d_S_copyFrom_33 : decode prog_9_method_2_code 33 = .ok (.iconst 0, 1) := by decide +kernel
theorem d_S_copyFrom_34 : decode prog_9_method_2_code 34 = .ok (.aload_n 0, 1) := by decide +kernel
theorem d_S_copyFrom_35 : decode prog_9_method_2_code 35 = .ok (.getfield 18, 3) := by decide +kernel
theorem d_S_copyFrom_38 : decode prog_9_method_2_code 38 = .ok (.iconst 0, 1) := by decide +kernel
theorem d_S_copyFrom_39 : decode prog_9_method_2_code 39 = .ok (.sipush (192), 3) := by decide +kernel
theorem d_S_copyFrom_42 : decode prog_9_method_2_code 42 = .ok (.invokestatic 24, 3) := by decide +kernel
theorem d_S_copyFrom_45 : decode prog_9_method_2_code 45 = .ok (.aload_n 1, 1) := by decide +kernel
theorem d_S_copyFrom_46 : decode prog_9_method_2_code 46 = .ok (.getfield 21, 3) := by decide +kernel
theorem d_S_copyFrom_49 : decode prog_9_method_2_code 49 = .ok (.iconst 0, 1) := by decide +kernel
theorem d_S_copyFrom_50 : decode prog_9_method_2_code 50 = .ok (.aload_n 0, 1) := by decide +kernel
theorem d_S_copyFrom_51 : decode prog_9_method_2_code 51 = .ok (.getfield 21, 3) := by decide +kernel
theorem d_S_copyFrom_54 : decode prog_9_method_2_code 54 = .ok (.iconst 0, 1) := by decide +kernel
theorem d_S_copyFrom_55 : decode prog_9_method_2_code 55 = .ok (.bipush (48), 2) := by decide +kernel
theorem d_S_copyFrom_57 : decode prog_9_method_2_code 57 = .ok (.invokestatic 24, 3) := by decide +kernel
theorem d_S_copyFrom_60 : decode prog_9_method_2_code 60 = .ok (.return_, 1) := by decide +kernel
def Y_S_copyFrom : sdY := ("SettingsDesk$Settings", prog_9_method_2_code, 2, none, .code y_S_copyFrom prog_9_method_2_code 2 none :: sdB0, { frames := 1, cells := 0, slots := 0, locals := 18 }, 0, 0)
section
variable {l : Launch} {D : va_G} {dA : Nat → ClassId} {b n : Nat} {ad : Nat → Nat} {L : Nat → sdL} {sc : Option (Nat × Nat × (Nat → Int32))}
def w_S_copyFrom (o : Nat) (M : sdM) (p1 : Nat) (Q : sdM → Prop) : Prop := (¬ (0 : Int32) < 0 ∧ ¬ (0 : Int32) < 0 ∧ ¬ (4 : Int32) < 0 ∧ (0 : Int32).toNatClampNeg + (4 : Int32).toNatClampNeg ≤ 4 ∧ (0 : Int32).toNatClampNeg + (4 : Int32).toNatClampNeg ≤ 4) ∧ ∀ M14 : sdM, M14 = va_up M (o + 1) (va_cpy (M (p1 + 1)) (M (o + 1)) (0 : Int32).toNatClampNeg (0 : Int32).toNatClampNeg (4 : Int32).toNatClampNeg) → (¬ (0 : Int32) < 0 ∧ ¬ (0 : Int32) < 0 ∧ ¬ (48 : Int32) < 0 ∧ (0 : Int32).toNatClampNeg + (48 : Int32).toNatClampNeg ≤ 48 ∧ (0 : Int32).toNatClampNeg + (48 : Int32).toNatClampNeg ≤ 48) ∧ ∀ M17 : sdM, M17 = va_up M14 (o + 2) (va_cpy (M14 (p1 + 2)) (M14 (o + 2)) (0 : Int32).toNatClampNeg (0 : Int32).toNatClampNeg (48 : Int32).toNatClampNeg) → (¬ (0 : Int32) < 0 ∧ ¬ (0 : Int32) < 0 ∧ ¬ (192 : Int32) < 0 ∧ (0 : Int32).toNatClampNeg + (192 : Int32).toNatClampNeg ≤ 192 ∧ (0 : Int32).toNatClampNeg + (192 : Int32).toNatClampNeg ≤ 192) ∧ ∀ M20 : sdM, M20 = va_up M17 (o + 3) (va_cpy (M17 (p1 + 3)) (M17 (o + 3)) (0 : Int32).toNatClampNeg (0 : Int32).toNatClampNeg (192 : Int32).toNatClampNeg) → (¬ (0 : Int32) < 0 ∧ ¬ (0 : Int32) < 0 ∧ ¬ (48 : Int32) < 0 ∧ (0 : Int32).toNatClampNeg + (48 : Int32).toNatClampNeg ≤ 48 ∧ (0 : Int32).toNatClampNeg + (48 : Int32).toNatClampNeg ≤ 48) ∧ ∀ M23 : sdM, M23 = va_up M20 (o + 4) (va_cpy (M20 (p1 + 4)) (M20 (o + 4)) (0 : Int32).toNatClampNeg (0 : Int32).toNatClampNeg (48 : Int32).toNatClampNeg) → Q M23
set_option maxHeartbeats 1000000 in
theorem c_S_copyFrom {p1 : Nat} {o : Nat} (hA : sd_ad b n ad) (hT : l.stackTraces = false) (ho : isS n L dA o) (hp1 : isS n L dA p1) {Q : sdM → Prop} {M : sdM} (hw : w_S_copyFrom o M p1 Q) : sd_Cn l (sdE0 sc) y_S_copyFrom Y_S_copyFrom.2.2.2.2.1 Y_S_copyFrom.2.2.2.2.2.1 0 0 D (sd_tys dA) b n ad L M [.ref o, .ref p1] (sd_qv Q) sd_xf := by
  refine sd_enter (Y := Y_S_copyFrom) rfl rfl rfl (Nat.le_of_ble_eq_true rfl) ?_
  show sdW l (sdE0 sc) Y_S_copyFrom D (sd_tys dA) b n ad L ad (sd_H D (sdE0 sc).1 n ad L) (sd_qv Q) sd_xf 0 [(0, .ref o), (1, .ref p1)] [] M 0 0
  unfold w_S_copyFrom at hw
  refine x_aload_n 1 1 d_S_copyFrom_0 rfl rfl ?_
  refine x_getr 0 (p1 + 1) d_S_copyFrom_1 hp1.1 hp1.2.1 rfl rfl (by decide) lay_S (List.mem_cons_of_mem _ q0) rfl ?_
  refine x_iconst (v := 0) d_S_copyFrom_4 (by decide) ?_
  refine x_aload_n 0 0 d_S_copyFrom_5 rfl rfl ?_
  refine x_getr 0 (o + 1) d_S_copyFrom_6 ho.1 ho.2.1 rfl rfl (by decide) lay_S (List.mem_cons_of_mem _ q0) rfl ?_
  refine x_iconst (v := 0) d_S_copyFrom_9 (by decide) ?_
  refine x_iconst (v := 4) d_S_copyFrom_10 (by decide) ?_
  obtain ⟨hi13, hw⟩ := hw
  refine x_copyi hA d_S_copyFrom_11 (List.mem_cons_of_mem _ q33) (List.mem_cons_of_mem _ q34) (List.mem_cons_of_mem _ q35) (List.mem_cons_of_mem _ q36) hp1.counts.1 hp1.counts.2 ho.counts.1 ho.counts.2 rfl hi13 (Nat.le_of_ble_eq_true rfl) (Nat.le_of_ble_eq_true rfl) (fun M14 e15 => ?_)
  have hw := hw M14 e15
  clear e15
  refine x_aload_n 1 1 d_S_copyFrom_14 rfl rfl ?_
  refine x_getr 1 (p1 + 2) d_S_copyFrom_15 hp1.1 hp1.2.1 rfl rfl (by decide) lay_S (List.mem_cons_of_mem _ q16) rfl ?_
  refine x_iconst (v := 0) d_S_copyFrom_18 (by decide) ?_
  refine x_aload_n 0 0 d_S_copyFrom_19 rfl rfl ?_
  refine x_getr 1 (o + 2) d_S_copyFrom_20 ho.1 ho.2.1 rfl rfl (by decide) lay_S (List.mem_cons_of_mem _ q16) rfl ?_
  refine x_iconst (v := 0) d_S_copyFrom_23 (by decide) ?_
  refine x_bipush (v := 48) d_S_copyFrom_24 (by decide) ?_
  obtain ⟨hi16, hw⟩ := hw
  refine x_copyi hA d_S_copyFrom_26 (List.mem_cons_of_mem _ q33) (List.mem_cons_of_mem _ q34) (List.mem_cons_of_mem _ q35) (List.mem_cons_of_mem _ q36) hp1.keys.1 hp1.keys.2 ho.keys.1 ho.keys.2 rfl hi16 (Nat.le_of_ble_eq_true rfl) (Nat.le_of_ble_eq_true rfl) (fun M17 e18 => ?_)
  have hw := hw M17 e18
  clear e18
  refine x_aload_n 1 1 d_S_copyFrom_29 rfl rfl ?_
  refine x_getr 2 (p1 + 3) d_S_copyFrom_30 hp1.1 hp1.2.1 rfl rfl (by decide) lay_S (List.mem_cons_of_mem _ q2) rfl ?_
  refine x_iconst (v := 0) d_S_copyFrom_33 (by decide) ?_
  refine x_aload_n 0 0 d_S_copyFrom_34 rfl rfl ?_
  refine x_getr 2 (o + 3) d_S_copyFrom_35 ho.1 ho.2.1 rfl rfl (by decide) lay_S (List.mem_cons_of_mem _ q2) rfl ?_
  refine x_iconst (v := 0) d_S_copyFrom_38 (by decide) ?_
  refine x_sipush (v := 192) d_S_copyFrom_39 (by decide) ?_
  obtain ⟨hi19, hw⟩ := hw
  refine x_copyi hA d_S_copyFrom_42 (List.mem_cons_of_mem _ q33) (List.mem_cons_of_mem _ q34) (List.mem_cons_of_mem _ q35) (List.mem_cons_of_mem _ q36) hp1.values.1 hp1.values.2 ho.values.1 ho.values.2 rfl hi19 (Nat.le_of_ble_eq_true rfl) (Nat.le_of_ble_eq_true rfl) (fun M20 e21 => ?_)
  have hw := hw M20 e21
  clear e21
  refine x_aload_n 1 1 d_S_copyFrom_45 rfl rfl ?_
  refine x_getr 3 (p1 + 4) d_S_copyFrom_46 hp1.1 hp1.2.1 rfl rfl (by decide) lay_S (List.mem_cons_of_mem _ q1) rfl ?_
  refine x_iconst (v := 0) d_S_copyFrom_49 (by decide) ?_
  refine x_aload_n 0 0 d_S_copyFrom_50 rfl rfl ?_
  refine x_getr 3 (o + 4) d_S_copyFrom_51 ho.1 ho.2.1 rfl rfl (by decide) lay_S (List.mem_cons_of_mem _ q1) rfl ?_
  refine x_iconst (v := 0) d_S_copyFrom_54 (by decide) ?_
  refine x_bipush (v := 48) d_S_copyFrom_55 (by decide) ?_
  obtain ⟨hi22, hw⟩ := hw
  refine x_copyi hA d_S_copyFrom_57 (List.mem_cons_of_mem _ q33) (List.mem_cons_of_mem _ q34) (List.mem_cons_of_mem _ q35) (List.mem_cons_of_mem _ q36) hp1.given.1 hp1.given.2 ho.given.1 ho.given.2 rfl hi22 (Nat.le_of_ble_eq_true rfl) (Nat.le_of_ble_eq_true rfl) (fun M23 e24 => ?_)
  have hw := hw M23 e24
  clear e24
  exact x_vret d_S_copyFrom_60 rfl (fun _ h => h) ⟨rfl, hw⟩
end
abbrev y_JM_min : MethodName := ⟨"java/lang/Math", "min", "(II)I"⟩
theorem d_JM_min_0 : decode prog_17_method_69_code 0 = .ok (.iload_n 0, 1) := by decide +kernel
theorem d_JM_min_1 : decode prog_17_method_69_code 1 = .ok (.iload_n 1, 1) := by decide +kernel
theorem d_JM_min_2 : decode prog_17_method_69_code 2 = .ok (.if_icmp .gt (7), 3) := by decide +kernel
theorem d_JM_min_5 : decode prog_17_method_69_code 5 = .ok (.iload_n 0, 1) := by decide +kernel
theorem d_JM_min_6 : decode prog_17_method_69_code 6 = .ok (.goto (4), 3) := by decide +kernel
theorem d_JM_min_9 : decode prog_17_method_69_code 9 = .ok (.iload_n 1, 1) := by decide +kernel
theorem d_JM_min_10 : decode prog_17_method_69_code 10 = .ok (.ireturn, 1) := by decide +kernel
def Y_JM_min : sdY := ("java/lang/Math", prog_17_method_69_code, 2, (some .int), .code y_JM_min prog_17_method_69_code 2 (some .int) :: sdB0, { frames := 0, cells := 0, slots := 0, locals := 0 }, 0, 0)
section
variable {l : Launch} {D : va_G} {dA : Nat → ClassId} {b n : Nat} {ad : Nat → Nat} {L : Nat → sdL} {sc : Option (Nat × Nat × (Nat → Int32))}
def k_JM_min_10 (Q : Int32 → sdM → Prop) (M : sdM) (s0 : Int32) : Prop := Q s0 M
set_option maxHeartbeats 1000000 in
theorem t_JM_min_10 (hA : sd_ad b n ad) (hT : l.stackTraces = false) {Q : Int32 → sdM → Prop} (M : sdM) (s0 : Int32) (hw : k_JM_min_10 Q M s0) : sdW l (sdE0 sc) Y_JM_min D (sd_tys dA) b n ad L ad (sd_H D (sdE0 sc).1 n ad L) (sd_qi Q) sd_xf 10 [] [.int s0] M 0 0 := by
  unfold k_JM_min_10 at hw
  exact x_iret d_JM_min_10 rfl (fun _ h => h) ⟨_, rfl, hw⟩
def w_JM_min (M : sdM) (a0 : Int32) (a1 : Int32) (Q : Int32 → sdM → Prop) : Prop := (a1 < a0 → k_JM_min_10 Q M a1) ∧ (¬ a1 < a0 → k_JM_min_10 Q M a0)
set_option maxHeartbeats 1000000 in
theorem c_JM_min {a0 : Int32} {a1 : Int32} (hA : sd_ad b n ad) (hT : l.stackTraces = false) {Q : Int32 → sdM → Prop} {M : sdM} (hw : w_JM_min M a0 a1 Q) : sd_Cn l (sdE0 sc) y_JM_min Y_JM_min.2.2.2.2.1 Y_JM_min.2.2.2.2.2.1 0 0 D (sd_tys dA) b n ad L M [.int a0, .int a1] (sd_qi Q) sd_xf := by
  refine sd_enter (Y := Y_JM_min) (by decide +kernel) rfl rfl (Nat.le_of_ble_eq_true rfl) ?_
  show sdW l (sdE0 sc) Y_JM_min D (sd_tys dA) b n ad L ad (sd_H D (sdE0 sc).1 n ad L) (sd_qi Q) sd_xf 0 [(0, .int a0), (1, .int a1)] [] M 0 0
  unfold w_JM_min at hw
  refine x_iload_n 0 0 d_JM_min_0 rfl rfl ?_
  refine x_iload_n 1 1 d_JM_min_1 rfl rfl ?_
  refine x_icmp_gt 9 d_JM_min_2 rfl (fun hc => ?_) (fun hc => ?_)
  · have hw := hw.1 hc
    refine x_iload_n 1 1 d_JM_min_9 rfl rfl ?_
    refine x_sub [] [] rfl ?_
    exact t_JM_min_10 hA hT M a1 hw
  · have hw := hw.2 hc
    refine x_iload_n 0 0 d_JM_min_5 rfl rfl ?_
    refine x_goto 10 d_JM_min_6 rfl ?_
    refine x_sub [] [] rfl ?_
    exact t_JM_min_10 hA hT M a0 hw
end
theorem q37 : (.fieldLink "SettingsDesk$Settings" 70 "SettingsDesk$Leaf" "hasStandard" "Z" : Cond) ∈ sdB0 := sd_tb1 59 rfl rfl
abbrev y_S_isNothing : MethodName := ⟨"SettingsDesk$Settings", "isNothing", "(IILSettingsDesk$Leaf;)Z"⟩
theorem d_S_isNothing_0 : decode prog_9_method_18_code 0 = .ok (.aload_n 0, 1) := by decide +kernel
theorem d_S_isNothing_1 : decode prog_9_method_18_code 1 = .ok (.iload_n 1, 1) := by decide +kernel
theorem d_S_isNothing_2 : decode prog_9_method_18_code 2 = .ok (.iload_n 2, 1) := by decide +kernel
theorem d_S_isNothing_3 : decode prog_9_method_18_code 3 = .ok (.invokevirtual 59, 3) := by decide +kernel
theorem d_S_isNothing_6 : decode prog_9_method_18_code 6 = .ok (.ifCond .ne (14), 3) := by decide +kernel
theorem d_S_isNothing_9 : decode prog_9_method_18_code 9 = .ok (.aload_n 3, 1) := by decide +kernel
theorem d_S_isNothing_10 : decode prog_9_method_18_code 10 = .ok (.getfield 70, 3) := by decide +kernel
theorem d_S_isNothing_13 : decode prog_9_method_18_code 13 = .ok (.ifCond .ne (7), 3) := by decide +kernel
theorem d_S_isNothing_16 : decode prog_9_method_18_code 16 = .ok (.iconst 1, 1) := by decide +kernel
theorem d_S_isNothing_17 : decode prog_9_method_18_code 17 = .ok (.goto (4), 3) := by decide +kernel
theorem d_S_isNothing_20 : decode prog_9_method_18_code 20 = .ok (.iconst 0, 1) := by decide +kernel
theorem d_S_isNothing_21 : decode prog_9_method_18_code 21 = .ok (.ireturn, 1) := by decide +kernel
def Y_S_isNothing : sdY := ("SettingsDesk$Settings", prog_9_method_18_code, 4, (some .boolean), .code y_S_isNothing prog_9_method_18_code 4 (some .boolean) :: sdB0, { frames := 1, cells := 0, slots := 0, locals := 22 }, 0, 0)
theorem cw_S_isNothing_S_isGiven_59 : sd_cwV Y_S_isNothing Y_S_isGiven y_S_isGiven 59 2 "SettingsDesk$Settings" := ⟨sd_goodV q3 q5 q6 q7 q4, ⟨_, rfl⟩, ⟨rfl, rfl, rfl, rfl⟩, ⟨rfl, by decide, by decide, by decide +kernel⟩, ⟨by decide, by decide⟩⟩
section
variable {l : Launch} {D : va_G} {dA : Nat → ClassId} {b n : Nat} {ad : Nat → Nat} {L : Nat → sdL} {sc : Option (Nat × Nat × (Nat → Int32))}
def k_S_isNothing_21 (o : Nat) (Q : Int32 → sdM → Prop) (M : sdM) (s0 : Int32) : Prop := sdB s0 ∧ Q s0 M
set_option maxHeartbeats 1000000 in
theorem t_S_isNothing_21 {o : Nat} (hA : sd_ad b n ad) (hT : l.stackTraces = false) (ho : isS n L dA o) {Q : Int32 → sdM → Prop} (M : sdM) (s0 : Int32) (hw : k_S_isNothing_21 o Q M s0) : sdW l (sdE0 sc) Y_S_isNothing D (sd_tys dA) b n ad L ad (sd_H D (sdE0 sc).1 n ad L) (sd_qi Q) sd_xf 21 [] [.int s0] M 0 0 := by
  unfold k_S_isNothing_21 at hw
  exact x_zret d_S_isNothing_21 rfl (sdB_n hw.1) (fun _ h => h) ⟨_, rfl, hw.2⟩
def k_S_isNothing_20 (o : Nat) (Q : Int32 → sdM → Prop) (M : sdM) : Prop := k_S_isNothing_21 o Q M (0 : Int32)
set_option maxHeartbeats 1000000 in
theorem t_S_isNothing_20 {o : Nat} (hA : sd_ad b n ad) (hT : l.stackTraces = false) (ho : isS n L dA o) {Q : Int32 → sdM → Prop} (M : sdM) (hw : k_S_isNothing_20 o Q M ) : sdW l (sdE0 sc) Y_S_isNothing D (sd_tys dA) b n ad L ad (sd_H D (sdE0 sc).1 n ad L) (sd_qi Q) sd_xf 20 [] [] M 0 0 := by
  unfold k_S_isNothing_20 at hw
  refine x_iconst (v := 0) d_S_isNothing_20 (by decide) ?_
  exact t_S_isNothing_21 hA hT ho M (0 : Int32) hw
def w_S_isNothing (o : Nat) (M : sdM) (a1 : Int32) (a2 : Int32) (p3 : Nat) (Q : Int32 → sdM → Prop) : Prop := w_S_isGiven o M a1 a2 (fun r4 M3 => (¬ r4 = 0 → k_S_isNothing_20 o Q M3) ∧ (r4 = 0 → (¬ (M3 p3 5) = 0 → k_S_isNothing_20 o Q M3) ∧ ((M3 p3 5) = 0 → k_S_isNothing_21 o Q M3 (1 : Int32))))
set_option maxHeartbeats 1000000 in
theorem c_S_isNothing {a1 : Int32} {a2 : Int32} {p3 : Nat} {o : Nat} (hA : sd_ad b n ad) (hT : l.stackTraces = false) (ho : isS n L dA o) (hp3 : isF n L p3) {Q : Int32 → sdM → Prop} {M : sdM} (hw : w_S_isNothing o M a1 a2 p3 Q) : sd_Cn l (sdE0 sc) y_S_isNothing Y_S_isNothing.2.2.2.2.1 Y_S_isNothing.2.2.2.2.2.1 0 0 D (sd_tys dA) b n ad L M [.ref o, .int a1, .int a2, .ref p3] (sd_qi Q) sd_xf := by
  refine sd_enter (Y := Y_S_isNothing) rfl rfl rfl (Nat.le_of_ble_eq_true rfl) ?_
  show sdW l (sdE0 sc) Y_S_isNothing D (sd_tys dA) b n ad L ad (sd_H D (sdE0 sc).1 n ad L) (sd_qi Q) sd_xf 0 [(0, .ref o), (1, .int a1), (2, .int a2), (3, .ref p3)] [] M 0 0
  unfold w_S_isNothing at hw
  refine x_aload_n 0 0 d_S_isNothing_0 rfl rfl ?_
  refine x_iload_n 1 1 d_S_isNothing_1 rfl rfl ?_
  refine x_iload_n 2 2 d_S_isNothing_2 rfl rfl ?_
  refine x_callVi (As := [.int a1, .int a2]) (t := o) (rest := []) (rc := 0) (rs := 0) (c_S_isGiven hA hT ho hw) cw_S_isNothing_S_isGiven_59 ho.1 ho.2.1 rfl d_S_isNothing_3 rfl rfl (Nat.le_of_ble_eq_true rfl) (fun _ _ h => h.elim) (fun _ _ h => h) (fun r4 M3 hw => ?_)
  refine x_if_ne 20 d_S_isNothing_6 rfl (fun hc => ?_) (fun hc => ?_)
  · have hw := hw.1 hc
    refine x_sub [] [] rfl ?_
    exact t_S_isNothing_20 hA hT ho M3 hw
  · have hw := hw.2 hc
    refine x_aload_n 3 3 d_S_isNothing_9 rfl rfl ?_
    refine x_geti 5 d_S_isNothing_10 hp3.1 hp3.2 rfl rfl (by decide) lay_F (List.mem_cons_of_mem _ q37) rfl ?_
    refine x_if_ne 20 d_S_isNothing_13 rfl (fun hc => ?_) (fun hc => ?_)
    · have hw := hw.1 hc
      refine x_sub [] [] rfl ?_
      exact t_S_isNothing_20 hA hT ho M3 hw
    · have hw := hw.2 hc
      refine x_iconst (v := 1) d_S_isNothing_16 (by decide) ?_
      refine x_goto 21 d_S_isNothing_17 rfl ?_
      refine x_sub [] [] rfl ?_
      exact t_S_isNothing_21 hA hT ho M3 (1 : Int32) hw
end
abbrev y_S_rowOf : MethodName := ⟨"SettingsDesk$Settings", "rowOf", "(II)I"⟩
theorem d_S_rowOf_0 : decode prog_9_method_6_code 0 = .ok (.aload_n 0, 1) := by decide +kernel
theorem d_S_rowOf_1 : decode prog_9_method_6_code 1 = .ok (.iload_n 1, 1) := by decide +kernel
theorem d_S_rowOf_2 : decode prog_9_method_6_code 2 = .ok (.invokevirtual 36, 3) := by decide +kernel
theorem d_S_rowOf_5 : decode prog_9_method_6_code 5 = .ok (.istore_n 3, 1) := by decide +kernel
theorem d_S_rowOf_6 : decode prog_9_method_6_code 6 = .ok (.iload_n 3, 1) := by decide +kernel
theorem d_S_rowOf_7 : decode prog_9_method_6_code 7 = .ok (.aload_n 0, 1) := by decide +kernel
theorem d_S_rowOf_8 : decode prog_9_method_6_code 8 = .ok (.iload_n 1, 1) := by decide +kernel
theorem d_S_rowOf_9 : decode prog_9_method_6_code 9 = .ok (.invokevirtual 40, 3) := by decide +kernel
theorem d_S_rowOf_12 : decode prog_9_method_6_code 12 = .ok (.if_icmp .ge (21), 3) := by decide +kernel
theorem d_S_rowOf_15 : decode prog_9_method_6_code 15 = .ok (.aload_n 0, 1) := by decide +kernel
theorem d_S_rowOf_16 : decode prog_9_method_6_code 16 = .ok (.getfield 15, 3) := by decide +kernel
theorem d_S_rowOf_19 : decode prog_9_method_6_code 19 = .ok (.iload_n 3, 1) := by decide +kernel
theorem d_S_rowOf_20 : decode prog_9_method_6_code 20 = .ok (.iaload, 1) := by decide +kernel
theorem d_S_rowOf_21 : decode prog_9_method_6_code 21 = .ok (.iload_n 2, 1) := by decide +kernel
theorem d_S_rowOf_22 : decode prog_9_method_6_code 22 = .ok (.if_icmp .ne (5), 3) := by decide +kernel
theorem d_S_rowOf_25 : decode prog_9_method_6_code 25 = .ok (.iload_n 3, 1) := by decide +kernel
theorem d_S_rowOf_26 : decode prog_9_method_6_code 26 = .ok (.ireturn, 1) := by decide +kernel
theorem d_S_rowOf_27 : decode prog_9_method_6_code 27 = .ok (.iinc 3 (1), 3) := by decide +kernel
theorem d_S_rowOf_30 : decode prog_9_method_6_code 30 = .ok (.goto (-24), 3) := by decide +kernel
theorem d_S_rowOf_33 : decode prog_9_method_6_code 33 = .ok (.iconst (-1), 1) := by decide +kernel
theorem d_S_rowOf_34 : decode prog_9_method_6_code 34 = .ok (.ireturn, 1) := by decide +kernel
def Y_S_rowOf : sdY := ("SettingsDesk$Settings", prog_9_method_6_code, 4, (some .int), .code y_S_rowOf prog_9_method_6_code 4 (some .int) :: sdB0, { frames := 1, cells := 0, slots := 0, locals := 21 }, 0, 0)
theorem cw_S_rowOf_S_firstRow_36 : sd_cwV Y_S_rowOf Y_S_firstRow y_S_firstRow 36 1 "SettingsDesk$Settings" := ⟨sd_goodV q17 q19 q20 q7 q18, ⟨_, rfl⟩, ⟨rfl, rfl, rfl, rfl⟩, ⟨rfl, by decide, by decide, by decide +kernel⟩, ⟨by decide, by decide⟩⟩
theorem cw_S_rowOf_S_endRow_40 : sd_cwV Y_S_rowOf Y_S_endRow y_S_endRow 40 1 "SettingsDesk$Settings" := ⟨sd_goodV q21 q23 q24 q7 q22, ⟨_, rfl⟩, ⟨rfl, rfl, rfl, rfl⟩, ⟨rfl, by decide, by decide, by decide +kernel⟩, ⟨by decide, by decide⟩⟩
section
variable {l : Launch} {D : va_G} {dA : Nat → ClassId} {b n : Nat} {ad : Nat → Nat} {L : Nat → sdL} {sc : Option (Nat × Nat × (Nat → Int32))}
def h_S_rowOf_6 (o : Nat) (Q : Int32 → sdM → Prop) : Nat → sdM → Int32 → Int32 → Int32 → Prop
  | 0, _, _, _, _ => False
  | N + 1, M, x1, x2, x3 => w_S_endRow o M x1 (fun r7 M6 => (r7 ≤ x3 → Q (-1 : Int32) M6) ∧ (¬ r7 ≤ x3 → vp_in x3 48 ∧ (¬ (M6 (o + 2) x3.toNatClampNeg) = x2 → h_S_rowOf_6 o Q N M6 x1 x2 (x3 + 1)) ∧ ((M6 (o + 2) x3.toNatClampNeg) = x2 → Q x3 M6)))
set_option maxHeartbeats 1000000 in
theorem t_S_rowOf_6 {o : Nat} (hA : sd_ad b n ad) (hT : l.stackTraces = false) (ho : isS n L dA o) {Q : Int32 → sdM → Prop} (N : Nat) : ∀ (M : sdM) (x1 : Int32) (x2 : Int32) (x3 : Int32), h_S_rowOf_6 o Q N M x1 x2 x3 → sdW l (sdE0 sc) Y_S_rowOf D (sd_tys dA) b n ad L ad (sd_H D (sdE0 sc).1 n ad L) (sd_qi Q) sd_xf 6 [(0, .ref o), (1, .int x1), (2, .int x2), (3, .int x3)] [] M 0 0 := by
  induction N with
  | zero => intro M x1 x2 x3 hw; exact hw.elim
  | succ N ih =>
    intro M x1 x2 x3 hw
    rw [h_S_rowOf_6] at hw
    refine x_iload_n 3 3 d_S_rowOf_6 rfl rfl ?_
    refine x_aload_n 0 0 d_S_rowOf_7 rfl rfl ?_
    refine x_iload_n 1 1 d_S_rowOf_8 rfl rfl ?_
    refine x_callVi (As := [.int x1]) (t := o) (rest := [.int x3]) (rc := 0) (rs := 0) (c_S_endRow hA hT ho hw) cw_S_rowOf_S_endRow_40 ho.1 ho.2.1 rfl d_S_rowOf_9 rfl rfl (Nat.le_of_ble_eq_true rfl) (fun _ _ h => h.elim) (fun _ _ h => h) (fun r7 M6 hw => ?_)
    refine x_icmp_ge 33 d_S_rowOf_12 rfl (fun hc => ?_) (fun hc => ?_)
    · have hw := hw.1 hc
      refine x_iconst (v := (-1)) d_S_rowOf_33 (by decide) ?_
      exact x_iret d_S_rowOf_34 rfl (fun _ h => h) ⟨_, rfl, hw⟩
    · have hw := hw.2 hc
      refine x_aload_n 0 0 d_S_rowOf_15 rfl rfl ?_
      refine x_getr 1 (o + 2) d_S_rowOf_16 ho.1 ho.2.1 rfl rfl (by decide) lay_S (List.mem_cons_of_mem _ q16) rfl ?_
      refine x_iload_n 3 3 d_S_rowOf_19 rfl rfl ?_
      obtain ⟨hi8, hw⟩ := hw
      refine x_iald d_S_rowOf_20 ho.keys.1 ho.keys.2 rfl hi8 ?_
      refine x_iload_n 2 2 d_S_rowOf_21 rfl rfl ?_
      refine x_icmp_ne 27 d_S_rowOf_22 rfl (fun hc => ?_) (fun hc => ?_)
      · have hw := hw.1 hc
        refine x_iinc 3 3 [(3, .int (x3 + 1)), (0, .ref o), (1, .int x1), (2, .int x2)] d_S_rowOf_27 rfl (congrArg (HAdd.hAdd x3) (show Int32.ofInt 1 = 1 by decide)) (by decide) rfl ?_
        refine x_goto 6 d_S_rowOf_30 rfl ?_
        refine x_sub [1, 2, 3, 0] [(0, .ref o), (1, .int x1), (2, .int x2), (3, .int (x3 + 1))] rfl ?_
        exact ih M6 x1 x2 (x3 + 1) hw
      · have hw := hw.2 hc
        refine x_iload_n 3 3 d_S_rowOf_25 rfl rfl ?_
        exact x_iret d_S_rowOf_26 rfl (fun _ h => h) ⟨_, rfl, hw⟩
def w_S_rowOf (o : Nat) (M : sdM) (a1 : Int32) (a2 : Int32) (Q : Int32 → sdM → Prop) : Prop := w_S_firstRow o M a1 (fun r10 M9 => ∃ N9 : Nat, h_S_rowOf_6 o Q N9 M9 a1 a2 r10)
set_option maxHeartbeats 1000000 in
theorem c_S_rowOf {a1 : Int32} {a2 : Int32} {o : Nat} (hA : sd_ad b n ad) (hT : l.stackTraces = false) (ho : isS n L dA o) {Q : Int32 → sdM → Prop} {M : sdM} (hw : w_S_rowOf o M a1 a2 Q) : sd_Cn l (sdE0 sc) y_S_rowOf Y_S_rowOf.2.2.2.2.1 Y_S_rowOf.2.2.2.2.2.1 0 0 D (sd_tys dA) b n ad L M [.ref o, .int a1, .int a2] (sd_qi Q) sd_xf := by
  refine sd_enter (Y := Y_S_rowOf) rfl rfl rfl (Nat.le_of_ble_eq_true rfl) ?_
  show sdW l (sdE0 sc) Y_S_rowOf D (sd_tys dA) b n ad L ad (sd_H D (sdE0 sc).1 n ad L) (sd_qi Q) sd_xf 0 [(0, .ref o), (1, .int a1), (2, .int a2)] [] M 0 0
  unfold w_S_rowOf at hw
  refine x_aload_n 0 0 d_S_rowOf_0 rfl rfl ?_
  refine x_iload_n 1 1 d_S_rowOf_1 rfl rfl ?_
  refine x_callVi (As := [.int a1]) (t := o) (rest := []) (rc := 0) (rs := 0) (c_S_firstRow hA hT ho hw) cw_S_rowOf_S_firstRow_36 ho.1 ho.2.1 rfl d_S_rowOf_2 rfl rfl (Nat.le_of_ble_eq_true rfl) (fun _ _ h => h.elim) (fun _ _ h => h) (fun r10 M9 hw => ?_)
  refine x_istore_n 3 [(3, .int r10), (0, .ref o), (1, .int a1), (2, .int a2)] d_S_rowOf_5 rfl (by decide) rfl ?_
  refine x_sub [1, 2, 3, 0] [(0, .ref o), (1, .int a1), (2, .int a2), (3, .int r10)] rfl ?_
  obtain ⟨N9, hw⟩ := hw
  exact t_S_rowOf_6 hA hT ho N9 M9 a1 a2 r10 hw
end
theorem q38 : (.fieldLink "SettingsDesk$Settings" 76 "SettingsDesk$Leaf" "standardValue" "I" : Cond) ∈ sdB0 := sd_tb1 61 rfl rfl
abbrev y_S_whatIs : MethodName := ⟨"SettingsDesk$Settings", "whatIs", "(IILSettingsDesk$Leaf;)I"⟩
theorem d_S_whatIs_0 : decode prog_9_method_19_code 0 = .ok (.aload_n 0, 1) := by decide +kernel
theorem d_S_whatIs_1 : decode prog_9_method_19_code 1 = .ok (.iload_n 1, 1) := by decide +kernel
theorem d_S_whatIs_2 : decode prog_9_method_19_code 2 = .ok (.iload_n 2, 1) := by decide +kernel
theorem d_S_whatIs_3 : decode prog_9_method_19_code 3 = .ok (.invokevirtual 59, 3) := by decide +kernel
theorem d_S_whatIs_6 : decode prog_9_method_19_code 6 = .ok (.ifCond .eq (12), 3) := by decide +kernel
theorem d_S_whatIs_9 : decode prog_9_method_19_code 9 = .ok (.aload_n 0, 1) := by decide +kernel
theorem d_S_whatIs_10 : decode prog_9_method_19_code 10 = .ok (.iload_n 1, 1) := by decide +kernel
theorem d_S_whatIs_11 : decode prog_9_method_19_code 11 = .ok (.iload_n 2, 1) := by decide +kernel
theorem d_S_whatIs_12 : decode prog_9_method_19_code 12 = .ok (.invokevirtual 63, 3) := by decide +kernel
theorem d_S_whatIs_15 : decode prog_9_method_19_code 15 = .ok (.goto (7), 3) := by decide +kernel
theorem d_S_whatIs_18 : decode prog_9_method_19_code 18 = .ok (.aload_n 3, 1) := by decide +kernel
theorem d_S_whatIs_19 : decode prog_9_method_19_code 19 = .ok (.getfield 76, 3) := by decide +kernel
theorem d_S_whatIs_22 : decode prog_9_method_19_code 22 = .ok (.ireturn, 1) := by decide +kernel
def Y_S_whatIs : sdY := ("SettingsDesk$Settings", prog_9_method_19_code, 4, (some .int), .code y_S_whatIs prog_9_method_19_code 4 (some .int) :: sdB0, { frames := 1, cells := 0, slots := 0, locals := 22 }, 0, 0)
theorem cw_S_whatIs_S_isGiven_59 : sd_cwV Y_S_whatIs Y_S_isGiven y_S_isGiven 59 2 "SettingsDesk$Settings" := ⟨sd_goodV q3 q5 q6 q7 q4, ⟨_, rfl⟩, ⟨rfl, rfl, rfl, rfl⟩, ⟨rfl, by decide, by decide, by decide +kernel⟩, ⟨by decide, by decide⟩⟩
theorem cw_S_whatIs_S_valueAt_63 : sd_cwV Y_S_whatIs Y_S_valueAt y_S_valueAt 63 2 "SettingsDesk$Settings" := ⟨sd_goodV q8 q10 q11 q7 q9, ⟨_, rfl⟩, ⟨rfl, rfl, rfl, rfl⟩, ⟨rfl, by decide, by decide, by decide +kernel⟩, ⟨by decide, by decide⟩⟩
section
variable {l : Launch} {D : va_G} {dA : Nat → ClassId} {b n : Nat} {ad : Nat → Nat} {L : Nat → sdL} {sc : Option (Nat × Nat × (Nat → Int32))}
def k_S_whatIs_22 (o : Nat) (Q : Int32 → sdM → Prop) (M : sdM) (s0 : Int32) : Prop := Q s0 M
set_option maxHeartbeats 1000000 in
theorem t_S_whatIs_22 {o : Nat} (hA : sd_ad b n ad) (hT : l.stackTraces = false) (ho : isS n L dA o) {Q : Int32 → sdM → Prop} (M : sdM) (s0 : Int32) (hw : k_S_whatIs_22 o Q M s0) : sdW l (sdE0 sc) Y_S_whatIs D (sd_tys dA) b n ad L ad (sd_H D (sdE0 sc).1 n ad L) (sd_qi Q) sd_xf 22 [] [.int s0] M 0 0 := by
  unfold k_S_whatIs_22 at hw
  exact x_iret d_S_whatIs_22 rfl (fun _ h => h) ⟨_, rfl, hw⟩
def w_S_whatIs (o : Nat) (M : sdM) (a1 : Int32) (a2 : Int32) (p3 : Nat) (Q : Int32 → sdM → Prop) : Prop := w_S_isGiven o M a1 a2 (fun r6 M5 => (r6 = 0 → k_S_whatIs_22 o Q M5 (M5 p3 6)) ∧ (¬ r6 = 0 → w_S_valueAt o M5 a1 a2 (fun r8 M7 => k_S_whatIs_22 o Q M7 r8)))
set_option maxHeartbeats 1000000 in
theorem c_S_whatIs {a1 : Int32} {a2 : Int32} {p3 : Nat} {o : Nat} (hA : sd_ad b n ad) (hT : l.stackTraces = false) (ho : isS n L dA o) (hp3 : isF n L p3) {Q : Int32 → sdM → Prop} {M : sdM} (hw : w_S_whatIs o M a1 a2 p3 Q) : sd_Cn l (sdE0 sc) y_S_whatIs Y_S_whatIs.2.2.2.2.1 Y_S_whatIs.2.2.2.2.2.1 0 0 D (sd_tys dA) b n ad L M [.ref o, .int a1, .int a2, .ref p3] (sd_qi Q) sd_xf := by
  refine sd_enter (Y := Y_S_whatIs) rfl rfl rfl (Nat.le_of_ble_eq_true rfl) ?_
  show sdW l (sdE0 sc) Y_S_whatIs D (sd_tys dA) b n ad L ad (sd_H D (sdE0 sc).1 n ad L) (sd_qi Q) sd_xf 0 [(0, .ref o), (1, .int a1), (2, .int a2), (3, .ref p3)] [] M 0 0
  unfold w_S_whatIs at hw
  refine x_aload_n 0 0 d_S_whatIs_0 rfl rfl ?_
  refine x_iload_n 1 1 d_S_whatIs_1 rfl rfl ?_
  refine x_iload_n 2 2 d_S_whatIs_2 rfl rfl ?_
  refine x_callVi (As := [.int a1, .int a2]) (t := o) (rest := []) (rc := 0) (rs := 0) (c_S_isGiven hA hT ho hw) cw_S_whatIs_S_isGiven_59 ho.1 ho.2.1 rfl d_S_whatIs_3 rfl rfl (Nat.le_of_ble_eq_true rfl) (fun _ _ h => h.elim) (fun _ _ h => h) (fun r6 M5 hw => ?_)
  refine x_if_eq 18 d_S_whatIs_6 rfl (fun hc => ?_) (fun hc => ?_)
  · have hw := hw.1 hc
    refine x_aload_n 3 3 d_S_whatIs_18 rfl rfl ?_
    refine x_geti 6 d_S_whatIs_19 hp3.1 hp3.2 rfl rfl (by decide) lay_F (List.mem_cons_of_mem _ q38) rfl ?_
    refine x_sub [] [] rfl ?_
    exact t_S_whatIs_22 hA hT ho M5 (M5 p3 6) hw
  · have hw := hw.2 hc
    refine x_aload_n 0 0 d_S_whatIs_9 rfl rfl ?_
    refine x_iload_n 1 1 d_S_whatIs_10 rfl rfl ?_
    refine x_iload_n 2 2 d_S_whatIs_11 rfl rfl ?_
    refine x_callVi (As := [.int a1, .int a2]) (t := o) (rest := []) (rc := 0) (rs := 0) (c_S_valueAt hA hT ho hw) cw_S_whatIs_S_valueAt_63 ho.1 ho.2.1 rfl d_S_whatIs_12 rfl rfl (Nat.le_of_ble_eq_true rfl) (fun _ _ h => h.elim) (fun _ _ h => h) (fun r8 M7 hw => ?_)
    refine x_goto 22 d_S_whatIs_15 rfl ?_
    refine x_sub [] [] rfl ?_
    exact t_S_whatIs_22 hA hT ho M7 r8 hw
end
abbrev y_S_moveRow : MethodName := ⟨"SettingsDesk$Settings", "moveRow", "(II)V"⟩
theorem d_S_moveRow_0 : decode prog_9_method_12_code 0 = .ok (.aload_n 0, 1) := by decide +kernel
theorem d_S_moveRow_1 : decode prog_9_method_12_code 1 = .ok (.getfield 15, 3) := by decide +kernel
theorem d_S_moveRow_4 : decode prog_9_method_12_code 4 = .ok (.iload_n 2, 1) := by decide +kernel
theorem d_S_moveRow_5 : decode prog_9_method_12_code 5 = .ok (.aload_n 0, 1) := by decide +kernel
theorem d_S_moveRow_6 : decode prog_9_method_12_code 6 = .ok (.getfield 15, 3) := by decide +kernel
theorem d_S_moveRow_9 : decode prog_9_method_12_code 9 = .ok (.iload_n 1, 1) := by decide +kernel
theorem d_S_moveRow_10 : decode prog_9_method_12_code 10 = .ok (.iaload, 1) := by decide +kernel
theorem d_S_moveRow_11 : decode prog_9_method_12_code 11 = .ok (.iastore, 1) := by decide +kernel
theorem d_S_moveRow_12 : decode prog_9_method_12_code 12 = .ok (.aload_n 0, 1) := by decide +kernel
theorem d_S_moveRow_13 : decode prog_9_method_12_code 13 = .ok (.getfield 21, 3) := by decide +kernel
theorem d_S_moveRow_16 : decode prog_9_method_12_code 16 = .ok (.iload_n 2, 1) := by decide +kernel
theorem d_S_moveRow_17 : decode prog_9_method_12_code 17 = .ok (.aload_n 0, 1) := by decide +kernel
theorem d_S_moveRow_18 : decode prog_9_method_12_code 18 = .ok (.getfield 21, 3) := by decide +kernel
theorem d_S_moveRow_21 : decode prog_9_method_12_code 21 = .ok (.iload_n 1, 1) := by decide +kernel
theorem d_S_moveRow_22 : decode prog_9_method_12_code 22 = .ok (.iaload, 1) := by decide +kernel
theorem d_S_moveRow_23 : decode prog_9_method_12_code 23 = .ok (.iastore, 1) := by decide +kernel
theorem d_S_moveRow_24 : decode prog_9_method_12_code 24 = .ok (.aload_n 0, 1) := by decide +kernel
theorem d_S_moveRow_25 : decode prog_9_method_12_code 25 = .ok (.getfield 18, 3) := by decide +kernel
theorem d_S_moveRow_28 : decode prog_9_method_12_code 28 = .ok (.iload_n 1, 1) := by decide +kernel
theorem d_S_moveRow_29 : decode prog_9_method_12_code 29 = .ok (.iconst 4, 1) := by decide +kernel
theorem d_S_moveRow_30 : decode prog_9_method_12_code 30 = .ok (.imul, 1) := by decide +kernel
theorem d_S_moveRow_31 : decode prog_9_method_12_code 31 = .ok (.aload_n 0, 1) := by decide +kernel
theorem d_S_moveRow_32 : decode prog_9_method_12_code 32 = .ok (.getfield 18, 3) := by decide +kernel
theorem d_S_moveRow_35 : decode prog_9_method_12_code 35 = .ok (.iload_n 2, 1) := by decide +kernel
theorem d_S_moveRow_36 : decode prog_9_method_12_code 36 = .ok (.iconst 4, 1) := by decide +kernel
theorem d_S_moveRow_37 : decode prog_9_method_12_code 37 = .ok (.imul, 1) := by decide +kernel
theorem d_S_moveRow_38 : decode prog_9_method_12_code 38 = .ok (.iconst 4, 1) := by decide +kernel
theorem d_S_moveRow_39 : decode prog_9_method_12_code 39 = .ok (.invokestatic 24, 3) := by decide +kernel
theorem d_S_moveRow_42 : decode prog_9_method_12_code 42 = .ok (.return_, 1) := by decide +kernel
def Y_S_moveRow : sdY := ("SettingsDesk$Settings", prog_9_method_12_code, 3, none, .code y_S_moveRow prog_9_method_12_code 3 none :: sdB0, { frames := 1, cells := 0, slots := 0, locals := 18 }, 0, 0)
section
variable {l : Launch} {D : va_G} {dA : Nat → ClassId} {b n : Nat} {ad : Nat → Nat} {L : Nat → sdL} {sc : Option (Nat × Nat × (Nat → Int32))}
def w_S_moveRow (o : Nat) (M : sdM) (a1 : Int32) (a2 : Int32) (Q : sdM → Prop) : Prop := vp_in a1 48 ∧ vp_in a2 48 ∧ ∀ M14 : sdM, M14 = sd_s M (o + 2) a2.toNatClampNeg (M (o + 2) a1.toNatClampNeg) → vp_in a1 48 ∧ vp_in a2 48 ∧ ∀ M18 : sdM, M18 = sd_s M14 (o + 4) a2.toNatClampNeg (M14 (o + 4) a1.toNatClampNeg) → (¬ (a1 * (4 : Int32)) < 0 ∧ ¬ (a2 * (4 : Int32)) < 0 ∧ ¬ (4 : Int32) < 0 ∧ (a1 * (4 : Int32)).toNatClampNeg + (4 : Int32).toNatClampNeg ≤ 192 ∧ (a2 * (4 : Int32)).toNatClampNeg + (4 : Int32).toNatClampNeg ≤ 192) ∧ ∀ M21 : sdM, M21 = va_up M18 (o + 3) (va_cpy (M18 (o + 3)) (M18 (o + 3)) (a1 * (4 : Int32)).toNatClampNeg (a2 * (4 : Int32)).toNatClampNeg (4 : Int32).toNatClampNeg) → Q M21
set_option maxHeartbeats 1000000 in
theorem c_S_moveRow {a1 : Int32} {a2 : Int32} {o : Nat} (hA : sd_ad b n ad) (hT : l.stackTraces = false) (ho : isS n L dA o) {Q : sdM → Prop} {M : sdM} (hw : w_S_moveRow o M a1 a2 Q) : sd_Cn l (sdE0 sc) y_S_moveRow Y_S_moveRow.2.2.2.2.1 Y_S_moveRow.2.2.2.2.2.1 0 0 D (sd_tys dA) b n ad L M [.ref o, .int a1, .int a2] (sd_qv Q) sd_xf := by
  refine sd_enter (Y := Y_S_moveRow) rfl rfl rfl (Nat.le_of_ble_eq_true rfl) ?_
  show sdW l (sdE0 sc) Y_S_moveRow D (sd_tys dA) b n ad L ad (sd_H D (sdE0 sc).1 n ad L) (sd_qv Q) sd_xf 0 [(0, .ref o), (1, .int a1), (2, .int a2)] [] M 0 0
  unfold w_S_moveRow at hw
  refine x_aload_n 0 0 d_S_moveRow_0 rfl rfl ?_
  refine x_getr 1 (o + 2) d_S_moveRow_1 ho.1 ho.2.1 rfl rfl (by decide) lay_S (List.mem_cons_of_mem _ q16) rfl ?_
  refine x_iload_n 2 2 d_S_moveRow_4 rfl rfl ?_
  refine x_aload_n 0 0 d_S_moveRow_5 rfl rfl ?_
  refine x_getr 1 (o + 2) d_S_moveRow_6 ho.1 ho.2.1 rfl rfl (by decide) lay_S (List.mem_cons_of_mem _ q16) rfl ?_
  refine x_iload_n 1 1 d_S_moveRow_9 rfl rfl ?_
  obtain ⟨hi12, hw⟩ := hw
  refine x_iald d_S_moveRow_10 ho.keys.1 ho.keys.2 rfl hi12 ?_
  obtain ⟨hi13, hw⟩ := hw
  refine x_iast hA d_S_moveRow_11 ho.keys.1 ho.keys.2 rfl hi13 (fun M14 e15 => ?_)
  have hw := hw M14 e15
  clear e15
  refine x_aload_n 0 0 d_S_moveRow_12 rfl rfl ?_
  refine x_getr 3 (o + 4) d_S_moveRow_13 ho.1 ho.2.1 rfl rfl (by decide) lay_S (List.mem_cons_of_mem _ q1) rfl ?_
  refine x_iload_n 2 2 d_S_moveRow_16 rfl rfl ?_
  refine x_aload_n 0 0 d_S_moveRow_17 rfl rfl ?_
  refine x_getr 3 (o + 4) d_S_moveRow_18 ho.1 ho.2.1 rfl rfl (by decide) lay_S (List.mem_cons_of_mem _ q1) rfl ?_
  refine x_iload_n 1 1 d_S_moveRow_21 rfl rfl ?_
  obtain ⟨hi16, hw⟩ := hw
  refine x_iald d_S_moveRow_22 ho.given.1 ho.given.2 rfl hi16 ?_
  obtain ⟨hi17, hw⟩ := hw
  refine x_iast hA d_S_moveRow_23 ho.given.1 ho.given.2 rfl hi17 (fun M18 e19 => ?_)
  have hw := hw M18 e19
  clear e19
  refine x_aload_n 0 0 d_S_moveRow_24 rfl rfl ?_
  refine x_getr 2 (o + 3) d_S_moveRow_25 ho.1 ho.2.1 rfl rfl (by decide) lay_S (List.mem_cons_of_mem _ q2) rfl ?_
  refine x_iload_n 1 1 d_S_moveRow_28 rfl rfl ?_
  refine x_iconst (v := 4) d_S_moveRow_29 (by decide) ?_
  refine x_imul d_S_moveRow_30 ?_
  refine x_aload_n 0 0 d_S_moveRow_31 rfl rfl ?_
  refine x_getr 2 (o + 3) d_S_moveRow_32 ho.1 ho.2.1 rfl rfl (by decide) lay_S (List.mem_cons_of_mem _ q2) rfl ?_
  refine x_iload_n 2 2 d_S_moveRow_35 rfl rfl ?_
  refine x_iconst (v := 4) d_S_moveRow_36 (by decide) ?_
  refine x_imul d_S_moveRow_37 ?_
  refine x_iconst (v := 4) d_S_moveRow_38 (by decide) ?_
  obtain ⟨hi20, hw⟩ := hw
  refine x_copyi hA d_S_moveRow_39 (List.mem_cons_of_mem _ q33) (List.mem_cons_of_mem _ q34) (List.mem_cons_of_mem _ q35) (List.mem_cons_of_mem _ q36) ho.values.1 ho.values.2 ho.values.1 ho.values.2 rfl hi20 (Nat.le_of_ble_eq_true rfl) (Nat.le_of_ble_eq_true rfl) (fun M21 e22 => ?_)
  have hw := hw M21 e22
  clear e22
  exact x_vret d_S_moveRow_42 rfl (fun _ h => h) ⟨rfl, hw⟩
end
theorem q39 : (.methodLink "SettingsDesk$Settings" 52 ⟨"SettingsDesk$Settings", "moveRow", "(II)V"⟩ : Cond) ∈ sdB0 := sd_tb3 126 rfl rfl
theorem q40 : (.code ⟨"SettingsDesk$Settings", "moveRow", "(II)V"⟩ prog_9_method_12_code 3 none : Cond) ∈ sdB0 := sd_tb3 129 rfl rfl
theorem q41 : (.instanceMethod ⟨"SettingsDesk$Settings", "moveRow", "(II)V"⟩ : Cond) ∈ sdB0 := sd_tb3 127 rfl rfl
theorem q42 : (.selects "SettingsDesk$Settings" ⟨"SettingsDesk$Settings", "moveRow", "(II)V"⟩ ⟨"SettingsDesk$Settings", "moveRow", "(II)V"⟩ : Cond) ∈ sdB0 := sd_tb3 128 rfl rfl
abbrev y_S_removeEntry : MethodName := ⟨"SettingsDesk$Settings", "removeEntry", "(II)V"⟩
theorem d_S_removeEntry_0 : decode prog_9_method_11_code 0 = .ok (.iload_n 2, 1) := by decide +kernel
theorem d_S_removeEntry_1 : decode prog_9_method_11_code 1 = .ok (.iconst 1, 1) := by decide +kernel
theorem d_S_removeEntry_2 : decode prog_9_method_11_code 2 = .ok (.iadd, 1) := by decide +kernel
theorem d_S_removeEntry_3 : decode prog_9_method_11_code 3 = .ok (.istore_n 3, 1) := by decide +kernel
theorem d_S_removeEntry_4 : decode prog_9_method_11_code 4 = .ok (.iload_n 3, 1) := by decide +kernel
theorem d_S_removeEntry_5 : decode prog_9_method_11_code 5 = .ok (.aload_n 0, 1) := by decide +kernel
theorem d_S_removeEntry_6 : decode prog_9_method_11_code 6 = .ok (.iload_n 1, 1) := by decide +kernel
theorem d_S_removeEntry_7 : decode prog_9_method_11_code 7 = .ok (.invokevirtual 40, 3) := by decide +kernel
theorem d_S_removeEntry_10 : decode prog_9_method_11_code 10 = .ok (.if_icmp .ge (17), 3) := by decide +kernel
theorem d_S_removeEntry_13 : decode prog_9_method_11_code 13 = .ok (.aload_n 0, 1) := by decide +kernel
theorem d_S_removeEntry_14 : decode prog_9_method_11_code 14 = .ok (.iload_n 3, 1) := by decide +kernel
theorem d_S_removeEntry_15 : decode prog_9_method_11_code 15 = .ok (.iload_n 3, 1) := by decide +kernel
theorem d_S_removeEntry_16 : decode prog_9_method_11_code 16 = .ok (.iconst 1, 1) := by decide +kernel
theorem d_S_removeEntry_17 : decode prog_9_method_11_code 17 = .ok (.isub, 1) := by decide +kernel
theorem d_S_removeEntry_18 : decode prog_9_method_11_code 18 = .ok (.invokevirtual 52, 3) := by decide +kernel
theorem d_S_removeEntry_21 : decode prog_9_method_11_code 21 = .ok (.iinc 3 (1), 3) := by decide +kernel
theorem d_S_removeEntry_24 : decode prog_9_method_11_code 24 = .ok (.goto (-20), 3) := by decide +kernel
theorem d_S_removeEntry_27 : decode prog_9_method_11_code 27 = .ok (.aload_n 0, 1) := by decide +kernel
theorem d_S_removeEntry_28 : decode prog_9_method_11_code 28 = .ok (.getfield 9, 3) := by decide +kernel
theorem d_S_removeEntry_31 : decode prog_9_method_11_code 31 = .ok (.iload_n 1, 1) := by decide +kernel
theorem d_S_removeEntry_32 : decode prog_9_method_11_code 32 = .ok (.dup2, 1) := by decide +kernel
theorem d_S_removeEntry_33 : decode prog_9_method_11_code 33 = .ok (.iaload, 1) := by decide +kernel
theorem d_S_removeEntry_34 : decode prog_9_method_11_code 34 = .ok (.iconst 1, 1) := by decide +kernel
theorem d_S_removeEntry_35 : decode prog_9_method_11_code 35 = .ok (.isub, 1) := by decide +kernel
theorem d_S_removeEntry_36 : decode prog_9_method_11_code 36 = .ok (.iastore, 1) := by decide +kernel
theorem d_S_removeEntry_37 : decode prog_9_method_11_code 37 = .ok (.return_, 1) := by decide +kernel
def Y_S_removeEntry : sdY := ("SettingsDesk$Settings", prog_9_method_11_code, 4, none, .code y_S_removeEntry prog_9_method_11_code 4 none :: sdB0, { frames := 2, cells := 0, slots := 0, locals := 40 }, 0, 0)
theorem cw_S_removeEntry_S_endRow_40 : sd_cwV Y_S_removeEntry Y_S_endRow y_S_endRow 40 1 "SettingsDesk$Settings" := ⟨sd_goodV q21 q23 q24 q7 q22, ⟨_, rfl⟩, ⟨rfl, rfl, rfl, rfl⟩, ⟨rfl, by decide, by decide, by decide +kernel⟩, ⟨by decide, by decide⟩⟩
theorem cw_S_removeEntry_S_moveRow_52 : sd_cwV Y_S_removeEntry Y_S_moveRow y_S_moveRow 52 2 "SettingsDesk$Settings" := ⟨sd_goodV q39 q41 q42 q7 q40, ⟨_, rfl⟩, ⟨rfl, rfl, rfl, rfl⟩, ⟨rfl, by decide, by decide, by decide +kernel⟩, ⟨by decide, by decide⟩⟩
section
variable {l : Launch} {D : va_G} {dA : Nat → ClassId} {b n : Nat} {ad : Nat → Nat} {L : Nat → sdL} {sc : Option (Nat × Nat × (Nat → Int32))}
def h_S_removeEntry_4 (o : Nat) (Q : sdM → Prop) : Nat → sdM → Int32 → Int32 → Prop
  | 0, _, _, _ => False
  | N + 1, M, x1, x3 => w_S_endRow o M x1 (fun r9 M8 => (r9 ≤ x3 → vp_in x1 4 ∧ vp_in x1 4 ∧ ∀ M12 : sdM, M12 = sd_s M8 (o + 1) x1.toNatClampNeg ((M8 (o + 1) x1.toNatClampNeg) - (1 : Int32)) → Q M12) ∧ (¬ r9 ≤ x3 → w_S_moveRow o M8 x3 (x3 - (1 : Int32)) (fun M14 => h_S_removeEntry_4 o Q N M14 x1 (x3 + 1))))
set_option maxHeartbeats 1000000 in
theorem t_S_removeEntry_4 {o : Nat} (hA : sd_ad b n ad) (hT : l.stackTraces = false) (ho : isS n L dA o) {Q : sdM → Prop} (N : Nat) : ∀ (M : sdM) (x1 : Int32) (x3 : Int32), h_S_removeEntry_4 o Q N M x1 x3 → sdW l (sdE0 sc) Y_S_removeEntry D (sd_tys dA) b n ad L ad (sd_H D (sdE0 sc).1 n ad L) (sd_qv Q) sd_xf 4 [(0, .ref o), (1, .int x1), (3, .int x3)] [] M 0 0 := by
  induction N with
  | zero => intro M x1 x3 hw; exact hw.elim
  | succ N ih =>
    intro M x1 x3 hw
    rw [h_S_removeEntry_4] at hw
    refine x_iload_n 3 2 d_S_removeEntry_4 rfl rfl ?_
    refine x_aload_n 0 0 d_S_removeEntry_5 rfl rfl ?_
    refine x_iload_n 1 1 d_S_removeEntry_6 rfl rfl ?_
    refine x_callVi (As := [.int x1]) (t := o) (rest := [.int x3]) (rc := 0) (rs := 0) (c_S_endRow hA hT ho hw) cw_S_removeEntry_S_endRow_40 ho.1 ho.2.1 rfl d_S_removeEntry_7 rfl rfl (Nat.le_of_ble_eq_true rfl) (fun _ _ h => h.elim) (fun _ _ h => h) (fun r9 M8 hw => ?_)
    refine x_icmp_ge 27 d_S_removeEntry_10 rfl (fun hc => ?_) (fun hc => ?_)
    · have hw := hw.1 hc
      refine x_aload_n 0 0 d_S_removeEntry_27 rfl rfl ?_
      refine x_getr 0 (o + 1) d_S_removeEntry_28 ho.1 ho.2.1 rfl rfl (by decide) lay_S (List.mem_cons_of_mem _ q0) rfl ?_
      refine x_iload_n 1 1 d_S_removeEntry_31 rfl rfl ?_
      refine x_dup2 d_S_removeEntry_32 rfl rfl ?_
      obtain ⟨hi10, hw⟩ := hw
      refine x_iald d_S_removeEntry_33 ho.counts.1 ho.counts.2 rfl hi10 ?_
      refine x_iconst (v := 1) d_S_removeEntry_34 (by decide) ?_
      refine x_isub d_S_removeEntry_35 ?_
      obtain ⟨hi11, hw⟩ := hw
      refine x_iast hA d_S_removeEntry_36 ho.counts.1 ho.counts.2 rfl hi11 (fun M12 e13 => ?_)
      have hw := hw M12 e13
      clear e13
      exact x_vret d_S_removeEntry_37 rfl (fun _ h => h) ⟨rfl, hw⟩
    · have hw := hw.2 hc
      refine x_aload_n 0 0 d_S_removeEntry_13 rfl rfl ?_
      refine x_iload_n 3 2 d_S_removeEntry_14 rfl rfl ?_
      refine x_iload_n 3 2 d_S_removeEntry_15 rfl rfl ?_
      refine x_iconst (v := 1) d_S_removeEntry_16 (by decide) ?_
      refine x_isub d_S_removeEntry_17 ?_
      refine x_callVv (As := [.int x3, .int (x3 - (1 : Int32))]) (t := o) (rest := []) (rc := 0) (rs := 0) (c_S_moveRow hA hT ho hw) cw_S_removeEntry_S_moveRow_52 ho.1 ho.2.1 rfl d_S_removeEntry_18 rfl rfl (Nat.le_of_ble_eq_true rfl) (fun _ _ h => h.elim) (fun _ _ h => h) (fun M14 hw => ?_)
      refine x_iinc 3 2 [(3, .int (x3 + 1)), (0, .ref o), (1, .int x1)] d_S_removeEntry_21 rfl (congrArg (HAdd.hAdd x3) (show Int32.ofInt 1 = 1 by decide)) (by decide) rfl ?_
      refine x_goto 4 d_S_removeEntry_24 rfl ?_
      refine x_sub [1, 2, 0] [(0, .ref o), (1, .int x1), (3, .int (x3 + 1))] rfl ?_
      exact ih M14 x1 (x3 + 1) hw
def w_S_removeEntry (o : Nat) (M : sdM) (a1 : Int32) (a2 : Int32) (Q : sdM → Prop) : Prop := ∃ N9 : Nat, h_S_removeEntry_4 o Q N9 M a1 (a2 + (1 : Int32))
set_option maxHeartbeats 1000000 in
theorem c_S_removeEntry {a1 : Int32} {a2 : Int32} {o : Nat} (hA : sd_ad b n ad) (hT : l.stackTraces = false) (ho : isS n L dA o) {Q : sdM → Prop} {M : sdM} (hw : w_S_removeEntry o M a1 a2 Q) : sd_Cn l (sdE0 sc) y_S_removeEntry Y_S_removeEntry.2.2.2.2.1 Y_S_removeEntry.2.2.2.2.2.1 0 0 D (sd_tys dA) b n ad L M [.ref o, .int a1, .int a2] (sd_qv Q) sd_xf := by
  refine sd_enter (Y := Y_S_removeEntry) rfl rfl rfl (Nat.le_of_ble_eq_true rfl) ?_
  show sdW l (sdE0 sc) Y_S_removeEntry D (sd_tys dA) b n ad L ad (sd_H D (sdE0 sc).1 n ad L) (sd_qv Q) sd_xf 0 [(0, .ref o), (1, .int a1), (2, .int a2)] [] M 0 0
  unfold w_S_removeEntry at hw
  refine x_iload_n 2 2 d_S_removeEntry_0 rfl rfl ?_
  refine x_iconst (v := 1) d_S_removeEntry_1 (by decide) ?_
  refine x_iadd d_S_removeEntry_2 ?_
  refine x_istore_n 3 [(3, .int (a2 + (1 : Int32))), (0, .ref o), (1, .int a1), (2, .int a2)] d_S_removeEntry_3 rfl (by decide) rfl ?_
  refine x_sub [1, 2, 0] [(0, .ref o), (1, .int a1), (3, .int (a2 + (1 : Int32)))] rfl ?_
  obtain ⟨N9, hw⟩ := hw
  exact t_S_removeEntry_4 hA hT ho N9 M a1 (a2 + (1 : Int32)) hw
end
abbrev y_S_drop : MethodName := ⟨"SettingsDesk$Settings", "drop", "(II)V"⟩
theorem d_S_drop_0 : decode prog_9_method_15_code 0 = .ok (.aload_n 0, 1) := by decide +kernel
theorem d_S_drop_1 : decode prog_9_method_15_code 1 = .ok (.getfield 21, 3) := by decide +kernel
theorem d_S_drop_4 : decode prog_9_method_15_code 4 = .ok (.iload_n 1, 1) := by decide +kernel
theorem d_S_drop_5 : decode prog_9_method_15_code 5 = .ok (.dup2, 1) := by decide +kernel
theorem d_S_drop_6 : decode prog_9_method_15_code 6 = .ok (.iaload, 1) := by decide +kernel
theorem d_S_drop_7 : decode prog_9_method_15_code 7 = .ok (.iconst 1, 1) := by decide +kernel
theorem d_S_drop_8 : decode prog_9_method_15_code 8 = .ok (.iload_n 2, 1) := by decide +kernel
theorem d_S_drop_9 : decode prog_9_method_15_code 9 = .ok (.ishl, 1) := by decide +kernel
theorem d_S_drop_10 : decode prog_9_method_15_code 10 = .ok (.iconst (-1), 1) := by decide +kernel
theorem d_S_drop_11 : decode prog_9_method_15_code 11 = .ok (.ixor, 1) := by decide +kernel
theorem d_S_drop_12 : decode prog_9_method_15_code 12 = .ok (.iand, 1) := by decide +kernel
theorem d_S_drop_13 : decode prog_9_method_15_code 13 = .ok (.iastore, 1) := by decide +kernel
theorem d_S_drop_14 : decode prog_9_method_15_code 14 = .ok (.aload_n 0, 1) := by decide +kernel
theorem d_S_drop_15 : decode prog_9_method_15_code 15 = .ok (.getfield 18, 3) := by decide +kernel
theorem d_S_drop_18 : decode prog_9_method_15_code 18 = .ok (.iload_n 1, 1) := by decide +kernel
theorem d_S_drop_19 : decode prog_9_method_15_code 19 = .ok (.iconst 4, 1) := by decide +kernel
theorem d_S_drop_20 : decode prog_9_method_15_code 20 = .ok (.imul, 1) := by decide +kernel
theorem d_S_drop_21 : decode prog_9_method_15_code 21 = .ok (.iload_n 2, 1) := by decide +kernel
theorem d_S_drop_22 : decode prog_9_method_15_code 22 = .ok (.iadd, 1) := by decide +kernel
theorem d_S_drop_23 : decode prog_9_method_15_code 23 = .ok (.iconst 0, 1) := by decide +kernel
theorem d_S_drop_24 : decode prog_9_method_15_code 24 = .ok (.iastore, 1) := by decide +kernel
theorem d_S_drop_25 : decode prog_9_method_15_code 25 = .ok (.return_, 1) := by decide +kernel
def Y_S_drop : sdY := ("SettingsDesk$Settings", prog_9_method_15_code, 3, none, .code y_S_drop prog_9_method_15_code 3 none :: sdB0, { frames := 0, cells := 0, slots := 0, locals := 0 }, 0, 0)
section
variable {l : Launch} {D : va_G} {dA : Nat → ClassId} {b n : Nat} {ad : Nat → Nat} {L : Nat → sdL} {sc : Option (Nat × Nat × (Nat → Int32))}
def w_S_drop (o : Nat) (M : sdM) (a1 : Int32) (a2 : Int32) (Q : sdM → Prop) : Prop := vp_in a1 48 ∧ vp_in a1 48 ∧ ∀ M10 : sdM, M10 = sd_s M (o + 4) a1.toNatClampNeg ((M (o + 4) a1.toNatClampNeg) &&& (((1 : Int32) <<< (a2 &&& 31)) ^^^ (-1 : Int32))) → vp_in ((a1 * (4 : Int32)) + a2) 192 ∧ ∀ M13 : sdM, M13 = sd_s M10 (o + 3) ((a1 * (4 : Int32)) + a2).toNatClampNeg (0 : Int32) → Q M13
set_option maxHeartbeats 1000000 in
theorem c_S_drop {a1 : Int32} {a2 : Int32} {o : Nat} (hA : sd_ad b n ad) (hT : l.stackTraces = false) (ho : isS n L dA o) {Q : sdM → Prop} {M : sdM} (hw : w_S_drop o M a1 a2 Q) : sd_Cn l (sdE0 sc) y_S_drop Y_S_drop.2.2.2.2.1 Y_S_drop.2.2.2.2.2.1 0 0 D (sd_tys dA) b n ad L M [.ref o, .int a1, .int a2] (sd_qv Q) sd_xf := by
  refine sd_enter (Y := Y_S_drop) rfl rfl rfl (Nat.le_of_ble_eq_true rfl) ?_
  show sdW l (sdE0 sc) Y_S_drop D (sd_tys dA) b n ad L ad (sd_H D (sdE0 sc).1 n ad L) (sd_qv Q) sd_xf 0 [(0, .ref o), (1, .int a1), (2, .int a2)] [] M 0 0
  unfold w_S_drop at hw
  refine x_aload_n 0 0 d_S_drop_0 rfl rfl ?_
  refine x_getr 3 (o + 4) d_S_drop_1 ho.1 ho.2.1 rfl rfl (by decide) lay_S (List.mem_cons_of_mem _ q1) rfl ?_
  refine x_iload_n 1 1 d_S_drop_4 rfl rfl ?_
  refine x_dup2 d_S_drop_5 rfl rfl ?_
  obtain ⟨hi8, hw⟩ := hw
  refine x_iald d_S_drop_6 ho.given.1 ho.given.2 rfl hi8 ?_
  refine x_iconst (v := 1) d_S_drop_7 (by decide) ?_
  refine x_iload_n 2 2 d_S_drop_8 rfl rfl ?_
  refine x_ishl d_S_drop_9 ?_
  refine x_iconst (v := (-1)) d_S_drop_10 (by decide) ?_
  refine x_ixor d_S_drop_11 ?_
  refine x_iand d_S_drop_12 ?_
  obtain ⟨hi9, hw⟩ := hw
  refine x_iast hA d_S_drop_13 ho.given.1 ho.given.2 rfl hi9 (fun M10 e11 => ?_)
  have hw := hw M10 e11
  clear e11
  refine x_aload_n 0 0 d_S_drop_14 rfl rfl ?_
  refine x_getr 2 (o + 3) d_S_drop_15 ho.1 ho.2.1 rfl rfl (by decide) lay_S (List.mem_cons_of_mem _ q2) rfl ?_
  refine x_iload_n 1 1 d_S_drop_18 rfl rfl ?_
  refine x_iconst (v := 4) d_S_drop_19 (by decide) ?_
  refine x_imul d_S_drop_20 ?_
  refine x_iload_n 2 2 d_S_drop_21 rfl rfl ?_
  refine x_iadd d_S_drop_22 ?_
  refine x_iconst (v := 0) d_S_drop_23 (by decide) ?_
  obtain ⟨hi12, hw⟩ := hw
  refine x_iast hA d_S_drop_24 ho.values.1 ho.values.2 rfl hi12 (fun M13 e14 => ?_)
  have hw := hw M13 e14
  clear e14
  exact x_vret d_S_drop_25 rfl (fun _ h => h) ⟨rfl, hw⟩
end
theorem q43 : (.methodLink "SettingsDesk$Settings" 56 ⟨"SettingsDesk$Settings", "drop", "(II)V"⟩ : Cond) ∈ sdB0 := sd_tb3 150 rfl rfl
theorem q44 : (.code ⟨"SettingsDesk$Settings", "drop", "(II)V"⟩ prog_9_method_15_code 3 none : Cond) ∈ sdB0 := sd_tb3 153 rfl rfl
theorem q45 : (.instanceMethod ⟨"SettingsDesk$Settings", "drop", "(II)V"⟩ : Cond) ∈ sdB0 := sd_tb3 151 rfl rfl
theorem q46 : (.selects "SettingsDesk$Settings" ⟨"SettingsDesk$Settings", "drop", "(II)V"⟩ ⟨"SettingsDesk$Settings", "drop", "(II)V"⟩ : Cond) ∈ sdB0 := sd_tb3 152 rfl rfl
abbrev y_S_addEntry : MethodName := ⟨"SettingsDesk$Settings", "addEntry", "(II)I"⟩
theorem d_S_addEntry_0 : decode prog_9_method_10_code 0 = .ok (.aload_n 0, 1) := by decide +kernel
theorem d_S_addEntry_1 : decode prog_9_method_10_code 1 = .ok (.iload_n 1, 1) := by decide +kernel
theorem d_S_addEntry_2 : decode prog_9_method_10_code 2 = .ok (.invokevirtual 40, 3) := by decide +kernel
theorem d_S_addEntry_5 : decode prog_9_method_10_code 5 = .ok (.istore_n 3, 1) := by decide +kernel
theorem d_S_addEntry_6 : decode prog_9_method_10_code 6 = .ok (.iload_n 3, 1) := by decide +kernel
theorem d_S_addEntry_7 : decode prog_9_method_10_code 7 = .ok (.aload_n 0, 1) := by decide +kernel
theorem d_S_addEntry_8 : decode prog_9_method_10_code 8 = .ok (.iload_n 1, 1) := by decide +kernel
theorem d_S_addEntry_9 : decode prog_9_method_10_code 9 = .ok (.invokevirtual 36, 3) := by decide +kernel
theorem d_S_addEntry_12 : decode prog_9_method_10_code 12 = .ok (.if_icmp .le (29), 3) := by decide +kernel
theorem d_S_addEntry_15 : decode prog_9_method_10_code 15 = .ok (.aload_n 0, 1) := by decide +kernel
theorem d_S_addEntry_16 : decode prog_9_method_10_code 16 = .ok (.getfield 15, 3) := by decide +kernel
theorem d_S_addEntry_19 : decode prog_9_method_10_code 19 = .ok (.iload_n 3, 1) := by decide +kernel
theorem d_S_addEntry_20 : decode prog_9_method_10_code 20 = .ok (.iconst 1, 1) := by decide +kernel
theorem d_S_addEntry_21 : decode prog_9_method_10_code 21 = .ok (.isub, 1) := by decide +kernel
theorem d_S_addEntry_22 : decode prog_9_method_10_code 22 = .ok (.iaload, 1) := by decide +kernel
theorem d_S_addEntry_23 : decode prog_9_method_10_code 23 = .ok (.iload_n 2, 1) := by decide +kernel
theorem d_S_addEntry_24 : decode prog_9_method_10_code 24 = .ok (.if_icmp .le (17), 3) := by decide +kernel
theorem d_S_addEntry_27 : decode prog_9_method_10_code 27 = .ok (.aload_n 0, 1) := by decide +kernel
theorem d_S_addEntry_28 : decode prog_9_method_10_code 28 = .ok (.iload_n 3, 1) := by decide +kernel
theorem d_S_addEntry_29 : decode prog_9_method_10_code 29 = .ok (.iconst 1, 1) := by decide +kernel
theorem d_S_addEntry_30 : decode prog_9_method_10_code 30 = .ok (.isub, 1) := by decide +kernel
theorem d_S_addEntry_31 : decode prog_9_method_10_code 31 = .ok (.iload_n 3, 1) := by decide +kernel
theorem d_S_addEntry_32 : decode prog_9_method_10_code 32 = .ok (.invokevirtual 52, 3) := by decide +kernel
theorem d_S_addEntry_35 : decode prog_9_method_10_code 35 = .ok (.iinc 3 (-1), 3) := by decide +kernel
theorem d_S_addEntry_38 : decode prog_9_method_10_code 38 = .ok (.goto (-32), 3) := by decide +kernel
theorem d_S_addEntry_41 : decode prog_9_method_10_code 41 = .ok (.aload_n 0, 1) := by decide +kernel
theorem d_S_addEntry_42 : decode prog_9_method_10_code 42 = .ok (.getfield 9, 3) := by decide +kernel
theorem d_S_addEntry_45 : decode prog_9_method_10_code 45 = .ok (.iload_n 1, 1) := by decide +kernel
theorem d_S_addEntry_46 : decode prog_9_method_10_code 46 = .ok (.dup2, 1) := by decide +kernel
theorem d_S_addEntry_47 : decode prog_9_method_10_code 47 = .ok (.iaload, 1) := by decide +kernel
theorem d_S_addEntry_48 : decode prog_9_method_10_code 48 = .ok (.iconst 1, 1) := by decide +kernel
theorem d_S_addEntry_49 : decode prog_9_method_10_code 49 = .ok (.iadd, 1) := by decide +kernel
theorem d_S_addEntry_50 : decode prog_9_method_10_code 50 = .ok (.iastore, 1) := by decide +kernel
theorem d_S_addEntry_51 : decode prog_9_method_10_code 51 = .ok (.aload_n 0, 1) := by decide +kernel
theorem d_S_addEntry_52 : decode prog_9_method_10_code 52 = .ok (.getfield 15, 3) := by decide +kernel
theorem d_S_addEntry_55 : decode prog_9_method_10_code 55 = .ok (.iload_n 3, 1) := by decide +kernel
theorem d_S_addEntry_56 : decode prog_9_method_10_code 56 = .ok (.iload_n 2, 1) := by decide +kernel
theorem d_S_addEntry_57 : decode prog_9_method_10_code 57 = .ok (.iastore, 1) := by decide +kernel
theorem d_S_addEntry_58 : decode prog_9_method_10_code 58 = .ok (.iconst 0, 1) := by decide +kernel
theorem d_S_addEntry_59 : decode prog_9_method_10_code 59 = .ok (.istore 4, 2) := by decide +kernel
theorem d_S_addEntry_61 : decode prog_9_method_10_code 61 = .ok (.iload 4, 2) := by decide +kernel
theorem d_S_addEntry_63 : decode prog_9_method_10_code 63 = .ok (.iconst 4, 1) := by decide +kernel
theorem d_S_addEntry_64 : decode prog_9_method_10_code 64 = .ok (.if_icmp .ge (16), 3) := by decide +kernel
theorem d_S_addEntry_67 : decode prog_9_method_10_code 67 = .ok (.aload_n 0, 1) := by decide +kernel
theorem d_S_addEntry_68 : decode prog_9_method_10_code 68 = .ok (.iload_n 3, 1) := by decide +kernel
theorem d_S_addEntry_69 : decode prog_9_method_10_code 69 = .ok (.iload 4, 2) := by decide +kernel
theorem d_S_addEntry_71 : decode prog_9_method_10_code 71 = .ok (.invokevirtual 56, 3) := by decide +kernel
theorem d_S_addEntry_74 : decode prog_9_method_10_code 74 = .ok (.iinc 4 (1), 3) := by decide +kernel
theorem d_S_addEntry_77 : decode prog_9_method_10_code 77 = .ok (.goto (-16), 3) := by decide +kernel
theorem d_S_addEntry_80 : decode prog_9_method_10_code 80 = .ok (.iload_n 3, 1) := by decide +kernel
theorem d_S_addEntry_81 : decode prog_9_method_10_code 81 = .ok (.ireturn, 1) := by decide +kernel
def Y_S_addEntry : sdY := ("SettingsDesk$Settings", prog_9_method_10_code, 5, (some .int), .code y_S_addEntry prog_9_method_10_code 5 (some .int) :: sdB0, { frames := 2, cells := 0, slots := 0, locals := 40 }, 0, 0)
theorem cw_S_addEntry_S_endRow_40 : sd_cwV Y_S_addEntry Y_S_endRow y_S_endRow 40 1 "SettingsDesk$Settings" := ⟨sd_goodV q21 q23 q24 q7 q22, ⟨_, rfl⟩, ⟨rfl, rfl, rfl, rfl⟩, ⟨rfl, by decide, by decide, by decide +kernel⟩, ⟨by decide, by decide⟩⟩
theorem cw_S_addEntry_S_firstRow_36 : sd_cwV Y_S_addEntry Y_S_firstRow y_S_firstRow 36 1 "SettingsDesk$Settings" := ⟨sd_goodV q17 q19 q20 q7 q18, ⟨_, rfl⟩, ⟨rfl, rfl, rfl, rfl⟩, ⟨rfl, by decide, by decide, by decide +kernel⟩, ⟨by decide, by decide⟩⟩
theorem cw_S_addEntry_S_moveRow_52 : sd_cwV Y_S_addEntry Y_S_moveRow y_S_moveRow 52 2 "SettingsDesk$Settings" := ⟨sd_goodV q39 q41 q42 q7 q40, ⟨_, rfl⟩, ⟨rfl, rfl, rfl, rfl⟩, ⟨rfl, by decide, by decide, by decide +kernel⟩, ⟨by decide, by decide⟩⟩
theorem cw_S_addEntry_S_drop_56 : sd_cwV Y_S_addEntry Y_S_drop y_S_drop 56 2 "SettingsDesk$Settings" := ⟨sd_goodV q43 q45 q46 q7 q44, ⟨_, rfl⟩, ⟨rfl, rfl, rfl, rfl⟩, ⟨rfl, by decide, by decide, by decide +kernel⟩, ⟨by decide, by decide⟩⟩
section
variable {l : Launch} {D : va_G} {dA : Nat → ClassId} {b n : Nat} {ad : Nat → Nat} {L : Nat → sdL} {sc : Option (Nat × Nat × (Nat → Int32))}
def h_S_addEntry_61 (o : Nat) (Q : Int32 → sdM → Prop) : Nat → sdM → Int32 → Int32 → Prop
  | 0, _, _, _ => False
  | N + 1, M, x3, x4 => ((4 : Int32) ≤ x4 → Q x3 M) ∧ (¬ (4 : Int32) ≤ x4 → w_S_drop o M x3 x4 (fun M15 => h_S_addEntry_61 o Q N M15 x3 (x4 + 1)))
set_option maxHeartbeats 1000000 in
theorem t_S_addEntry_61 {o : Nat} (hA : sd_ad b n ad) (hT : l.stackTraces = false) (ho : isS n L dA o) {Q : Int32 → sdM → Prop} (N : Nat) : ∀ (M : sdM) (x3 : Int32) (x4 : Int32), h_S_addEntry_61 o Q N M x3 x4 → sdW l (sdE0 sc) Y_S_addEntry D (sd_tys dA) b n ad L ad (sd_H D (sdE0 sc).1 n ad L) (sd_qi Q) sd_xf 61 [(0, .ref o), (3, .int x3), (4, .int x4)] [] M 0 0 := by
  induction N with
  | zero => intro M x3 x4 hw; exact hw.elim
  | succ N ih =>
    intro M x3 x4 hw
    rw [h_S_addEntry_61] at hw
    refine x_iload 4 2 d_S_addEntry_61 rfl ?_
    refine x_iconst (v := 4) d_S_addEntry_63 (by decide) ?_
    refine x_icmp_ge 80 d_S_addEntry_64 rfl (fun hc => ?_) (fun hc => ?_)
    · have hw := hw.1 hc
      refine x_iload_n 3 1 d_S_addEntry_80 rfl rfl ?_
      exact x_iret d_S_addEntry_81 rfl (fun _ h => h) ⟨_, rfl, hw⟩
    · have hw := hw.2 hc
      refine x_aload_n 0 0 d_S_addEntry_67 rfl rfl ?_
      refine x_iload_n 3 1 d_S_addEntry_68 rfl rfl ?_
      refine x_iload 4 2 d_S_addEntry_69 rfl ?_
      refine x_callVv (As := [.int x3, .int x4]) (t := o) (rest := []) (rc := 0) (rs := 0) (c_S_drop hA hT ho hw) cw_S_addEntry_S_drop_56 ho.1 ho.2.1 rfl d_S_addEntry_71 rfl rfl (Nat.le_of_ble_eq_true rfl) (fun _ _ h => h.elim) (fun _ _ h => h) (fun M15 hw => ?_)
      refine x_iinc 4 2 [(4, .int (x4 + 1)), (0, .ref o), (3, .int x3)] d_S_addEntry_74 rfl (congrArg (HAdd.hAdd x4) (show Int32.ofInt 1 = 1 by decide)) (by decide) rfl ?_
      refine x_goto 61 d_S_addEntry_77 rfl ?_
      refine x_sub [1, 2, 0] [(0, .ref o), (3, .int x3), (4, .int (x4 + 1))] rfl ?_
      exact ih M15 x3 (x4 + 1) hw
def k_S_addEntry_41 (o : Nat) (Q : Int32 → sdM → Prop) (M : sdM) (x1 : Int32) (x2 : Int32) (x3 : Int32) : Prop := vp_in x1 4 ∧ vp_in x1 4 ∧ ∀ M18 : sdM, M18 = sd_s M (o + 1) x1.toNatClampNeg ((M (o + 1) x1.toNatClampNeg) + (1 : Int32)) → vp_in x3 48 ∧ ∀ M21 : sdM, M21 = sd_s M18 (o + 2) x3.toNatClampNeg x2 → ∃ N9 : Nat, h_S_addEntry_61 o Q N9 M21 x3 (0 : Int32)
set_option maxHeartbeats 1000000 in
theorem t_S_addEntry_41 {o : Nat} (hA : sd_ad b n ad) (hT : l.stackTraces = false) (ho : isS n L dA o) {Q : Int32 → sdM → Prop} (M : sdM) (x1 : Int32) (x2 : Int32) (x3 : Int32) (hw : k_S_addEntry_41 o Q M x1 x2 x3) : sdW l (sdE0 sc) Y_S_addEntry D (sd_tys dA) b n ad L ad (sd_H D (sdE0 sc).1 n ad L) (sd_qi Q) sd_xf 41 [(0, .ref o), (1, .int x1), (2, .int x2), (3, .int x3)] [] M 0 0 := by
  unfold k_S_addEntry_41 at hw
  refine x_aload_n 0 0 d_S_addEntry_41 rfl rfl ?_
  refine x_getr 0 (o + 1) d_S_addEntry_42 ho.1 ho.2.1 rfl rfl (by decide) lay_S (List.mem_cons_of_mem _ q0) rfl ?_
  refine x_iload_n 1 1 d_S_addEntry_45 rfl rfl ?_
  refine x_dup2 d_S_addEntry_46 rfl rfl ?_
  obtain ⟨hi16, hw⟩ := hw
  refine x_iald d_S_addEntry_47 ho.counts.1 ho.counts.2 rfl hi16 ?_
  refine x_iconst (v := 1) d_S_addEntry_48 (by decide) ?_
  refine x_iadd d_S_addEntry_49 ?_
  obtain ⟨hi17, hw⟩ := hw
  refine x_iast hA d_S_addEntry_50 ho.counts.1 ho.counts.2 rfl hi17 (fun M18 e19 => ?_)
  have hw := hw M18 e19
  clear e19
  refine x_aload_n 0 0 d_S_addEntry_51 rfl rfl ?_
  refine x_getr 1 (o + 2) d_S_addEntry_52 ho.1 ho.2.1 rfl rfl (by decide) lay_S (List.mem_cons_of_mem _ q16) rfl ?_
  refine x_iload_n 3 3 d_S_addEntry_55 rfl rfl ?_
  refine x_iload_n 2 2 d_S_addEntry_56 rfl rfl ?_
  obtain ⟨hi20, hw⟩ := hw
  refine x_iast hA d_S_addEntry_57 ho.keys.1 ho.keys.2 rfl hi20 (fun M21 e22 => ?_)
  have hw := hw M21 e22
  clear e22
  refine x_iconst (v := 0) d_S_addEntry_58 (by decide) ?_
  refine x_istore 4 [(4, .int (0 : Int32)), (0, .ref o), (1, .int x1), (2, .int x2), (3, .int x3)] d_S_addEntry_59 (by decide) rfl ?_
  refine x_sub [1, 4, 0] [(0, .ref o), (3, .int x3), (4, .int (0 : Int32))] rfl ?_
  obtain ⟨N9, hw⟩ := hw
  exact t_S_addEntry_61 hA hT ho N9 M21 x3 (0 : Int32) hw
def h_S_addEntry_6 (o : Nat) (Q : Int32 → sdM → Prop) : Nat → sdM → Int32 → Int32 → Int32 → Prop
  | 0, _, _, _, _ => False
  | N + 1, M, x1, x2, x3 => w_S_firstRow o M x1 (fun r24 M23 => (x3 ≤ r24 → k_S_addEntry_41 o Q M23 x1 x2 x3) ∧ (¬ x3 ≤ r24 → vp_in (x3 - (1 : Int32)) 48 ∧ ((M23 (o + 2) (x3 - (1 : Int32)).toNatClampNeg) ≤ x2 → k_S_addEntry_41 o Q M23 x1 x2 x3) ∧ (¬ (M23 (o + 2) (x3 - (1 : Int32)).toNatClampNeg) ≤ x2 → w_S_moveRow o M23 (x3 - (1 : Int32)) x3 (fun M26 => h_S_addEntry_6 o Q N M26 x1 x2 (x3 + (-1))))))
set_option maxHeartbeats 1000000 in
theorem t_S_addEntry_6 {o : Nat} (hA : sd_ad b n ad) (hT : l.stackTraces = false) (ho : isS n L dA o) {Q : Int32 → sdM → Prop} (N : Nat) : ∀ (M : sdM) (x1 : Int32) (x2 : Int32) (x3 : Int32), h_S_addEntry_6 o Q N M x1 x2 x3 → sdW l (sdE0 sc) Y_S_addEntry D (sd_tys dA) b n ad L ad (sd_H D (sdE0 sc).1 n ad L) (sd_qi Q) sd_xf 6 [(0, .ref o), (1, .int x1), (2, .int x2), (3, .int x3)] [] M 0 0 := by
  induction N with
  | zero => intro M x1 x2 x3 hw; exact hw.elim
  | succ N ih =>
    intro M x1 x2 x3 hw
    rw [h_S_addEntry_6] at hw
    refine x_iload_n 3 3 d_S_addEntry_6 rfl rfl ?_
    refine x_aload_n 0 0 d_S_addEntry_7 rfl rfl ?_
    refine x_iload_n 1 1 d_S_addEntry_8 rfl rfl ?_
    refine x_callVi (As := [.int x1]) (t := o) (rest := [.int x3]) (rc := 0) (rs := 0) (c_S_firstRow hA hT ho hw) cw_S_addEntry_S_firstRow_36 ho.1 ho.2.1 rfl d_S_addEntry_9 rfl rfl (Nat.le_of_ble_eq_true rfl) (fun _ _ h => h.elim) (fun _ _ h => h) (fun r24 M23 hw => ?_)
    refine x_icmp_le 41 d_S_addEntry_12 rfl (fun hc => ?_) (fun hc => ?_)
    · have hw := hw.1 hc
      exact t_S_addEntry_41 hA hT ho M23 x1 x2 x3 hw
    · have hw := hw.2 hc
      refine x_aload_n 0 0 d_S_addEntry_15 rfl rfl ?_
      refine x_getr 1 (o + 2) d_S_addEntry_16 ho.1 ho.2.1 rfl rfl (by decide) lay_S (List.mem_cons_of_mem _ q16) rfl ?_
      refine x_iload_n 3 3 d_S_addEntry_19 rfl rfl ?_
      refine x_iconst (v := 1) d_S_addEntry_20 (by decide) ?_
      refine x_isub d_S_addEntry_21 ?_
      obtain ⟨hi25, hw⟩ := hw
      refine x_iald d_S_addEntry_22 ho.keys.1 ho.keys.2 rfl hi25 ?_
      refine x_iload_n 2 2 d_S_addEntry_23 rfl rfl ?_
      refine x_icmp_le 41 d_S_addEntry_24 rfl (fun hc => ?_) (fun hc => ?_)
      · have hw := hw.1 hc
        exact t_S_addEntry_41 hA hT ho M23 x1 x2 x3 hw
      · have hw := hw.2 hc
        refine x_aload_n 0 0 d_S_addEntry_27 rfl rfl ?_
        refine x_iload_n 3 3 d_S_addEntry_28 rfl rfl ?_
        refine x_iconst (v := 1) d_S_addEntry_29 (by decide) ?_
        refine x_isub d_S_addEntry_30 ?_
        refine x_iload_n 3 3 d_S_addEntry_31 rfl rfl ?_
        refine x_callVv (As := [.int (x3 - (1 : Int32)), .int x3]) (t := o) (rest := []) (rc := 0) (rs := 0) (c_S_moveRow hA hT ho hw) cw_S_addEntry_S_moveRow_52 ho.1 ho.2.1 rfl d_S_addEntry_32 rfl rfl (Nat.le_of_ble_eq_true rfl) (fun _ _ h => h.elim) (fun _ _ h => h) (fun M26 hw => ?_)
        refine x_iinc 3 3 [(3, .int (x3 + (-1))), (0, .ref o), (1, .int x1), (2, .int x2)] d_S_addEntry_35 rfl (congrArg (HAdd.hAdd x3) (show Int32.ofInt (-1) = (-1) by decide)) (by decide) rfl ?_
        refine x_goto 6 d_S_addEntry_38 rfl ?_
        refine x_sub [1, 2, 3, 0] [(0, .ref o), (1, .int x1), (2, .int x2), (3, .int (x3 + (-1)))] rfl ?_
        exact ih M26 x1 x2 (x3 + (-1)) hw
def w_S_addEntry (o : Nat) (M : sdM) (a1 : Int32) (a2 : Int32) (Q : Int32 → sdM → Prop) : Prop := w_S_endRow o M a1 (fun r28 M27 => ∃ N9 : Nat, h_S_addEntry_6 o Q N9 M27 a1 a2 r28)
set_option maxHeartbeats 1000000 in
theorem c_S_addEntry {a1 : Int32} {a2 : Int32} {o : Nat} (hA : sd_ad b n ad) (hT : l.stackTraces = false) (ho : isS n L dA o) {Q : Int32 → sdM → Prop} {M : sdM} (hw : w_S_addEntry o M a1 a2 Q) : sd_Cn l (sdE0 sc) y_S_addEntry Y_S_addEntry.2.2.2.2.1 Y_S_addEntry.2.2.2.2.2.1 0 0 D (sd_tys dA) b n ad L M [.ref o, .int a1, .int a2] (sd_qi Q) sd_xf := by
  refine sd_enter (Y := Y_S_addEntry) rfl rfl rfl (Nat.le_of_ble_eq_true rfl) ?_
  show sdW l (sdE0 sc) Y_S_addEntry D (sd_tys dA) b n ad L ad (sd_H D (sdE0 sc).1 n ad L) (sd_qi Q) sd_xf 0 [(0, .ref o), (1, .int a1), (2, .int a2)] [] M 0 0
  unfold w_S_addEntry at hw
  refine x_aload_n 0 0 d_S_addEntry_0 rfl rfl ?_
  refine x_iload_n 1 1 d_S_addEntry_1 rfl rfl ?_
  refine x_callVi (As := [.int a1]) (t := o) (rest := []) (rc := 0) (rs := 0) (c_S_endRow hA hT ho hw) cw_S_addEntry_S_endRow_40 ho.1 ho.2.1 rfl d_S_addEntry_2 rfl rfl (Nat.le_of_ble_eq_true rfl) (fun _ _ h => h.elim) (fun _ _ h => h) (fun r28 M27 hw => ?_)
  refine x_istore_n 3 [(3, .int r28), (0, .ref o), (1, .int a1), (2, .int a2)] d_S_addEntry_5 rfl (by decide) rfl ?_
  refine x_sub [1, 2, 3, 0] [(0, .ref o), (1, .int a1), (2, .int a2), (3, .int r28)] rfl ?_
  obtain ⟨N9, hw⟩ := hw
  exact t_S_addEntry_6 hA hT ho N9 M27 a1 a2 r28 hw
end
abbrev y_S_give : MethodName := ⟨"SettingsDesk$Settings", "give", "(III)V"⟩
theorem d_S_give_0 : decode prog_9_method_14_code 0 = .ok (.aload_n 0, 1) := by decide +kernel
theorem d_S_give_1 : decode prog_9_method_14_code 1 = .ok (.getfield 21, 3) := by decide +kernel
theorem d_S_give_4 : decode prog_9_method_14_code 4 = .ok (.iload_n 1, 1) := by decide +kernel
theorem d_S_give_5 : decode prog_9_method_14_code 5 = .ok (.dup2, 1) := by decide +kernel
theorem d_S_give_6 : decode prog_9_method_14_code 6 = .ok (.iaload, 1) := by decide +kernel
theorem d_S_give_7 : decode prog_9_method_14_code 7 = .ok (.iconst 1, 1) := by decide +kernel
theorem d_S_give_8 : decode prog_9_method_14_code 8 = .ok (.iload_n 2, 1) := by decide +kernel
theorem d_S_give_9 : decode prog_9_method_14_code 9 = .ok (.ishl, 1) := by decide +kernel
theorem d_S_give_10 : decode prog_9_method_14_code 10 = .ok (.ior, 1) := by decide +kernel
theorem d_S_give_11 : decode prog_9_method_14_code 11 = .ok (.iastore, 1) := by decide +kernel
theorem d_S_give_12 : decode prog_9_method_14_code 12 = .ok (.aload_n 0, 1) := by decide +kernel
theorem d_S_give_13 : decode prog_9_method_14_code 13 = .ok (.getfield 18, 3) := by decide +kernel
theorem d_S_give_16 : decode prog_9_method_14_code 16 = .ok (.iload_n 1, 1) := by decide +kernel
theorem d_S_give_17 : decode prog_9_method_14_code 17 = .ok (.iconst 4, 1) := by decide +kernel
theorem d_S_give_18 : decode prog_9_method_14_code 18 = .ok (.imul, 1) := by decide +kernel
theorem d_S_give_19 : decode prog_9_method_14_code 19 = .ok (.iload_n 2, 1) := by decide +kernel
theorem d_S_give_20 : decode prog_9_method_14_code 20 = .ok (.iadd, 1) := by decide +kernel
theorem d_S_give_21 : decode prog_9_method_14_code 21 = .ok (.iload_n 3, 1) := by decide +kernel
theorem d_S_give_22 : decode prog_9_method_14_code 22 = .ok (.iastore, 1) := by decide +kernel
theorem d_S_give_23 : decode prog_9_method_14_code 23 = .ok (.return_, 1) := by decide +kernel
def Y_S_give : sdY := ("SettingsDesk$Settings", prog_9_method_14_code, 4, none, .code y_S_give prog_9_method_14_code 4 none :: sdB0, { frames := 0, cells := 0, slots := 0, locals := 0 }, 0, 0)
section
variable {l : Launch} {D : va_G} {dA : Nat → ClassId} {b n : Nat} {ad : Nat → Nat} {L : Nat → sdL} {sc : Option (Nat × Nat × (Nat → Int32))}
def w_S_give (o : Nat) (M : sdM) (a1 : Int32) (a2 : Int32) (a3 : Int32) (Q : sdM → Prop) : Prop := vp_in a1 48 ∧ vp_in a1 48 ∧ ∀ M10 : sdM, M10 = sd_s M (o + 4) a1.toNatClampNeg ((M (o + 4) a1.toNatClampNeg) ||| ((1 : Int32) <<< (a2 &&& 31))) → vp_in ((a1 * (4 : Int32)) + a2) 192 ∧ ∀ M13 : sdM, M13 = sd_s M10 (o + 3) ((a1 * (4 : Int32)) + a2).toNatClampNeg a3 → Q M13
set_option maxHeartbeats 1000000 in
theorem c_S_give {a1 : Int32} {a2 : Int32} {a3 : Int32} {o : Nat} (hA : sd_ad b n ad) (hT : l.stackTraces = false) (ho : isS n L dA o) {Q : sdM → Prop} {M : sdM} (hw : w_S_give o M a1 a2 a3 Q) : sd_Cn l (sdE0 sc) y_S_give Y_S_give.2.2.2.2.1 Y_S_give.2.2.2.2.2.1 0 0 D (sd_tys dA) b n ad L M [.ref o, .int a1, .int a2, .int a3] (sd_qv Q) sd_xf := by
  refine sd_enter (Y := Y_S_give) rfl rfl rfl (Nat.le_of_ble_eq_true rfl) ?_
  show sdW l (sdE0 sc) Y_S_give D (sd_tys dA) b n ad L ad (sd_H D (sdE0 sc).1 n ad L) (sd_qv Q) sd_xf 0 [(0, .ref o), (1, .int a1), (2, .int a2), (3, .int a3)] [] M 0 0
  unfold w_S_give at hw
  refine x_aload_n 0 0 d_S_give_0 rfl rfl ?_
  refine x_getr 3 (o + 4) d_S_give_1 ho.1 ho.2.1 rfl rfl (by decide) lay_S (List.mem_cons_of_mem _ q1) rfl ?_
  refine x_iload_n 1 1 d_S_give_4 rfl rfl ?_
  refine x_dup2 d_S_give_5 rfl rfl ?_
  obtain ⟨hi8, hw⟩ := hw
  refine x_iald d_S_give_6 ho.given.1 ho.given.2 rfl hi8 ?_
  refine x_iconst (v := 1) d_S_give_7 (by decide) ?_
  refine x_iload_n 2 2 d_S_give_8 rfl rfl ?_
  refine x_ishl d_S_give_9 ?_
  refine x_ior d_S_give_10 ?_
  obtain ⟨hi9, hw⟩ := hw
  refine x_iast hA d_S_give_11 ho.given.1 ho.given.2 rfl hi9 (fun M10 e11 => ?_)
  have hw := hw M10 e11
  clear e11
  refine x_aload_n 0 0 d_S_give_12 rfl rfl ?_
  refine x_getr 2 (o + 3) d_S_give_13 ho.1 ho.2.1 rfl rfl (by decide) lay_S (List.mem_cons_of_mem _ q2) rfl ?_
  refine x_iload_n 1 1 d_S_give_16 rfl rfl ?_
  refine x_iconst (v := 4) d_S_give_17 (by decide) ?_
  refine x_imul d_S_give_18 ?_
  refine x_iload_n 2 2 d_S_give_19 rfl rfl ?_
  refine x_iadd d_S_give_20 ?_
  refine x_iload_n 3 3 d_S_give_21 rfl rfl ?_
  obtain ⟨hi12, hw⟩ := hw
  refine x_iast hA d_S_give_22 ho.values.1 ho.values.2 rfl hi12 (fun M13 e14 => ?_)
  have hw := hw M13 e14
  clear e14
  exact x_vret d_S_give_23 rfl (fun _ h => h) ⟨rfl, hw⟩
end
abbrev y_JA_fill : MethodName := ⟨"java/util/Arrays", "fill", "([II)V"⟩
theorem d_JA_fill_0 : decode prog_23_method_103_code 0 = .ok (.iconst 0, 1) := by decide +kernel
theorem d_JA_fill_1 : decode prog_23_method_103_code 1 = .ok (.istore_n 2, 1) := by decide +kernel
theorem d_JA_fill_2 : decode prog_23_method_103_code 2 = .ok (.aload_n 0, 1) := by decide +kernel
theorem d_JA_fill_3 : decode prog_23_method_103_code 3 = .ok (.arraylength, 1) := by decide +kernel
theorem d_JA_fill_4 : decode prog_23_method_103_code 4 = .ok (.istore_n 3, 1) := by decide +kernel
theorem d_JA_fill_5 : decode prog_23_method_103_code 5 = .ok (.iload_n 2, 1) := by decide +kernel
theorem d_JA_fill_6 : decode prog_23_method_103_code 6 = .ok (.iload_n 3, 1) := by decide +kernel
theorem d_JA_fill_7 : decode prog_23_method_103_code 7 = .ok (.if_icmp .ge (13), 3) := by decide +kernel
theorem d_JA_fill_10 : decode prog_23_method_103_code 10 = .ok (.aload_n 0, 1) := by decide +kernel
theorem d_JA_fill_11 : decode prog_23_method_103_code 11 = .ok (.iload_n 2, 1) := by decide +kernel
theorem d_JA_fill_12 : decode prog_23_method_103_code 12 = .ok (.iload_n 1, 1) := by decide +kernel
theorem d_JA_fill_13 : decode prog_23_method_103_code 13 = .ok (.iastore, 1) := by decide +kernel
theorem d_JA_fill_14 : decode prog_23_method_103_code 14 = .ok (.iinc 2 (1), 3) := by decide +kernel
theorem d_JA_fill_17 : decode prog_23_method_103_code 17 = .ok (.goto (-12), 3) := by decide +kernel
theorem d_JA_fill_20 : decode prog_23_method_103_code 20 = .ok (.return_, 1) := by decide +kernel
def Y_JA_fill : sdY := ("java/util/Arrays", prog_23_method_103_code, 4, none, .code y_JA_fill prog_23_method_103_code 4 none :: sdB0, { frames := 0, cells := 0, slots := 0, locals := 0 }, 0, 0)
section
variable {l : Launch} {D : va_G} {dA : Nat → ClassId} {b n : Nat} {ad : Nat → Nat} {L : Nat → sdL} {sc : Option (Nat × Nat × (Nat → Int32))}
def h_JA_fill_5 (Q : sdM → Prop) : Nat → sdM → Nat → Int32 → Int32 → Int32 → Prop
  | 0, _, _, _, _, _ => False
  | N + 1, M, o0, x1, x2, x3 => (x3 ≤ x2 → Q M) ∧ (¬ x3 ≤ x2 → vp_in x2 4 ∧ ∀ M5 : sdM, M5 = sd_s M o0 x2.toNatClampNeg x1 → h_JA_fill_5 Q N M5 o0 x1 (x2 + 1) x3)
set_option maxHeartbeats 1000000 in
theorem t_JA_fill_5 (hA : sd_ad b n ad) (hT : l.stackTraces = false) {Q : sdM → Prop} (N : Nat) : ∀ (M : sdM) (o0 : Nat) (x1 : Int32) (x2 : Int32) (x3 : Int32) (ho0 : isI n L (dA 0) o0 4), h_JA_fill_5 Q N M o0 x1 x2 x3 → sdW l (sdE0 sc) Y_JA_fill D (sd_tys dA) b n ad L ad (sd_H D (sdE0 sc).1 n ad L) (sd_qv Q) sd_xf 5 [(0, .ref o0), (1, .int x1), (2, .int x2), (3, .int x3)] [] M 0 0 := by
  induction N with
  | zero => intro M o0 x1 x2 x3 ho0 hw; exact hw.elim
  | succ N ih =>
    intro M o0 x1 x2 x3 ho0 hw
    rw [h_JA_fill_5] at hw
    refine x_iload_n 2 2 d_JA_fill_5 rfl rfl ?_
    refine x_iload_n 3 3 d_JA_fill_6 rfl rfl ?_
    refine x_icmp_ge 20 d_JA_fill_7 rfl (fun hc => ?_) (fun hc => ?_)
    · have hw := hw.1 hc
      exact x_vret d_JA_fill_20 rfl (fun _ h => h) ⟨rfl, hw⟩
    · have hw := hw.2 hc
      refine x_aload_n 0 0 d_JA_fill_10 rfl rfl ?_
      refine x_iload_n 2 2 d_JA_fill_11 rfl rfl ?_
      refine x_iload_n 1 1 d_JA_fill_12 rfl rfl ?_
      obtain ⟨hi4, hw⟩ := hw
      refine x_iast hA d_JA_fill_13 ho0.1 ho0.2 rfl hi4 (fun M5 e6 => ?_)
      have hw := hw M5 e6
      clear e6
      refine x_iinc 2 2 [(2, .int (x2 + 1)), (0, .ref o0), (1, .int x1), (3, .int x3)] d_JA_fill_14 rfl (congrArg (HAdd.hAdd x2) (show Int32.ofInt 1 = 1 by decide)) (by decide) rfl ?_
      refine x_goto 5 d_JA_fill_17 rfl ?_
      refine x_sub [1, 2, 0, 3] [(0, .ref o0), (1, .int x1), (2, .int (x2 + 1)), (3, .int x3)] rfl ?_
      exact ih M5 o0 x1 (x2 + 1) x3 ho0 hw
def w_JA_fill (M : sdM) (p0 : Nat) (a1 : Int32) (Q : sdM → Prop) : Prop := ∃ N9 : Nat, h_JA_fill_5 Q N9 M p0 a1 (0 : Int32) (4 : Int32)
set_option maxHeartbeats 1000000 in
theorem c_JA_fill {p0 : Nat} {a1 : Int32} (hA : sd_ad b n ad) (hT : l.stackTraces = false) (hp0 : isI n L (dA 0) p0 4) {Q : sdM → Prop} {M : sdM} (hw : w_JA_fill M p0 a1 Q) : sd_Cn l (sdE0 sc) y_JA_fill Y_JA_fill.2.2.2.2.1 Y_JA_fill.2.2.2.2.2.1 0 0 D (sd_tys dA) b n ad L M [.ref p0, .int a1] (sd_qv Q) sd_xf := by
  refine sd_enter (Y := Y_JA_fill) (by decide +kernel) rfl rfl (Nat.le_of_ble_eq_true rfl) ?_
  show sdW l (sdE0 sc) Y_JA_fill D (sd_tys dA) b n ad L ad (sd_H D (sdE0 sc).1 n ad L) (sd_qv Q) sd_xf 0 [(0, .ref p0), (1, .int a1)] [] M 0 0
  unfold w_JA_fill at hw
  refine x_iconst (v := 0) d_JA_fill_0 (by decide) ?_
  refine x_istore_n 2 [(2, .int (0 : Int32)), (0, .ref p0), (1, .int a1)] d_JA_fill_1 rfl (by decide) rfl ?_
  refine x_aload_n 0 1 d_JA_fill_2 rfl rfl ?_
  refine x_alen (v := 4) d_JA_fill_3 hp0.1 hp0.2 rfl (by decide) ?_
  refine x_istore_n 3 [(3, .int (4 : Int32)), (2, .int (0 : Int32)), (0, .ref p0), (1, .int a1)] d_JA_fill_4 rfl (by decide) rfl ?_
  refine x_sub [2, 3, 1, 0] [(0, .ref p0), (1, .int a1), (2, .int (0 : Int32)), (3, .int (4 : Int32))] rfl ?_
  obtain ⟨N9, hw⟩ := hw
  exact t_JA_fill_5 hA hT N9 M p0 a1 (0 : Int32) (4 : Int32) hp0 hw
end
theorem q47 : (.methodLink "SettingsDesk$Settings" 30 ⟨"java/util/Arrays", "fill", "([II)V"⟩ : Cond) ∈ sdB0 := sd_tb4 0 rfl rfl
theorem q48 : (.code ⟨"java/util/Arrays", "fill", "([II)V"⟩ prog_23_method_103_code 4 none : Cond) ∈ sdB0 := sd_tb4 2 rfl rfl
theorem q49 : (.static ⟨"java/util/Arrays", "fill", "([II)V"⟩ : Cond) ∈ sdB0 := sd_tb4 1 rfl rfl
theorem q50 : (.initialized "java/util/Arrays" : Cond) ∈ sdB0 := sd_tb1 19 rfl rfl
abbrev y_S_removeAll : MethodName := ⟨"SettingsDesk$Settings", "removeAll", "()V"⟩
theorem d_S_removeAll_0 : decode prog_9_method_3_code 0 = .ok (.aload_n 0, 1) := by decide +kernel
theorem d_S_removeAll_1 : decode prog_9_method_3_code 1 = .ok (.getfield 9, 3) := by decide +kernel
theorem d_S_removeAll_4 : decode prog_9_method_3_code 4 = .ok (.iconst 0, 1) := by decide +kernel
theorem d_S_removeAll_5 : decode prog_9_method_3_code 5 = .ok (.invokestatic 30, 3) := by decide +kernel
theorem d_S_removeAll_8 : decode prog_9_method_3_code 8 = .ok (.return_, 1) := by decide +kernel
def Y_S_removeAll : sdY := ("SettingsDesk$Settings", prog_9_method_3_code, 1, none, .code y_S_removeAll prog_9_method_3_code 1 none :: sdB0, { frames := 1, cells := 0, slots := 0, locals := 23 }, 0, 0)
theorem cw_S_removeAll_JA_fill_30 : sd_cwS Y_S_removeAll Y_JA_fill y_JA_fill 30 2 := ⟨sd_goodS q47 q49 q50 q48, ⟨_, rfl⟩, ⟨rfl, rfl, rfl, rfl⟩, ⟨by decide, by decide, by decide +kernel⟩, ⟨by decide, by decide⟩⟩
section
variable {l : Launch} {D : va_G} {dA : Nat → ClassId} {b n : Nat} {ad : Nat → Nat} {L : Nat → sdL} {sc : Option (Nat × Nat × (Nat → Int32))}
def w_S_removeAll (o : Nat) (M : sdM) (Q : sdM → Prop) : Prop := w_JA_fill M (o + 1) (0 : Int32) (fun M2 => Q M2)
set_option maxHeartbeats 1000000 in
theorem c_S_removeAll {o : Nat} (hA : sd_ad b n ad) (hT : l.stackTraces = false) (ho : isS n L dA o) {Q : sdM → Prop} {M : sdM} (hw : w_S_removeAll o M Q) : sd_Cn l (sdE0 sc) y_S_removeAll Y_S_removeAll.2.2.2.2.1 Y_S_removeAll.2.2.2.2.2.1 0 0 D (sd_tys dA) b n ad L M [.ref o] (sd_qv Q) sd_xf := by
  refine sd_enter (Y := Y_S_removeAll) rfl rfl rfl (Nat.le_of_ble_eq_true rfl) ?_
  show sdW l (sdE0 sc) Y_S_removeAll D (sd_tys dA) b n ad L ad (sd_H D (sdE0 sc).1 n ad L) (sd_qv Q) sd_xf 0 [(0, .ref o)] [] M 0 0
  unfold w_S_removeAll at hw
  refine x_aload_n 0 0 d_S_removeAll_0 rfl rfl ?_
  refine x_getr 0 (o + 1) d_S_removeAll_1 ho.1 ho.2.1 rfl rfl (by decide) lay_S (List.mem_cons_of_mem _ q0) rfl ?_
  refine x_iconst (v := 0) d_S_removeAll_4 (by decide) ?_
  refine x_callSv (As := [.ref (o + 1), .int (0 : Int32)]) (rest := []) (rc := 0) (rs := 0) (c_JA_fill hA hT ho.counts hw) cw_S_removeAll_JA_fill_30 d_S_removeAll_5 rfl rfl (Nat.le_of_ble_eq_true rfl) (fun _ _ h => h.elim) (fun _ _ h => h) (fun M2 hw => ?_)
  exact x_vret d_S_removeAll_8 rfl (fun _ h => h) ⟨rfl, hw⟩
end
abbrev y_S_keyAfter : MethodName := ⟨"SettingsDesk$Settings", "keyAfter", "(II)I"⟩
theorem d_S_keyAfter_0 : decode prog_9_method_7_code 0 = .ok (.aload_n 0, 1) := by decide +kernel
theorem d_S_keyAfter_1 : decode prog_9_method_7_code 1 = .ok (.iload_n 1, 1) := by decide +kernel
theorem d_S_keyAfter_2 : decode prog_9_method_7_code 2 = .ok (.invokevirtual 36, 3) := by decide +kernel
theorem d_S_keyAfter_5 : decode prog_9_method_7_code 5 = .ok (.istore_n 3, 1) := by decide +kernel
theorem d_S_keyAfter_6 : decode prog_9_method_7_code 6 = .ok (.iload_n 3, 1) := by decide +kernel
theorem d_S_keyAfter_7 : decode prog_9_method_7_code 7 = .ok (.aload_n 0, 1) := by decide +kernel
theorem d_S_keyAfter_8 : decode prog_9_method_7_code 8 = .ok (.iload_n 1, 1) := by decide +kernel
theorem d_S_keyAfter_9 : decode prog_9_method_7_code 9 = .ok (.invokevirtual 40, 3) := by decide +kernel
theorem d_S_keyAfter_12 : decode prog_9_method_7_code 12 = .ok (.if_icmp .ge (26), 3) := by decide +kernel
theorem d_S_keyAfter_15 : decode prog_9_method_7_code 15 = .ok (.aload_n 0, 1) := by decide +kernel
theorem d_S_keyAfter_16 : decode prog_9_method_7_code 16 = .ok (.getfield 15, 3) := by decide +kernel
theorem d_S_keyAfter_19 : decode prog_9_method_7_code 19 = .ok (.iload_n 3, 1) := by decide +kernel
theorem d_S_keyAfter_20 : decode prog_9_method_7_code 20 = .ok (.iaload, 1) := by decide +kernel
theorem d_S_keyAfter_21 : decode prog_9_method_7_code 21 = .ok (.iload_n 2, 1) := by decide +kernel
theorem d_S_keyAfter_22 : decode prog_9_method_7_code 22 = .ok (.if_icmp .le (10), 3) := by decide +kernel
theorem d_S_keyAfter_25 : decode prog_9_method_7_code 25 = .ok (.aload_n 0, 1) := by decide +kernel
theorem d_S_keyAfter_26 : decode prog_9_method_7_code 26 = .ok (.getfield 15, 3) := by decide +kernel
theorem d_S_keyAfter_29 : decode prog_9_method_7_code 29 = .ok (.iload_n 3, 1) := by decide +kernel
theorem d_S_keyAfter_30 : decode prog_9_method_7_code 30 = .ok (.iaload, 1) := by decide +kernel
theorem d_S_keyAfter_31 : decode prog_9_method_7_code 31 = .ok (.ireturn, 1) := by decide +kernel
theorem d_S_keyAfter_32 : decode prog_9_method_7_code 32 = .ok (.iinc 3 (1), 3) := by decide +kernel
theorem d_S_keyAfter_35 : decode prog_9_method_7_code 35 = .ok (.goto (-29), 3) := by decide +kernel
theorem d_S_keyAfter_38 : decode prog_9_method_7_code 38 = .ok (.bipush (101), 2) := by decide +kernel
theorem d_S_keyAfter_40 : decode prog_9_method_7_code 40 = .ok (.ireturn, 1) := by decide +kernel
def Y_S_keyAfter : sdY := ("SettingsDesk$Settings", prog_9_method_7_code, 4, (some .int), .code y_S_keyAfter prog_9_method_7_code 4 (some .int) :: sdB0, { frames := 1, cells := 0, slots := 0, locals := 21 }, 0, 0)
theorem cw_S_keyAfter_S_firstRow_36 : sd_cwV Y_S_keyAfter Y_S_firstRow y_S_firstRow 36 1 "SettingsDesk$Settings" := ⟨sd_goodV q17 q19 q20 q7 q18, ⟨_, rfl⟩, ⟨rfl, rfl, rfl, rfl⟩, ⟨rfl, by decide, by decide, by decide +kernel⟩, ⟨by decide, by decide⟩⟩
theorem cw_S_keyAfter_S_endRow_40 : sd_cwV Y_S_keyAfter Y_S_endRow y_S_endRow 40 1 "SettingsDesk$Settings" := ⟨sd_goodV q21 q23 q24 q7 q22, ⟨_, rfl⟩, ⟨rfl, rfl, rfl, rfl⟩, ⟨rfl, by decide, by decide, by decide +kernel⟩, ⟨by decide, by decide⟩⟩
section
variable {l : Launch} {D : va_G} {dA : Nat → ClassId} {b n : Nat} {ad : Nat → Nat} {L : Nat → sdL} {sc : Option (Nat × Nat × (Nat → Int32))}
def h_S_keyAfter_6 (o : Nat) (Q : Int32 → sdM → Prop) : Nat → sdM → Int32 → Int32 → Int32 → Prop
  | 0, _, _, _, _ => False
  | N + 1, M, x1, x2, x3 => w_S_endRow o M x1 (fun r8 M7 => (r8 ≤ x3 → Q (101 : Int32) M7) ∧ (¬ r8 ≤ x3 → vp_in x3 48 ∧ ((M7 (o + 2) x3.toNatClampNeg) ≤ x2 → h_S_keyAfter_6 o Q N M7 x1 x2 (x3 + 1)) ∧ (¬ (M7 (o + 2) x3.toNatClampNeg) ≤ x2 → vp_in x3 48 ∧ Q (M7 (o + 2) x3.toNatClampNeg) M7)))
set_option maxHeartbeats 1000000 in
theorem t_S_keyAfter_6 {o : Nat} (hA : sd_ad b n ad) (hT : l.stackTraces = false) (ho : isS n L dA o) {Q : Int32 → sdM → Prop} (N : Nat) : ∀ (M : sdM) (x1 : Int32) (x2 : Int32) (x3 : Int32), h_S_keyAfter_6 o Q N M x1 x2 x3 → sdW l (sdE0 sc) Y_S_keyAfter D (sd_tys dA) b n ad L ad (sd_H D (sdE0 sc).1 n ad L) (sd_qi Q) sd_xf 6 [(0, .ref o), (1, .int x1), (2, .int x2), (3, .int x3)] [] M 0 0 := by
  induction N with
  | zero => intro M x1 x2 x3 hw; exact hw.elim
  | succ N ih =>
    intro M x1 x2 x3 hw
    rw [h_S_keyAfter_6] at hw
    refine x_iload_n 3 3 d_S_keyAfter_6 rfl rfl ?_
    refine x_aload_n 0 0 d_S_keyAfter_7 rfl rfl ?_
    refine x_iload_n 1 1 d_S_keyAfter_8 rfl rfl ?_
    refine x_callVi (As := [.int x1]) (t := o) (rest := [.int x3]) (rc := 0) (rs := 0) (c_S_endRow hA hT ho hw) cw_S_keyAfter_S_endRow_40 ho.1 ho.2.1 rfl d_S_keyAfter_9 rfl rfl (Nat.le_of_ble_eq_true rfl) (fun _ _ h => h.elim) (fun _ _ h => h) (fun r8 M7 hw => ?_)
    refine x_icmp_ge 38 d_S_keyAfter_12 rfl (fun hc => ?_) (fun hc => ?_)
    · have hw := hw.1 hc
      refine x_bipush (v := 101) d_S_keyAfter_38 (by decide) ?_
      exact x_iret d_S_keyAfter_40 rfl (fun _ h => h) ⟨_, rfl, hw⟩
    · have hw := hw.2 hc
      refine x_aload_n 0 0 d_S_keyAfter_15 rfl rfl ?_
      refine x_getr 1 (o + 2) d_S_keyAfter_16 ho.1 ho.2.1 rfl rfl (by decide) lay_S (List.mem_cons_of_mem _ q16) rfl ?_
      refine x_iload_n 3 3 d_S_keyAfter_19 rfl rfl ?_
      obtain ⟨hi9, hw⟩ := hw
      refine x_iald d_S_keyAfter_20 ho.keys.1 ho.keys.2 rfl hi9 ?_
      refine x_iload_n 2 2 d_S_keyAfter_21 rfl rfl ?_
      refine x_icmp_le 32 d_S_keyAfter_22 rfl (fun hc => ?_) (fun hc => ?_)
      · have hw := hw.1 hc
        refine x_iinc 3 3 [(3, .int (x3 + 1)), (0, .ref o), (1, .int x1), (2, .int x2)] d_S_keyAfter_32 rfl (congrArg (HAdd.hAdd x3) (show Int32.ofInt 1 = 1 by decide)) (by decide) rfl ?_
        refine x_goto 6 d_S_keyAfter_35 rfl ?_
        refine x_sub [1, 2, 3, 0] [(0, .ref o), (1, .int x1), (2, .int x2), (3, .int (x3 + 1))] rfl ?_
        exact ih M7 x1 x2 (x3 + 1) hw
      · have hw := hw.2 hc
        refine x_aload_n 0 0 d_S_keyAfter_25 rfl rfl ?_
        refine x_getr 1 (o + 2) d_S_keyAfter_26 ho.1 ho.2.1 rfl rfl (by decide) lay_S (List.mem_cons_of_mem _ q16) rfl ?_
        refine x_iload_n 3 3 d_S_keyAfter_29 rfl rfl ?_
        obtain ⟨hi10, hw⟩ := hw
        refine x_iald d_S_keyAfter_30 ho.keys.1 ho.keys.2 rfl hi10 ?_
        exact x_iret d_S_keyAfter_31 rfl (fun _ h => h) ⟨_, rfl, hw⟩
def w_S_keyAfter (o : Nat) (M : sdM) (a1 : Int32) (a2 : Int32) (Q : Int32 → sdM → Prop) : Prop := w_S_firstRow o M a1 (fun r12 M11 => ∃ N9 : Nat, h_S_keyAfter_6 o Q N9 M11 a1 a2 r12)
set_option maxHeartbeats 1000000 in
theorem c_S_keyAfter {a1 : Int32} {a2 : Int32} {o : Nat} (hA : sd_ad b n ad) (hT : l.stackTraces = false) (ho : isS n L dA o) {Q : Int32 → sdM → Prop} {M : sdM} (hw : w_S_keyAfter o M a1 a2 Q) : sd_Cn l (sdE0 sc) y_S_keyAfter Y_S_keyAfter.2.2.2.2.1 Y_S_keyAfter.2.2.2.2.2.1 0 0 D (sd_tys dA) b n ad L M [.ref o, .int a1, .int a2] (sd_qi Q) sd_xf := by
  refine sd_enter (Y := Y_S_keyAfter) rfl rfl rfl (Nat.le_of_ble_eq_true rfl) ?_
  show sdW l (sdE0 sc) Y_S_keyAfter D (sd_tys dA) b n ad L ad (sd_H D (sdE0 sc).1 n ad L) (sd_qi Q) sd_xf 0 [(0, .ref o), (1, .int a1), (2, .int a2)] [] M 0 0
  unfold w_S_keyAfter at hw
  refine x_aload_n 0 0 d_S_keyAfter_0 rfl rfl ?_
  refine x_iload_n 1 1 d_S_keyAfter_1 rfl rfl ?_
  refine x_callVi (As := [.int a1]) (t := o) (rest := []) (rc := 0) (rs := 0) (c_S_firstRow hA hT ho hw) cw_S_keyAfter_S_firstRow_36 ho.1 ho.2.1 rfl d_S_keyAfter_2 rfl rfl (Nat.le_of_ble_eq_true rfl) (fun _ _ h => h.elim) (fun _ _ h => h) (fun r12 M11 hw => ?_)
  refine x_istore_n 3 [(3, .int r12), (0, .ref o), (1, .int a1), (2, .int a2)] d_S_keyAfter_5 rfl (by decide) rfl ?_
  refine x_sub [1, 2, 3, 0] [(0, .ref o), (1, .int a1), (2, .int a2), (3, .int r12)] rfl ?_
  obtain ⟨N9, hw⟩ := hw
  exact t_S_keyAfter_6 hA hT ho N9 M11 a1 a2 r12 hw
end
theorem q51 : (.methodLink "SettingsDesk$Settings" 43 ⟨"SettingsDesk$Settings", "keyAfter", "(II)I"⟩ : Cond) ∈ sdB0 := sd_tb4 11 rfl rfl
theorem q52 : (.code ⟨"SettingsDesk$Settings", "keyAfter", "(II)I"⟩ prog_9_method_7_code 4 (some .int) : Cond) ∈ sdB0 := sd_tb4 14 rfl rfl
theorem q53 : (.instanceMethod ⟨"SettingsDesk$Settings", "keyAfter", "(II)I"⟩ : Cond) ∈ sdB0 := sd_tb4 12 rfl rfl
theorem q54 : (.selects "SettingsDesk$Settings" ⟨"SettingsDesk$Settings", "keyAfter", "(II)I"⟩ ⟨"SettingsDesk$Settings", "keyAfter", "(II)I"⟩ : Cond) ∈ sdB0 := sd_tb4 13 rfl rfl
theorem q55 : (.methodLink "SettingsDesk$Settings" 47 ⟨"java/lang/Math", "min", "(II)I"⟩ : Cond) ∈ sdB0 := sd_tb4 15 rfl rfl
theorem q56 : (.code ⟨"java/lang/Math", "min", "(II)I"⟩ prog_17_method_69_code 2 (some .int) : Cond) ∈ sdB0 := sd_tb2 57 rfl rfl
theorem q57 : (.static ⟨"java/lang/Math", "min", "(II)I"⟩ : Cond) ∈ sdB0 := sd_tb2 56 rfl rfl
theorem q58 : (.initialized "java/lang/Math" : Cond) ∈ sdB0 := sd_tb1 20 rfl rfl
abbrev y_S_keyAfterInEither : MethodName := ⟨"SettingsDesk$Settings", "keyAfterInEither", "(LSettingsDesk$Settings;II)I"⟩
theorem d_S_keyAfterInEither_0 : decode prog_9_method_8_code 0 = .ok (.aload_n 0, 1) := by decide +kernel
theorem d_S_keyAfterInEither_1 : decode prog_9_method_8_code 1 = .ok (.iload_n 2, 1) := by decide +kernel
theorem d_S_keyAfterInEither_2 : decode prog_9_method_8_code 2 = .ok (.iload_n 3, 1) := by decide +kernel
theorem d_S_keyAfterInEither_3 : decode prog_9_method_8_code 3 = .ok (.invokevirtual 43, 3) := by decide +kernel
theorem d_S_keyAfterInEither_6 : decode prog_9_method_8_code 6 = .ok (.aload_n 1, 1) := by decide +kernel
theorem d_S_keyAfterInEither_7 : decode prog_9_method_8_code 7 = .ok (.iload_n 2, 1) := by decide +kernel
theorem d_S_keyAfterInEither_8 : decode prog_9_method_8_code 8 = .ok (.iload_n 3, 1) := by decide +kernel
theorem d_S_keyAfterInEither_9 : decode prog_9_method_8_code 9 = .ok (.invokevirtual 43, 3) := by decide +kernel
theorem d_S_keyAfterInEither_12 : decode prog_9_method_8_code 12 = .ok (.invokestatic 47, 3) := by decide +kernel
theorem d_S_keyAfterInEither_15 : decode prog_9_method_8_code 15 = .ok (.ireturn, 1) := by decide +kernel
def Y_S_keyAfterInEither : sdY := ("SettingsDesk$Settings", prog_9_method_8_code, 4, (some .int), .code y_S_keyAfterInEither prog_9_method_8_code 4 (some .int) :: sdB0, { frames := 2, cells := 0, slots := 0, locals := 44 }, 0, 0)
theorem cw_S_keyAfterInEither_S_keyAfter_43 : sd_cwV Y_S_keyAfterInEither Y_S_keyAfter y_S_keyAfter 43 2 "SettingsDesk$Settings" := ⟨sd_goodV q51 q53 q54 q7 q52, ⟨_, rfl⟩, ⟨rfl, rfl, rfl, rfl⟩, ⟨rfl, by decide, by decide, by decide +kernel⟩, ⟨by decide, by decide⟩⟩
theorem cw_S_keyAfterInEither_JM_min_47 : sd_cwS Y_S_keyAfterInEither Y_JM_min y_JM_min 47 2 := ⟨sd_goodS q55 q57 q58 q56, ⟨_, rfl⟩, ⟨rfl, rfl, rfl, rfl⟩, ⟨by decide, by decide, by decide +kernel⟩, ⟨by decide, by decide⟩⟩
section
variable {l : Launch} {D : va_G} {dA : Nat → ClassId} {b n : Nat} {ad : Nat → Nat} {L : Nat → sdL} {sc : Option (Nat × Nat × (Nat → Int32))}
def w_S_keyAfterInEither (o : Nat) (M : sdM) (p1 : Nat) (a2 : Int32) (a3 : Int32) (Q : Int32 → sdM → Prop) : Prop := w_S_keyAfter o M a2 a3 (fun r8 M7 => w_S_keyAfter p1 M7 a2 a3 (fun r10 M9 => w_JM_min M9 r8 r10 (fun r12 M11 => Q r12 M11)))
set_option maxHeartbeats 1000000 in
theorem c_S_keyAfterInEither {p1 : Nat} {a2 : Int32} {a3 : Int32} {o : Nat} (hA : sd_ad b n ad) (hT : l.stackTraces = false) (ho : isS n L dA o) (hp1 : isS n L dA p1) {Q : Int32 → sdM → Prop} {M : sdM} (hw : w_S_keyAfterInEither o M p1 a2 a3 Q) : sd_Cn l (sdE0 sc) y_S_keyAfterInEither Y_S_keyAfterInEither.2.2.2.2.1 Y_S_keyAfterInEither.2.2.2.2.2.1 0 0 D (sd_tys dA) b n ad L M [.ref o, .ref p1, .int a2, .int a3] (sd_qi Q) sd_xf := by
  refine sd_enter (Y := Y_S_keyAfterInEither) rfl rfl rfl (Nat.le_of_ble_eq_true rfl) ?_
  show sdW l (sdE0 sc) Y_S_keyAfterInEither D (sd_tys dA) b n ad L ad (sd_H D (sdE0 sc).1 n ad L) (sd_qi Q) sd_xf 0 [(0, .ref o), (1, .ref p1), (2, .int a2), (3, .int a3)] [] M 0 0
  unfold w_S_keyAfterInEither at hw
  refine x_aload_n 0 0 d_S_keyAfterInEither_0 rfl rfl ?_
  refine x_iload_n 2 2 d_S_keyAfterInEither_1 rfl rfl ?_
  refine x_iload_n 3 3 d_S_keyAfterInEither_2 rfl rfl ?_
  refine x_callVi (As := [.int a2, .int a3]) (t := o) (rest := []) (rc := 0) (rs := 0) (c_S_keyAfter hA hT ho hw) cw_S_keyAfterInEither_S_keyAfter_43 ho.1 ho.2.1 rfl d_S_keyAfterInEither_3 rfl rfl (Nat.le_of_ble_eq_true rfl) (fun _ _ h => h.elim) (fun _ _ h => h) (fun r8 M7 hw => ?_)
  refine x_aload_n 1 1 d_S_keyAfterInEither_6 rfl rfl ?_
  refine x_iload_n 2 2 d_S_keyAfterInEither_7 rfl rfl ?_
  refine x_iload_n 3 3 d_S_keyAfterInEither_8 rfl rfl ?_
  refine x_callVi (As := [.int a2, .int a3]) (t := p1) (rest := [.int r8]) (rc := 0) (rs := 0) (c_S_keyAfter hA hT hp1 hw) cw_S_keyAfterInEither_S_keyAfter_43 hp1.1 hp1.2.1 rfl d_S_keyAfterInEither_9 rfl rfl (Nat.le_of_ble_eq_true rfl) (fun _ _ h => h.elim) (fun _ _ h => h) (fun r10 M9 hw => ?_)
  refine x_callSi (As := [.int r8, .int r10]) (rest := []) (rc := 0) (rs := 0) (c_JM_min hA hT  hw) cw_S_keyAfterInEither_JM_min_47 d_S_keyAfterInEither_12 rfl rfl (Nat.le_of_ble_eq_true rfl) (fun _ _ h => h.elim) (fun _ _ h => h) (fun r12 M11 hw => ?_)
  exact x_iret d_S_keyAfterInEither_15 rfl (fun _ h => h) ⟨_, rfl, hw⟩
end
theorem q59 : (.methodLink "SettingsDesk$Settings" 66 ⟨"SettingsDesk$Settings", "give", "(III)V"⟩ : Cond) ∈ sdB0 := sd_tb4 31 rfl rfl
theorem q60 : (.code ⟨"SettingsDesk$Settings", "give", "(III)V"⟩ prog_9_method_14_code 4 none : Cond) ∈ sdB0 := sd_tb3 170 rfl rfl
theorem q61 : (.instanceMethod ⟨"SettingsDesk$Settings", "give", "(III)V"⟩ : Cond) ∈ sdB0 := sd_tb3 168 rfl rfl
theorem q62 : (.selects "SettingsDesk$Settings" ⟨"SettingsDesk$Settings", "give", "(III)V"⟩ ⟨"SettingsDesk$Settings", "give", "(III)V"⟩ : Cond) ∈ sdB0 := sd_tb3 169 rfl rfl
abbrev y_S_copyLeaf : MethodName := ⟨"SettingsDesk$Settings", "copyLeaf", "(IILSettingsDesk$Settings;I)V"⟩
theorem d_S_copyLeaf_0 : decode prog_9_method_13_code 0 = .ok (.aload_n 3, 1) := by decide +kernel
theorem d_S_copyLeaf_1 : decode prog_9_method_13_code 1 = .ok (.iload 4, 2) := by decide +kernel
theorem d_S_copyLeaf_3 : decode prog_9_method_13_code 3 = .ok (.iload_n 2, 1) := by decide +kernel
theorem d_S_copyLeaf_4 : decode prog_9_method_13_code 4 = .ok (.invokevirtual 59, 3) := by decide +kernel
theorem d_S_copyLeaf_7 : decode prog_9_method_13_code 7 = .ok (.ifCond .eq (16), 3) := by decide +kernel
theorem d_S_copyLeaf_10 : decode prog_9_method_13_code 10 = .ok (.aload_n 0, 1) := by decide +kernel
theorem d_S_copyLeaf_11 : decode prog_9_method_13_code 11 = .ok (.iload_n 1, 1) := by decide +kernel
theorem d_S_copyLeaf_12 : decode prog_9_method_13_code 12 = .ok (.iload_n 2, 1) := by decide +kernel
theorem d_S_copyLeaf_13 : decode prog_9_method_13_code 13 = .ok (.aload_n 3, 1) := by decide +kernel
theorem d_S_copyLeaf_14 : decode prog_9_method_13_code 14 = .ok (.iload 4, 2) := by decide +kernel
theorem d_S_copyLeaf_16 : decode prog_9_method_13_code 16 = .ok (.iload_n 2, 1) := by decide +kernel
theorem d_S_copyLeaf_17 : decode prog_9_method_13_code 17 = .ok (.invokevirtual 63, 3) := by decide +kernel
theorem d_S_copyLeaf_20 : decode prog_9_method_13_code 20 = .ok (.invokevirtual 66, 3) := by decide +kernel
theorem d_S_copyLeaf_23 : decode prog_9_method_13_code 23 = .ok (.return_, 1) := by decide +kernel
def Y_S_copyLeaf : sdY := ("SettingsDesk$Settings", prog_9_method_13_code, 5, none, .code y_S_copyLeaf prog_9_method_13_code 5 none :: sdB0, { frames := 1, cells := 0, slots := 0, locals := 23 }, 0, 0)
theorem cw_S_copyLeaf_S_isGiven_59 : sd_cwV Y_S_copyLeaf Y_S_isGiven y_S_isGiven 59 2 "SettingsDesk$Settings" := ⟨sd_goodV q3 q5 q6 q7 q4, ⟨_, rfl⟩, ⟨rfl, rfl, rfl, rfl⟩, ⟨rfl, by decide, by decide, by decide +kernel⟩, ⟨by decide, by decide⟩⟩
theorem cw_S_copyLeaf_S_valueAt_63 : sd_cwV Y_S_copyLeaf Y_S_valueAt y_S_valueAt 63 2 "SettingsDesk$Settings" := ⟨sd_goodV q8 q10 q11 q7 q9, ⟨_, rfl⟩, ⟨rfl, rfl, rfl, rfl⟩, ⟨rfl, by decide, by decide, by decide +kernel⟩, ⟨by decide, by decide⟩⟩
theorem cw_S_copyLeaf_S_give_66 : sd_cwV Y_S_copyLeaf Y_S_give y_S_give 66 3 "SettingsDesk$Settings" := ⟨sd_goodV q59 q61 q62 q7 q60, ⟨_, rfl⟩, ⟨rfl, rfl, rfl, rfl⟩, ⟨rfl, by decide, by decide, by decide +kernel⟩, ⟨by decide, by decide⟩⟩
section
variable {l : Launch} {D : va_G} {dA : Nat → ClassId} {b n : Nat} {ad : Nat → Nat} {L : Nat → sdL} {sc : Option (Nat × Nat × (Nat → Int32))}
def k_S_copyLeaf_23 (o : Nat) (Q : sdM → Prop) (M : sdM) : Prop := Q M
set_option maxHeartbeats 1000000 in
theorem t_S_copyLeaf_23 {o : Nat} (hA : sd_ad b n ad) (hT : l.stackTraces = false) (ho : isS n L dA o) {Q : sdM → Prop} (M : sdM) (hw : k_S_copyLeaf_23 o Q M ) : sdW l (sdE0 sc) Y_S_copyLeaf D (sd_tys dA) b n ad L ad (sd_H D (sdE0 sc).1 n ad L) (sd_qv Q) sd_xf 23 [] [] M 0 0 := by
  unfold k_S_copyLeaf_23 at hw
  exact x_vret d_S_copyLeaf_23 rfl (fun _ h => h) ⟨rfl, hw⟩
def w_S_copyLeaf (o : Nat) (M : sdM) (a1 : Int32) (a2 : Int32) (p3 : Nat) (a4 : Int32) (Q : sdM → Prop) : Prop := w_S_isGiven p3 M a4 a2 (fun r7 M6 => (r7 = 0 → k_S_copyLeaf_23 o Q M6) ∧ (¬ r7 = 0 → w_S_valueAt p3 M6 a4 a2 (fun r9 M8 => w_S_give o M8 a1 a2 r9 (fun M10 => k_S_copyLeaf_23 o Q M10))))
set_option maxHeartbeats 1000000 in
theorem c_S_copyLeaf {a1 : Int32} {a2 : Int32} {p3 : Nat} {a4 : Int32} {o : Nat} (hA : sd_ad b n ad) (hT : l.stackTraces = false) (ho : isS n L dA o) (hp3 : isS n L dA p3) {Q : sdM → Prop} {M : sdM} (hw : w_S_copyLeaf o M a1 a2 p3 a4 Q) : sd_Cn l (sdE0 sc) y_S_copyLeaf Y_S_copyLeaf.2.2.2.2.1 Y_S_copyLeaf.2.2.2.2.2.1 0 0 D (sd_tys dA) b n ad L M [.ref o, .int a1, .int a2, .ref p3, .int a4] (sd_qv Q) sd_xf := by
  refine sd_enter (Y := Y_S_copyLeaf) rfl rfl rfl (Nat.le_of_ble_eq_true rfl) ?_
  show sdW l (sdE0 sc) Y_S_copyLeaf D (sd_tys dA) b n ad L ad (sd_H D (sdE0 sc).1 n ad L) (sd_qv Q) sd_xf 0 [(0, .ref o), (1, .int a1), (2, .int a2), (3, .ref p3), (4, .int a4)] [] M 0 0
  unfold w_S_copyLeaf at hw
  refine x_aload_n 3 3 d_S_copyLeaf_0 rfl rfl ?_
  refine x_iload 4 4 d_S_copyLeaf_1 rfl ?_
  refine x_iload_n 2 2 d_S_copyLeaf_3 rfl rfl ?_
  refine x_callVi (As := [.int a4, .int a2]) (t := p3) (rest := []) (rc := 0) (rs := 0) (c_S_isGiven hA hT hp3 hw) cw_S_copyLeaf_S_isGiven_59 hp3.1 hp3.2.1 rfl d_S_copyLeaf_4 rfl rfl (Nat.le_of_ble_eq_true rfl) (fun _ _ h => h.elim) (fun _ _ h => h) (fun r7 M6 hw => ?_)
  refine x_if_eq 23 d_S_copyLeaf_7 rfl (fun hc => ?_) (fun hc => ?_)
  · have hw := hw.1 hc
    refine x_sub [] [] rfl ?_
    exact t_S_copyLeaf_23 hA hT ho M6 hw
  · have hw := hw.2 hc
    refine x_aload_n 0 0 d_S_copyLeaf_10 rfl rfl ?_
    refine x_iload_n 1 1 d_S_copyLeaf_11 rfl rfl ?_
    refine x_iload_n 2 2 d_S_copyLeaf_12 rfl rfl ?_
    refine x_aload_n 3 3 d_S_copyLeaf_13 rfl rfl ?_
    refine x_iload 4 4 d_S_copyLeaf_14 rfl ?_
    refine x_iload_n 2 2 d_S_copyLeaf_16 rfl rfl ?_
    refine x_callVi (As := [.int a4, .int a2]) (t := p3) (rest := [.int a2, .int a1, .ref o]) (rc := 0) (rs := 0) (c_S_valueAt hA hT hp3 hw) cw_S_copyLeaf_S_valueAt_63 hp3.1 hp3.2.1 rfl d_S_copyLeaf_17 rfl rfl (Nat.le_of_ble_eq_true rfl) (fun _ _ h => h.elim) (fun _ _ h => h) (fun r9 M8 hw => ?_)
    refine x_callVv (As := [.int a1, .int a2, .int r9]) (t := o) (rest := []) (rc := 0) (rs := 0) (c_S_give hA hT ho hw) cw_S_copyLeaf_S_give_66 ho.1 ho.2.1 rfl d_S_copyLeaf_20 rfl rfl (Nat.le_of_ble_eq_true rfl) (fun _ _ h => h.elim) (fun _ _ h => h) (fun M10 hw => ?_)
    refine x_sub [] [] rfl ?_
    exact t_S_copyLeaf_23 hA hT ho M10 hw
end
abbrev y_S_entryCount : MethodName := ⟨"SettingsDesk$Settings", "entryCount", "()I"⟩
theorem d_S_entryCount_0 : decode prog_9_method_9_code 0 = .ok (.iconst 0, 1) := by decide +kernel
theorem d_S_entryCount_1 : decode prog_9_method_9_code 1 = .ok (.istore_n 1, 1) := by decide +kernel
theorem d_S_entryCount_2 : decode prog_9_method_9_code 2 = .ok (.iconst 0, 1) := by decide +kernel
theorem d_S_entryCount_3 : decode prog_9_method_9_code 3 = .ok (.istore_n 2, 1) := by decide +kernel
theorem d_S_entryCount_4 : decode prog_9_method_9_code 4 = .ok (.iload_n 2, 1) := by decide +kernel
theorem d_S_entryCount_5 : decode prog_9_method_9_code 5 = .ok (.iconst 4, 1) := by decide +kernel
theorem d_S_entryCount_6 : decode prog_9_method_9_code 6 = .ok (.if_icmp .ge (18), 3) := by decide +kernel
theorem d_S_entryCount_9 : decode prog_9_method_9_code 9 = .ok (.iload_n 1, 1) := by decide +kernel
theorem d_S_entryCount_10 : decode prog_9_method_9_code 10 = .ok (.aload_n 0, 1) := by decide +kernel
theorem d_S_entryCount_11 : decode prog_9_method_9_code 11 = .ok (.getfield 9, 3) := by decide +kernel
theorem d_S_entryCount_14 : decode prog_9_method_9_code 14 = .ok (.iload_n 2, 1) := by decide +kernel
theorem d_S_entryCount_15 : decode prog_9_method_9_code 15 = .ok (.iaload, 1) := by decide +kernel
theorem d_S_entryCount_16 : decode prog_9_method_9_code 16 = .ok (.iadd, 1) := by decide +kernel
theorem d_S_entryCount_17 : decode prog_9_method_9_code 17 = .ok (.istore_n 1, 1) := by decide +kernel
theorem d_S_entryCount_18 : decode prog_9_method_9_code 18 = .ok (.iinc 2 (1), 3) := by decide +kernel
theorem d_S_entryCount_21 : decode prog_9_method_9_code 21 = .ok (.goto (-17), 3) := by decide +kernel
theorem d_S_entryCount_24 : decode prog_9_method_9_code 24 = .ok (.iload_n 1, 1) := by decide +kernel
theorem d_S_entryCount_25 : decode prog_9_method_9_code 25 = .ok (.ireturn, 1) := by decide +kernel
def Y_S_entryCount : sdY := ("SettingsDesk$Settings", prog_9_method_9_code, 3, (some .int), .code y_S_entryCount prog_9_method_9_code 3 (some .int) :: sdB0, { frames := 0, cells := 0, slots := 0, locals := 0 }, 0, 0)
section
variable {l : Launch} {D : va_G} {dA : Nat → ClassId} {b n : Nat} {ad : Nat → Nat} {L : Nat → sdL} {sc : Option (Nat × Nat × (Nat → Int32))}
def h_S_entryCount_4 (o : Nat) (Q : Int32 → sdM → Prop) : Nat → sdM → Int32 → Int32 → Prop
  | 0, _, _, _ => False
  | N + 1, M, x1, x2 => ((4 : Int32) ≤ x2 → Q x1 M) ∧ (¬ (4 : Int32) ≤ x2 → vp_in x2 4 ∧ h_S_entryCount_4 o Q N M (x1 + (M (o + 1) x2.toNatClampNeg)) (x2 + 1))
set_option maxHeartbeats 1000000 in
theorem t_S_entryCount_4 {o : Nat} (hA : sd_ad b n ad) (hT : l.stackTraces = false) (ho : isS n L dA o) {Q : Int32 → sdM → Prop} (N : Nat) : ∀ (M : sdM) (x1 : Int32) (x2 : Int32), h_S_entryCount_4 o Q N M x1 x2 → sdW l (sdE0 sc) Y_S_entryCount D (sd_tys dA) b n ad L ad (sd_H D (sdE0 sc).1 n ad L) (sd_qi Q) sd_xf 4 [(0, .ref o), (1, .int x1), (2, .int x2)] [] M 0 0 := by
  induction N with
  | zero => intro M x1 x2 hw; exact hw.elim
  | succ N ih =>
    intro M x1 x2 hw
    rw [h_S_entryCount_4] at hw
    refine x_iload_n 2 2 d_S_entryCount_4 rfl rfl ?_
    refine x_iconst (v := 4) d_S_entryCount_5 (by decide) ?_
    refine x_icmp_ge 24 d_S_entryCount_6 rfl (fun hc => ?_) (fun hc => ?_)
    · have hw := hw.1 hc
      refine x_iload_n 1 1 d_S_entryCount_24 rfl rfl ?_
      exact x_iret d_S_entryCount_25 rfl (fun _ h => h) ⟨_, rfl, hw⟩
    · have hw := hw.2 hc
      refine x_iload_n 1 1 d_S_entryCount_9 rfl rfl ?_
      refine x_aload_n 0 0 d_S_entryCount_10 rfl rfl ?_
      refine x_getr 0 (o + 1) d_S_entryCount_11 ho.1 ho.2.1 rfl rfl (by decide) lay_S (List.mem_cons_of_mem _ q0) rfl ?_
      refine x_iload_n 2 2 d_S_entryCount_14 rfl rfl ?_
      obtain ⟨hi2, hw⟩ := hw
      refine x_iald d_S_entryCount_15 ho.counts.1 ho.counts.2 rfl hi2 ?_
      refine x_iadd d_S_entryCount_16 ?_
      refine x_istore_n 1 [(1, .int (x1 + (M (o + 1) x2.toNatClampNeg))), (0, .ref o), (2, .int x2)] d_S_entryCount_17 rfl (by decide) rfl ?_
      refine x_iinc 2 2 [(2, .int (x2 + 1)), (1, .int (x1 + (M (o + 1) x2.toNatClampNeg))), (0, .ref o)] d_S_entryCount_18 rfl (congrArg (HAdd.hAdd x2) (show Int32.ofInt 1 = 1 by decide)) (by decide) rfl ?_
      refine x_goto 4 d_S_entryCount_21 rfl ?_
      refine x_sub [2, 1, 0] [(0, .ref o), (1, .int (x1 + (M (o + 1) x2.toNatClampNeg))), (2, .int (x2 + 1))] rfl ?_
      exact ih M (x1 + (M (o + 1) x2.toNatClampNeg)) (x2 + 1) hw
def w_S_entryCount (o : Nat) (M : sdM) (Q : Int32 → sdM → Prop) : Prop := ∃ N9 : Nat, h_S_entryCount_4 o Q N9 M (0 : Int32) (0 : Int32)
set_option maxHeartbeats 1000000 in
theorem c_S_entryCount {o : Nat} (hA : sd_ad b n ad) (hT : l.stackTraces = false) (ho : isS n L dA o) {Q : Int32 → sdM → Prop} {M : sdM} (hw : w_S_entryCount o M Q) : sd_Cn l (sdE0 sc) y_S_entryCount Y_S_entryCount.2.2.2.2.1 Y_S_entryCount.2.2.2.2.2.1 0 0 D (sd_tys dA) b n ad L M [.ref o] (sd_qi Q) sd_xf := by
  refine sd_enter (Y := Y_S_entryCount) rfl rfl rfl (Nat.le_of_ble_eq_true rfl) ?_
  show sdW l (sdE0 sc) Y_S_entryCount D (sd_tys dA) b n ad L ad (sd_H D (sdE0 sc).1 n ad L) (sd_qi Q) sd_xf 0 [(0, .ref o)] [] M 0 0
  unfold w_S_entryCount at hw
  refine x_iconst (v := 0) d_S_entryCount_0 (by decide) ?_
  refine x_istore_n 1 [(1, .int (0 : Int32)), (0, .ref o)] d_S_entryCount_1 rfl (by decide) rfl ?_
  refine x_iconst (v := 0) d_S_entryCount_2 (by decide) ?_
  refine x_istore_n 2 [(2, .int (0 : Int32)), (1, .int (0 : Int32)), (0, .ref o)] d_S_entryCount_3 rfl (by decide) rfl ?_
  refine x_sub [2, 1, 0] [(0, .ref o), (1, .int (0 : Int32)), (2, .int (0 : Int32))] rfl ?_
  obtain ⟨N9, hw⟩ := hw
  exact t_S_entryCount_4 hA hT ho N9 M (0 : Int32) (0 : Int32) hw
end
end
section
theorem q63 : (.methodLink "SettingsDesk$Leaf" 3 ⟨"java/lang/Object", "<init>", "()V"⟩ : Cond) ∈ sdB0 := sd_tb1 44 rfl rfl
theorem q64 : (.instanceMethod ⟨"java/lang/Object", "<init>", "()V"⟩ : Cond) ∈ sdB0 := sd_tb1 28 rfl rfl
theorem q65 : (.code ⟨"java/lang/Object", "<init>", "()V"⟩ object_method_1_code 1 none : Cond) ∈ sdB0 := sd_tb1 29 rfl rfl
abbrev y_F_init : MethodName := ⟨"SettingsDesk$Leaf", "<init>", "()V"⟩
theorem d_F_init_0 : decode prog_4_method_1_code 0 = .ok (.aload_n 0, 1) := by decide +kernel
theorem d_F_init_1 : decode prog_4_method_1_code 1 = .ok (.invokespecial 3, 3) := by decide +kernel
theorem d_F_init_4 : decode prog_4_method_1_code 4 = .ok (.return_, 1) := by decide +kernel
def Y_F_init : sdY := ("SettingsDesk$Leaf", prog_4_method_1_code, 1, none, .code y_F_init prog_4_method_1_code 1 none :: sdB0, { frames := 1, cells := 0, slots := 0, locals := 12 }, 0, 0)
section
variable {l : Launch} {D : va_G} {dA : Nat → ClassId} {b n : Nat} {ad : Nat → Nat} {L : Nat → sdL} {sc : Option (Nat × Nat × (Nat → Int32))}
def w_F_init (o : Nat) (M : sdM) (Q : sdM → Prop) : Prop := Q M
set_option maxHeartbeats 1000000 in
theorem c_F_init {o : Nat} (hA : sd_ad b n ad) (hT : l.stackTraces = false) (ho : isF n L o) {Q : sdM → Prop} {M : sdM} (hw : w_F_init o M Q) : sd_Cn l (sdE0 sc) y_F_init Y_F_init.2.2.2.2.1 Y_F_init.2.2.2.2.2.1 0 0 D (sd_tys dA) b n ad L M [.ref o] (sd_qv Q) sd_xf := by
  refine sd_enter (Y := Y_F_init) rfl rfl rfl (Nat.le_of_ble_eq_true rfl) ?_
  show sdW l (sdE0 sc) Y_F_init D (sd_tys dA) b n ad L ad (sd_H D (sdE0 sc).1 n ad L) (sd_qv Q) sd_xf 0 [(0, .ref o)] [] M 0 0
  unfold w_F_init at hw
  refine x_aload_n 0 0 d_F_init_0 rfl rfl ?_
  refine x_objInit d_F_init_1 (List.mem_cons_of_mem _ q63) (List.mem_cons_of_mem _ q64) (List.mem_cons_of_mem _ q65) (by decide) (Nat.le_of_ble_eq_true rfl) ?_
  exact x_vret d_F_init_4 rfl (fun _ h => h) ⟨rfl, hw⟩
end
theorem q66 : (.methodLink "SettingsDesk$Rule" 1 ⟨"java/lang/Object", "<init>", "()V"⟩ : Cond) ∈ sdB0 := sd_tb1 82 rfl rfl
abbrev y_R_init : MethodName := ⟨"SettingsDesk$Rule", "<init>", "()V"⟩
theorem d_R_init_0 : decode prog_6_method_1_code 0 = .ok (.aload_n 0, 1) := by decide +kernel
theorem d_R_init_1 : decode prog_6_method_1_code 1 = .ok (.invokespecial 1, 3) := by decide +kernel
theorem d_R_init_4 : decode prog_6_method_1_code 4 = .ok (.return_, 1) := by decide +kernel
def Y_R_init : sdY := ("SettingsDesk$Rule", prog_6_method_1_code, 1, none, .code y_R_init prog_6_method_1_code 1 none :: sdB0, { frames := 1, cells := 0, slots := 0, locals := 12 }, 0, 0)
section
variable {l : Launch} {D : va_G} {dA : Nat → ClassId} {b n : Nat} {ad : Nat → Nat} {L : Nat → sdL} {sc : Option (Nat × Nat × (Nat → Int32))}
def w_R_init (o : Nat) (M : sdM) (Q : sdM → Prop) : Prop := Q M
set_option maxHeartbeats 1000000 in
theorem c_R_init {o : Nat} (hA : sd_ad b n ad) (hT : l.stackTraces = false) (ho : isR n L o) {Q : sdM → Prop} {M : sdM} (hw : w_R_init o M Q) : sd_Cn l (sdE0 sc) y_R_init Y_R_init.2.2.2.2.1 Y_R_init.2.2.2.2.2.1 0 0 D (sd_tys dA) b n ad L M [.ref o] (sd_qv Q) sd_xf := by
  refine sd_enter (Y := Y_R_init) rfl rfl rfl (Nat.le_of_ble_eq_true rfl) ?_
  show sdW l (sdE0 sc) Y_R_init D (sd_tys dA) b n ad L ad (sd_H D (sdE0 sc).1 n ad L) (sd_qv Q) sd_xf 0 [(0, .ref o)] [] M 0 0
  unfold w_R_init at hw
  refine x_aload_n 0 0 d_R_init_0 rfl rfl ?_
  refine x_objInit d_R_init_1 (List.mem_cons_of_mem _ q66) (List.mem_cons_of_mem _ q64) (List.mem_cons_of_mem _ q65) (by decide) (Nat.le_of_ble_eq_true rfl) ?_
  exact x_vret d_R_init_4 rfl (fun _ h => h) ⟨rfl, hw⟩
end
theorem q67 : (.methodLink "SettingsDesk$Trouble" 1 ⟨"java/lang/Object", "<init>", "()V"⟩ : Cond) ∈ sdB0 := sd_tb1 161 rfl rfl
theorem q68 : (.fieldLink "SettingsDesk$Trouble" 7 "SettingsDesk$Trouble" "fault" "I" : Cond) ∈ sdB0 := sd_tb1 162 rfl rfl
theorem q69 : (.fieldLink "SettingsDesk$Trouble" 13 "SettingsDesk$Trouble" "atList" "I" : Cond) ∈ sdB0 := sd_tb1 164 rfl rfl
theorem q70 : (.fieldLink "SettingsDesk$Trouble" 16 "SettingsDesk$Trouble" "atKey" "I" : Cond) ∈ sdB0 := sd_tb1 166 rfl rfl
theorem q71 : (.fieldLink "SettingsDesk$Trouble" 19 "SettingsDesk$Trouble" "atPart" "I" : Cond) ∈ sdB0 := sd_tb1 168 rfl rfl
abbrev y_T_init : MethodName := ⟨"SettingsDesk$Trouble", "<init>", "()V"⟩
theorem d_T_init_0 : decode prog_10_method_1_code 0 = .ok (.aload_n 0, 1) := by decide +kernel
theorem d_T_init_1 : decode prog_10_method_1_code 1 = .ok (.invokespecial 1, 3) := by decide +kernel
theorem d_T_init_4 : decode prog_10_method_1_code 4 = .ok (.aload_n 0, 1) := by decide +kernel
theorem d_T_init_5 : decode prog_10_method_1_code 5 = .ok (.iconst 0, 1) := by decide +kernel
theorem d_T_init_6 : decode prog_10_method_1_code 6 = .ok (.putfield 7, 3) := by decide +kernel
theorem d_T_init_9 : decode prog_10_method_1_code 9 = .ok (.aload_n 0, 1) := by decide +kernel
theorem d_T_init_10 : decode prog_10_method_1_code 10 = .ok (.iconst 0, 1) := by decide +kernel
theorem d_T_init_11 : decode prog_10_method_1_code 11 = .ok (.putfield 13, 3) := by decide +kernel
theorem d_T_init_14 : decode prog_10_method_1_code 14 = .ok (.aload_n 0, 1) := by decide +kernel
theorem d_T_init_15 : decode prog_10_method_1_code 15 = .ok (.iconst 0, 1) := by decide +kernel
theorem d_T_init_16 : decode prog_10_method_1_code 16 = .ok (.putfield 16, 3) := by decide +kernel
theorem d_T_init_19 : decode prog_10_method_1_code 19 = .ok (.aload_n 0, 1) := by decide +kernel
theorem d_T_init_20 : decode prog_10_method_1_code 20 = .ok (.iconst 0, 1) := by decide +kernel
theorem d_T_init_21 : decode prog_10_method_1_code 21 = .ok (.putfield 19, 3) := by decide +kernel
theorem d_T_init_24 : decode prog_10_method_1_code 24 = .ok (.return_, 1) := by decide +kernel
def Y_T_init : sdY := ("SettingsDesk$Trouble", prog_10_method_1_code, 1, none, .code y_T_init prog_10_method_1_code 1 none :: sdB0, { frames := 1, cells := 0, slots := 0, locals := 12 }, 0, 0)
section
variable {l : Launch} {D : va_G} {dA : Nat → ClassId} {b n : Nat} {ad : Nat → Nat} {L : Nat → sdL} {sc : Option (Nat × Nat × (Nat → Int32))}
def w_T_init (o : Nat) (M : sdM) (Q : sdM → Prop) : Prop := ∀ M9 : sdM, M9 = sd_s M o 0 (0 : Int32) → ∀ M11 : sdM, M11 = sd_s M9 o 1 (0 : Int32) → ∀ M13 : sdM, M13 = sd_s M11 o 2 (0 : Int32) → ∀ M15 : sdM, M15 = sd_s M13 o 3 (0 : Int32) → Q M15
set_option maxHeartbeats 1000000 in
theorem c_T_init {o : Nat} (hA : sd_ad b n ad) (hT : l.stackTraces = false) (ho : isT n L o) {Q : sdM → Prop} {M : sdM} (hw : w_T_init o M Q) : sd_Cn l (sdE0 sc) y_T_init Y_T_init.2.2.2.2.1 Y_T_init.2.2.2.2.2.1 0 0 D (sd_tys dA) b n ad L M [.ref o] (sd_qv Q) sd_xf := by
  refine sd_enter (Y := Y_T_init) rfl rfl rfl (Nat.le_of_ble_eq_true rfl) ?_
  show sdW l (sdE0 sc) Y_T_init D (sd_tys dA) b n ad L ad (sd_H D (sdE0 sc).1 n ad L) (sd_qv Q) sd_xf 0 [(0, .ref o)] [] M 0 0
  unfold w_T_init at hw
  refine x_aload_n 0 0 d_T_init_0 rfl rfl ?_
  refine x_objInit d_T_init_1 (List.mem_cons_of_mem _ q67) (List.mem_cons_of_mem _ q64) (List.mem_cons_of_mem _ q65) (by decide) (Nat.le_of_ble_eq_true rfl) ?_
  refine x_aload_n 0 0 d_T_init_4 rfl rfl ?_
  refine x_iconst (v := 0) d_T_init_5 (by decide) ?_
  refine x_puti 0 (ty := .int) hA d_T_init_6 ho.1 ho.2 rfl rfl (by decide) lay_T (List.mem_cons_of_mem _ q68) rfl ty_T ty_T_ok nm_T rfl (by decide +kernel) rfl rfl (fun M9 e10 => ?_)
  have hw := hw M9 e10
  clear e10
  refine x_aload_n 0 0 d_T_init_9 rfl rfl ?_
  refine x_iconst (v := 0) d_T_init_10 (by decide) ?_
  refine x_puti 1 (ty := .int) hA d_T_init_11 ho.1 ho.2 rfl rfl (by decide) lay_T (List.mem_cons_of_mem _ q69) rfl ty_T ty_T_ok nm_T rfl (by decide +kernel) rfl rfl (fun M11 e12 => ?_)
  have hw := hw M11 e12
  clear e12
  refine x_aload_n 0 0 d_T_init_14 rfl rfl ?_
  refine x_iconst (v := 0) d_T_init_15 (by decide) ?_
  refine x_puti 2 (ty := .int) hA d_T_init_16 ho.1 ho.2 rfl rfl (by decide) lay_T (List.mem_cons_of_mem _ q70) rfl ty_T ty_T_ok nm_T rfl (by decide +kernel) rfl rfl (fun M13 e14 => ?_)
  have hw := hw M13 e14
  clear e14
  refine x_aload_n 0 0 d_T_init_19 rfl rfl ?_
  refine x_iconst (v := 0) d_T_init_20 (by decide) ?_
  refine x_puti 3 (ty := .int) hA d_T_init_21 ho.1 ho.2 rfl rfl (by decide) lay_T (List.mem_cons_of_mem _ q71) rfl ty_T ty_T_ok nm_T rfl (by decide +kernel) rfl rfl (fun M15 e16 => ?_)
  have hw := hw M15 e16
  clear e16
  exact x_vret d_T_init_24 rfl (fun _ h => h) ⟨rfl, hw⟩
end
theorem q72 : (.fieldLink "SettingsDesk$Schema" 15 "SettingsDesk$Schema" "lists" "I" : Cond) ∈ sdB0 := sd_tb1 106 rfl rfl
abbrev y_C_hasList : MethodName := ⟨"SettingsDesk$Schema", "hasList", "(I)Z"⟩
theorem d_C_hasList_0 : decode prog_7_method_2_code 0 = .ok (.iload_n 1, 1) := by decide +kernel
theorem d_C_hasList_1 : decode prog_7_method_2_code 1 = .ok (.ifCond .lt (15), 3) := by decide +kernel
theorem d_C_hasList_4 : decode prog_7_method_2_code 4 = .ok (.iload_n 1, 1) := by decide +kernel
theorem d_C_hasList_5 : decode prog_7_method_2_code 5 = .ok (.aload_n 0, 1) := by decide +kernel
theorem d_C_hasList_6 : decode prog_7_method_2_code 6 = .ok (.getfield 15, 3) := by decide +kernel
theorem d_C_hasList_9 : decode prog_7_method_2_code 9 = .ok (.if_icmp .ge (7), 3) := by decide +kernel
theorem d_C_hasList_12 : decode prog_7_method_2_code 12 = .ok (.iconst 1, 1) := by decide +kernel
theorem d_C_hasList_13 : decode prog_7_method_2_code 13 = .ok (.goto (4), 3) := by decide +kernel
theorem d_C_hasList_16 : decode prog_7_method_2_code 16 = .ok (.iconst 0, 1) := by decide +kernel
theorem d_C_hasList_17 : decode prog_7_method_2_code 17 = .ok (.ireturn, 1) := by decide +kernel
def Y_C_hasList : sdY := ("SettingsDesk$Schema", prog_7_method_2_code, 2, (some .boolean), .code y_C_hasList prog_7_method_2_code 2 (some .boolean) :: sdB0, { frames := 0, cells := 0, slots := 0, locals := 0 }, 0, 0)
section
variable {l : Launch} {D : va_G} {dA : Nat → ClassId} {b n : Nat} {ad : Nat → Nat} {L : Nat → sdL} {sc : Option (Nat × Nat × (Nat → Int32))}
def k_C_hasList_17 (Q : Int32 → sdM → Prop) (M : sdM) (s0 : Int32) : Prop := sdB s0 ∧ Q s0 M
set_option maxHeartbeats 1000000 in
theorem t_C_hasList_17 (hA : sd_ad b n ad) (hT : l.stackTraces = false) (hC : isC n L dA) {Q : Int32 → sdM → Prop} (M : sdM) (s0 : Int32) (hw : k_C_hasList_17 Q M s0) : sdW l (sdE0 sc) Y_C_hasList D (sd_tys dA) b n ad L ad (sd_H D (sdE0 sc).1 n ad L) (sd_qi Q) sd_xf 17 [] [.int s0] M 0 0 := by
  unfold k_C_hasList_17 at hw
  exact x_zret d_C_hasList_17 rfl (sdB_n hw.1) (fun _ h => h) ⟨_, rfl, hw.2⟩
def k_C_hasList_16 (Q : Int32 → sdM → Prop) (M : sdM) : Prop := k_C_hasList_17 Q M (0 : Int32)
set_option maxHeartbeats 1000000 in
theorem t_C_hasList_16 (hA : sd_ad b n ad) (hT : l.stackTraces = false) (hC : isC n L dA) {Q : Int32 → sdM → Prop} (M : sdM) (hw : k_C_hasList_16 Q M ) : sdW l (sdE0 sc) Y_C_hasList D (sd_tys dA) b n ad L ad (sd_H D (sdE0 sc).1 n ad L) (sd_qi Q) sd_xf 16 [] [] M 0 0 := by
  unfold k_C_hasList_16 at hw
  refine x_iconst (v := 0) d_C_hasList_16 (by decide) ?_
  exact t_C_hasList_17 hA hT hC M (0 : Int32) hw
def w_C_hasList (M : sdM) (a1 : Int32) (Q : Int32 → sdM → Prop) : Prop := (a1 < 0 → k_C_hasList_16 Q M) ∧ (¬ a1 < 0 → ((M 1 1) ≤ a1 → k_C_hasList_16 Q M) ∧ (¬ (M 1 1) ≤ a1 → k_C_hasList_17 Q M (1 : Int32)))
set_option maxHeartbeats 1000000 in
theorem c_C_hasList {a1 : Int32} (hA : sd_ad b n ad) (hT : l.stackTraces = false) (hC : isC n L dA) {Q : Int32 → sdM → Prop} {M : sdM} (hw : w_C_hasList M a1 Q) : sd_Cn l (sdE0 sc) y_C_hasList Y_C_hasList.2.2.2.2.1 Y_C_hasList.2.2.2.2.2.1 0 0 D (sd_tys dA) b n ad L M [.ref 1, .int a1] (sd_qi Q) sd_xf := by
  refine sd_enter (Y := Y_C_hasList) rfl rfl rfl (Nat.le_of_ble_eq_true rfl) ?_
  show sdW l (sdE0 sc) Y_C_hasList D (sd_tys dA) b n ad L ad (sd_H D (sdE0 sc).1 n ad L) (sd_qi Q) sd_xf 0 [(0, .ref 1), (1, .int a1)] [] M 0 0
  unfold w_C_hasList at hw
  refine x_iload_n 1 1 d_C_hasList_0 rfl rfl ?_
  refine x_if_lt 16 d_C_hasList_1 rfl (fun hc => ?_) (fun hc => ?_)
  · have hw := hw.1 hc
    refine x_sub [] [] rfl ?_
    exact t_C_hasList_16 hA hT hC M hw
  · have hw := hw.2 hc
    refine x_iload_n 1 1 d_C_hasList_4 rfl rfl ?_
    refine x_aload_n 0 0 d_C_hasList_5 rfl rfl ?_
    refine x_geti 1 d_C_hasList_6 hC.1 hC.2.1 rfl rfl (by decide) lay_C (List.mem_cons_of_mem _ q72) rfl ?_
    refine x_icmp_ge 16 d_C_hasList_9 rfl (fun hc => ?_) (fun hc => ?_)
    · have hw := hw.1 hc
      refine x_sub [] [] rfl ?_
      exact t_C_hasList_16 hA hT hC M hw
    · have hw := hw.2 hc
      refine x_iconst (v := 1) d_C_hasList_12 (by decide) ?_
      refine x_goto 17 d_C_hasList_13 rfl ?_
      refine x_sub [] [] rfl ?_
      exact t_C_hasList_17 hA hT hC M (1 : Int32) hw
end
theorem q73 : (.methodLink "SettingsDesk$Schema" 40 ⟨"SettingsDesk$Schema", "hasList", "(I)Z"⟩ : Cond) ∈ sdB0 := sd_tb2 178 rfl rfl
theorem q74 : (.code ⟨"SettingsDesk$Schema", "hasList", "(I)Z"⟩ prog_7_method_2_code 2 (some .boolean) : Cond) ∈ sdB0 := sd_tb2 156 rfl rfl
theorem q75 : (.instanceMethod ⟨"SettingsDesk$Schema", "hasList", "(I)Z"⟩ : Cond) ∈ sdB0 := sd_tb2 154 rfl rfl
theorem q76 : (.selects "SettingsDesk$Schema" ⟨"SettingsDesk$Schema", "hasList", "(I)Z"⟩ ⟨"SettingsDesk$Schema", "hasList", "(I)Z"⟩ : Cond) ∈ sdB0 := sd_tb2 155 rfl rfl
theorem q77 : (.initialized "SettingsDesk$Schema" : Cond) ∈ sdB0 := sd_tb1 2 rfl rfl
abbrev y_C_allowsLeaf : MethodName := ⟨"SettingsDesk$Schema", "allowsLeaf", "(III)Z"⟩
theorem d_C_allowsLeaf_0 : decode prog_7_method_5_code 0 = .ok (.iload_n 1, 1) := by decide +kernel
theorem d_C_allowsLeaf_1 : decode prog_7_method_5_code 1 = .ok (.ifCond .ne (14), 3) := by decide +kernel
theorem d_C_allowsLeaf_4 : decode prog_7_method_5_code 4 = .ok (.iload_n 2, 1) := by decide +kernel
theorem d_C_allowsLeaf_5 : decode prog_7_method_5_code 5 = .ok (.iload_n 3, 1) := by decide +kernel
theorem d_C_allowsLeaf_6 : decode prog_7_method_5_code 6 = .ok (.if_icmp .gt (7), 3) := by decide +kernel
theorem d_C_allowsLeaf_9 : decode prog_7_method_5_code 9 = .ok (.iconst 1, 1) := by decide +kernel
theorem d_C_allowsLeaf_10 : decode prog_7_method_5_code 10 = .ok (.goto (4), 3) := by decide +kernel
theorem d_C_allowsLeaf_13 : decode prog_7_method_5_code 13 = .ok (.iconst 0, 1) := by decide +kernel
theorem d_C_allowsLeaf_14 : decode prog_7_method_5_code 14 = .ok (.ireturn, 1) := by decide +kernel
theorem d_C_allowsLeaf_15 : decode prog_7_method_5_code 15 = .ok (.iload_n 1, 1) := by decide +kernel
theorem d_C_allowsLeaf_16 : decode prog_7_method_5_code 16 = .ok (.iconst 1, 1) := by decide +kernel
theorem d_C_allowsLeaf_17 : decode prog_7_method_5_code 17 = .ok (.if_icmp .ne (19), 3) := by decide +kernel
theorem d_C_allowsLeaf_20 : decode prog_7_method_5_code 20 = .ok (.iload_n 2, 1) := by decide +kernel
theorem d_C_allowsLeaf_21 : decode prog_7_method_5_code 21 = .ok (.ifCond .eq (15), 3) := by decide +kernel
theorem d_C_allowsLeaf_24 : decode prog_7_method_5_code 24 = .ok (.aload_n 0, 1) := by decide +kernel
theorem d_C_allowsLeaf_25 : decode prog_7_method_5_code 25 = .ok (.iload_n 2, 1) := by decide +kernel
theorem d_C_allowsLeaf_26 : decode prog_7_method_5_code 26 = .ok (.invokevirtual 40, 3) := by decide +kernel
theorem d_C_allowsLeaf_29 : decode prog_7_method_5_code 29 = .ok (.ifCond .eq (7), 3) := by decide +kernel
theorem d_C_allowsLeaf_32 : decode prog_7_method_5_code 32 = .ok (.iconst 1, 1) := by decide +kernel
theorem d_C_allowsLeaf_33 : decode prog_7_method_5_code 33 = .ok (.goto (4), 3) := by decide +kernel
theorem d_C_allowsLeaf_36 : decode prog_7_method_5_code 36 = .ok (.iconst 0, 1) := by decide +kernel
theorem d_C_allowsLeaf_37 : decode prog_7_method_5_code 37 = .ok (.ireturn, 1) := by decide +kernel
def Y_C_allowsLeaf : sdY := ("SettingsDesk$Schema", prog_7_method_5_code, 4, (some .boolean), .code y_C_allowsLeaf prog_7_method_5_code 4 (some .boolean) :: sdB0, { frames := 1, cells := 0, slots := 0, locals := 21 }, 0, 0)
theorem cw_C_allowsLeaf_C_hasList_40 : sd_cwV Y_C_allowsLeaf Y_C_hasList y_C_hasList 40 1 "SettingsDesk$Schema" := ⟨sd_goodV q73 q75 q76 q77 q74, ⟨_, rfl⟩, ⟨rfl, rfl, rfl, rfl⟩, ⟨rfl, by decide, by decide, by decide +kernel⟩, ⟨by decide, by decide⟩⟩
section
variable {l : Launch} {D : va_G} {dA : Nat → ClassId} {b n : Nat} {ad : Nat → Nat} {L : Nat → sdL} {sc : Option (Nat × Nat × (Nat → Int32))}
def k_C_allowsLeaf_37 (Q : Int32 → sdM → Prop) (M : sdM) (s0 : Int32) : Prop := sdB s0 ∧ Q s0 M
set_option maxHeartbeats 1000000 in
theorem t_C_allowsLeaf_37 (hA : sd_ad b n ad) (hT : l.stackTraces = false) (hC : isC n L dA) {Q : Int32 → sdM → Prop} (M : sdM) (s0 : Int32) (hw : k_C_allowsLeaf_37 Q M s0) : sdW l (sdE0 sc) Y_C_allowsLeaf D (sd_tys dA) b n ad L ad (sd_H D (sdE0 sc).1 n ad L) (sd_qi Q) sd_xf 37 [] [.int s0] M 0 0 := by
  unfold k_C_allowsLeaf_37 at hw
  exact x_zret d_C_allowsLeaf_37 rfl (sdB_n hw.1) (fun _ h => h) ⟨_, rfl, hw.2⟩
def k_C_allowsLeaf_36 (Q : Int32 → sdM → Prop) (M : sdM) : Prop := k_C_allowsLeaf_37 Q M (0 : Int32)
set_option maxHeartbeats 1000000 in
theorem t_C_allowsLeaf_36 (hA : sd_ad b n ad) (hT : l.stackTraces = false) (hC : isC n L dA) {Q : Int32 → sdM → Prop} (M : sdM) (hw : k_C_allowsLeaf_36 Q M ) : sdW l (sdE0 sc) Y_C_allowsLeaf D (sd_tys dA) b n ad L ad (sd_H D (sdE0 sc).1 n ad L) (sd_qi Q) sd_xf 36 [] [] M 0 0 := by
  unfold k_C_allowsLeaf_36 at hw
  refine x_iconst (v := 0) d_C_allowsLeaf_36 (by decide) ?_
  exact t_C_allowsLeaf_37 hA hT hC M (0 : Int32) hw
def k_C_allowsLeaf_14 (Q : Int32 → sdM → Prop) (M : sdM) (s0 : Int32) : Prop := sdB s0 ∧ Q s0 M
set_option maxHeartbeats 1000000 in
theorem t_C_allowsLeaf_14 (hA : sd_ad b n ad) (hT : l.stackTraces = false) (hC : isC n L dA) {Q : Int32 → sdM → Prop} (M : sdM) (s0 : Int32) (hw : k_C_allowsLeaf_14 Q M s0) : sdW l (sdE0 sc) Y_C_allowsLeaf D (sd_tys dA) b n ad L ad (sd_H D (sdE0 sc).1 n ad L) (sd_qi Q) sd_xf 14 [] [.int s0] M 0 0 := by
  unfold k_C_allowsLeaf_14 at hw
  exact x_zret d_C_allowsLeaf_14 rfl (sdB_n hw.1) (fun _ h => h) ⟨_, rfl, hw.2⟩
def w_C_allowsLeaf (M : sdM) (a1 : Int32) (a2 : Int32) (a3 : Int32) (Q : Int32 → sdM → Prop) : Prop := (¬ a1 = 0 → (¬ a1 = (1 : Int32) → k_C_allowsLeaf_36 Q M) ∧ (a1 = (1 : Int32) → (a2 = 0 → k_C_allowsLeaf_36 Q M) ∧ (¬ a2 = 0 → w_C_hasList M a2 (fun r4 M3 => (r4 = 0 → k_C_allowsLeaf_36 Q M3) ∧ (¬ r4 = 0 → k_C_allowsLeaf_37 Q M3 (1 : Int32)))))) ∧ (a1 = 0 → (a3 < a2 → k_C_allowsLeaf_14 Q M (0 : Int32)) ∧ (¬ a3 < a2 → k_C_allowsLeaf_14 Q M (1 : Int32)))
set_option maxHeartbeats 1000000 in
theorem c_C_allowsLeaf {a1 : Int32} {a2 : Int32} {a3 : Int32} (hA : sd_ad b n ad) (hT : l.stackTraces = false) (hC : isC n L dA) {Q : Int32 → sdM → Prop} {M : sdM} (hw : w_C_allowsLeaf M a1 a2 a3 Q) : sd_Cn l (sdE0 sc) y_C_allowsLeaf Y_C_allowsLeaf.2.2.2.2.1 Y_C_allowsLeaf.2.2.2.2.2.1 0 0 D (sd_tys dA) b n ad L M [.ref 1, .int a1, .int a2, .int a3] (sd_qi Q) sd_xf := by
  refine sd_enter (Y := Y_C_allowsLeaf) rfl rfl rfl (Nat.le_of_ble_eq_true rfl) ?_
  show sdW l (sdE0 sc) Y_C_allowsLeaf D (sd_tys dA) b n ad L ad (sd_H D (sdE0 sc).1 n ad L) (sd_qi Q) sd_xf 0 [(0, .ref 1), (1, .int a1), (2, .int a2), (3, .int a3)] [] M 0 0
  unfold w_C_allowsLeaf at hw
  refine x_iload_n 1 1 d_C_allowsLeaf_0 rfl rfl ?_
  refine x_if_ne 15 d_C_allowsLeaf_1 rfl (fun hc => ?_) (fun hc => ?_)
  · have hw := hw.1 hc
    refine x_iload_n 1 1 d_C_allowsLeaf_15 rfl rfl ?_
    refine x_iconst (v := 1) d_C_allowsLeaf_16 (by decide) ?_
    refine x_icmp_ne 36 d_C_allowsLeaf_17 rfl (fun hc => ?_) (fun hc => ?_)
    · have hw := hw.1 hc
      refine x_sub [] [] rfl ?_
      exact t_C_allowsLeaf_36 hA hT hC M hw
    · have hw := hw.2 hc
      refine x_iload_n 2 2 d_C_allowsLeaf_20 rfl rfl ?_
      refine x_if_eq 36 d_C_allowsLeaf_21 rfl (fun hc => ?_) (fun hc => ?_)
      · have hw := hw.1 hc
        refine x_sub [] [] rfl ?_
        exact t_C_allowsLeaf_36 hA hT hC M hw
      · have hw := hw.2 hc
        refine x_aload_n 0 0 d_C_allowsLeaf_24 rfl rfl ?_
        refine x_iload_n 2 2 d_C_allowsLeaf_25 rfl rfl ?_
        refine x_callVi (As := [.int a2]) (t := 1) (rest := []) (rc := 0) (rs := 0) (c_C_hasList hA hT hC hw) cw_C_allowsLeaf_C_hasList_40 hC.1 hC.2.1 rfl d_C_allowsLeaf_26 rfl rfl (Nat.le_of_ble_eq_true rfl) (fun _ _ h => h.elim) (fun _ _ h => h) (fun r4 M3 hw => ?_)
        refine x_if_eq 36 d_C_allowsLeaf_29 rfl (fun hc => ?_) (fun hc => ?_)
        · have hw := hw.1 hc
          refine x_sub [] [] rfl ?_
          exact t_C_allowsLeaf_36 hA hT hC M3 hw
        · have hw := hw.2 hc
          refine x_iconst (v := 1) d_C_allowsLeaf_32 (by decide) ?_
          refine x_goto 37 d_C_allowsLeaf_33 rfl ?_
          refine x_sub [] [] rfl ?_
          exact t_C_allowsLeaf_37 hA hT hC M3 (1 : Int32) hw
  · have hw := hw.2 hc
    refine x_iload_n 2 2 d_C_allowsLeaf_4 rfl rfl ?_
    refine x_iload_n 3 3 d_C_allowsLeaf_5 rfl rfl ?_
    refine x_icmp_gt 13 d_C_allowsLeaf_6 rfl (fun hc => ?_) (fun hc => ?_)
    · have hw := hw.1 hc
      refine x_iconst (v := 0) d_C_allowsLeaf_13 (by decide) ?_
      refine x_sub [] [] rfl ?_
      exact t_C_allowsLeaf_14 hA hT hC M (0 : Int32) hw
    · have hw := hw.2 hc
      refine x_iconst (v := 1) d_C_allowsLeaf_9 (by decide) ?_
      refine x_goto 14 d_C_allowsLeaf_10 rfl ?_
      refine x_sub [] [] rfl ?_
      exact t_C_allowsLeaf_14 hA hT hC M (1 : Int32) hw
end
theorem q78 : (.fieldLink "SettingsDesk$Schema" 25 "SettingsDesk$Schema" "leafTable" "[LSettingsDesk$Leaf;" : Cond) ∈ sdB0 := sd_tb1 112 rfl rfl
abbrev y_C_leafAt : MethodName := ⟨"SettingsDesk$Schema", "leafAt", "(II)LSettingsDesk$Leaf;"⟩
theorem d_C_leafAt_0 : decode prog_7_method_4_code 0 = .ok (.aload_n 0, 1) := by decide +kernel
theorem d_C_leafAt_1 : decode prog_7_method_4_code 1 = .ok (.getfield 25, 3) := by decide +kernel
theorem d_C_leafAt_4 : decode prog_7_method_4_code 4 = .ok (.iload_n 1, 1) := by decide +kernel
theorem d_C_leafAt_5 : decode prog_7_method_4_code 5 = .ok (.iconst 4, 1) := by decide +kernel
theorem d_C_leafAt_6 : decode prog_7_method_4_code 6 = .ok (.imul, 1) := by decide +kernel
theorem d_C_leafAt_7 : decode prog_7_method_4_code 7 = .ok (.iload_n 2, 1) := by decide +kernel
theorem d_C_leafAt_8 : decode prog_7_method_4_code 8 = .ok (.iadd, 1) := by decide +kernel
theorem d_C_leafAt_9 : decode prog_7_method_4_code 9 = .ok (.aaload, 1) := by decide +kernel
theorem d_C_leafAt_10 : decode prog_7_method_4_code 10 = .ok (.areturn, 1) := by decide +kernel
def Y_C_leafAt : sdY := ("SettingsDesk$Schema", prog_7_method_4_code, 3, (some (.object "SettingsDesk$Leaf")), .code y_C_leafAt prog_7_method_4_code 3 (some (.object "SettingsDesk$Leaf")) :: sdB0, { frames := 0, cells := 0, slots := 0, locals := 0 }, 0, 0)
section
variable {l : Launch} {D : va_G} {dA : Nat → ClassId} {b n : Nat} {ad : Nat → Nat} {L : Nat → sdL} {sc : Option (Nat × Nat × (Nat → Int32))}
def w_C_leafAt (M : sdM) (a1 : Int32) (a2 : Int32) (Q : Nat → sdM → Prop) : Prop := vp_in ((a1 * (4 : Int32)) + a2) 16 ∧ Q (5 + ((a1 * (4 : Int32)) + a2).toNatClampNeg) M
set_option maxHeartbeats 1000000 in
theorem c_C_leafAt {a1 : Int32} {a2 : Int32} (hA : sd_ad b n ad) (hT : l.stackTraces = false) (hC : isC n L dA) {Q : Nat → sdM → Prop} {M : sdM} (hw : w_C_leafAt M a1 a2 Q) : sd_Cn l (sdE0 sc) y_C_leafAt Y_C_leafAt.2.2.2.2.1 Y_C_leafAt.2.2.2.2.2.1 0 0 D (sd_tys dA) b n ad L M [.ref 1, .int a1, .int a2] (sd_qr (fun t => isF n L t) Q) sd_xf := by
  refine sd_enter (Y := Y_C_leafAt) rfl rfl rfl (Nat.le_of_ble_eq_true rfl) ?_
  show sdW l (sdE0 sc) Y_C_leafAt D (sd_tys dA) b n ad L ad (sd_H D (sdE0 sc).1 n ad L) (sd_qr (fun t => isF n L t) Q) sd_xf 0 [(0, .ref 1), (1, .int a1), (2, .int a2)] [] M 0 0
  unfold w_C_leafAt at hw
  refine x_aload_n 0 0 d_C_leafAt_0 rfl rfl ?_
  refine x_getr 3 3 d_C_leafAt_1 hC.1 hC.2.1 rfl rfl (by decide) lay_C (List.mem_cons_of_mem _ q78) rfl ?_
  refine x_iload_n 1 1 d_C_leafAt_4 rfl rfl ?_
  refine x_iconst (v := 4) d_C_leafAt_5 (by decide) ?_
  refine x_imul d_C_leafAt_6 ?_
  refine x_iload_n 2 2 d_C_leafAt_7 rfl rfl ?_
  refine x_iadd d_C_leafAt_8 ?_
  obtain ⟨hi2, hw⟩ := hw
  refine x_aald (5 + ((a1 * (4 : Int32)) + a2).toNatClampNeg) d_C_leafAt_9 hC.leafTable.1 hC.leafTable.2 (t0 := 3) rfl hi2 rfl ?_
  exact x_aret d_C_leafAt_10 rfl rfl (fun _ h => h) ⟨_, rfl, (hC.leafTableAt hi2), hw⟩
end
theorem q79 : (.fieldLink "SettingsDesk$Schema" 19 "SettingsDesk$Schema" "leaves" "[I" : Cond) ∈ sdB0 := sd_tb1 109 rfl rfl
theorem q80 : (.fieldLink "SettingsDesk$Schema" 48 "SettingsDesk$Leaf" "isReference" "Z" : Cond) ∈ sdB0 := sd_tb1 47 rfl rfl
theorem q81 : (.fieldLink "SettingsDesk$Schema" 51 "SettingsDesk$Leaf" "low" "I" : Cond) ∈ sdB0 := sd_tb1 50 rfl rfl
theorem q82 : (.fieldLink "SettingsDesk$Schema" 54 "SettingsDesk$Leaf" "high" "I" : Cond) ∈ sdB0 := sd_tb1 53 rfl rfl
theorem q83 : (.fieldLink "SettingsDesk$Schema" 57 "SettingsDesk$Leaf" "required" "Z" : Cond) ∈ sdB0 := sd_tb1 55 rfl rfl
theorem q84 : (.fieldLink "SettingsDesk$Schema" 60 "SettingsDesk$Leaf" "unique" "Z" : Cond) ∈ sdB0 := sd_tb1 56 rfl rfl
theorem q85 : (.methodLink "SettingsDesk$Schema" 44 ⟨"SettingsDesk$Schema", "leafAt", "(II)LSettingsDesk$Leaf;"⟩ : Cond) ∈ sdB0 := sd_tb2 199 rfl rfl
theorem q86 : (.code ⟨"SettingsDesk$Schema", "leafAt", "(II)LSettingsDesk$Leaf;"⟩ prog_7_method_4_code 3 (some (.object "SettingsDesk$Leaf")) : Cond) ∈ sdB0 := sd_tb2 202 rfl rfl
theorem q87 : (.instanceMethod ⟨"SettingsDesk$Schema", "leafAt", "(II)LSettingsDesk$Leaf;"⟩ : Cond) ∈ sdB0 := sd_tb2 200 rfl rfl
theorem q88 : (.selects "SettingsDesk$Schema" ⟨"SettingsDesk$Schema", "leafAt", "(II)LSettingsDesk$Leaf;"⟩ ⟨"SettingsDesk$Schema", "leafAt", "(II)LSettingsDesk$Leaf;"⟩ : Cond) ∈ sdB0 := sd_tb2 201 rfl rfl
abbrev y_C_addLeaf : MethodName := ⟨"SettingsDesk$Schema", "addLeaf", "(IIIII)I"⟩
theorem d_C_addLeaf_0 : decode prog_7_method_6_code 0 = .ok (.aload_n 0, 1) := by decide +kernel
theorem d_C_addLeaf_1 : decode prog_7_method_6_code 1 = .ok (.getfield 19, 3) := by decide +kernel
theorem d_C_addLeaf_4 : decode prog_7_method_6_code 4 = .ok (.iload_n 1, 1) := by decide +kernel
theorem d_C_addLeaf_5 : decode prog_7_method_6_code 5 = .ok (.iaload, 1) := by decide +kernel
theorem d_C_addLeaf_6 : decode prog_7_method_6_code 6 = .ok (.istore 6, 2) := by decide +kernel
theorem d_C_addLeaf_8 : decode prog_7_method_6_code 8 = .ok (.aload_n 0, 1) := by decide +kernel
theorem d_C_addLeaf_9 : decode prog_7_method_6_code 9 = .ok (.iload_n 1, 1) := by decide +kernel
theorem d_C_addLeaf_10 : decode prog_7_method_6_code 10 = .ok (.iload 6, 2) := by decide +kernel
theorem d_C_addLeaf_12 : decode prog_7_method_6_code 12 = .ok (.invokevirtual 44, 3) := by decide +kernel
theorem d_C_addLeaf_15 : decode prog_7_method_6_code 15 = .ok (.astore 7, 2) := by decide +kernel
theorem d_C_addLeaf_17 : decode prog_7_method_6_code 17 = .ok (.aload 7, 2) := by decide +kernel
theorem d_C_addLeaf_19 : decode prog_7_method_6_code 19 = .ok (.iload_n 2, 1) := by decide +kernel
theorem d_C_addLeaf_20 : decode prog_7_method_6_code 20 = .ok (.iconst 1, 1) := by decide +kernel
theorem d_C_addLeaf_21 : decode prog_7_method_6_code 21 = .ok (.if_icmp .ne (7), 3) := by decide +kernel
theorem d_C_addLeaf_24 : decode prog_7_method_6_code 24 = .ok (.iconst 1, 1) := by decide +kernel
theorem d_C_addLeaf_25 : decode prog_7_method_6_code 25 = .ok (.goto (4), 3) := by decide +kernel
theorem d_C_addLeaf_28 : decode prog_7_method_6_code 28 = .ok (.iconst 0, 1) := by decide +kernel
theorem d_C_addLeaf_29 : decode prog_7_method_6_code 29 = .ok (.putfield 48, 3) := by decide +kernel
theorem d_C_addLeaf_32 : decode prog_7_method_6_code 32 = .ok (.aload 7, 2) := by decide +kernel
theorem d_C_addLeaf_34 : decode prog_7_method_6_code 34 = .ok (.iload_n 3, 1) := by decide +kernel
theorem d_C_addLeaf_35 : decode prog_7_method_6_code 35 = .ok (.putfield 51, 3) := by decide +kernel
theorem d_C_addLeaf_38 : decode prog_7_method_6_code 38 = .ok (.aload 7, 2) := by decide +kernel
theorem d_C_addLeaf_40 : decode prog_7_method_6_code 40 = .ok (.iload 4, 2) := by decide +kernel
theorem d_C_addLeaf_42 : decode prog_7_method_6_code 42 = .ok (.putfield 54, 3) := by decide +kernel
theorem d_C_addLeaf_45 : decode prog_7_method_6_code 45 = .ok (.aload 7, 2) := by decide +kernel
theorem d_C_addLeaf_47 : decode prog_7_method_6_code 47 = .ok (.iload 5, 2) := by decide +kernel
theorem d_C_addLeaf_49 : decode prog_7_method_6_code 49 = .ok (.iconst 1, 1) := by decide +kernel
theorem d_C_addLeaf_50 : decode prog_7_method_6_code 50 = .ok (.iand, 1) := by decide +kernel
theorem d_C_addLeaf_51 : decode prog_7_method_6_code 51 = .ok (.ifCond .eq (7), 3) := by decide +kernel
theorem d_C_addLeaf_54 : decode prog_7_method_6_code 54 = .ok (.iconst 1, 1) := by decide +kernel
theorem d_C_addLeaf_55 : decode prog_7_method_6_code 55 = .ok (.goto (4), 3) := by decide +kernel
theorem d_C_addLeaf_58 : decode prog_7_method_6_code 58 = .ok (.iconst 0, 1) := by decide +kernel
theorem d_C_addLeaf_59 : decode prog_7_method_6_code 59 = .ok (.putfield 57, 3) := by decide +kernel
theorem d_C_addLeaf_62 : decode prog_7_method_6_code 62 = .ok (.aload 7, 2) := by decide +kernel
theorem d_C_addLeaf_64 : decode prog_7_method_6_code 64 = .ok (.iload 5, 2) := by decide +kernel
theorem d_C_addLeaf_66 : decode prog_7_method_6_code 66 = .ok (.iconst 2, 1) := by decide +kernel
theorem d_C_addLeaf_67 : decode prog_7_method_6_code 67 = .ok (.iand, 1) := by decide +kernel
theorem d_C_addLeaf_68 : decode prog_7_method_6_code 68 = .ok (.ifCond .eq (7), 3) := by decide +kernel
theorem d_C_addLeaf_71 : decode prog_7_method_6_code 71 = .ok (.iconst 1, 1) := by decide +kernel
theorem d_C_addLeaf_72 : decode prog_7_method_6_code 72 = .ok (.goto (4), 3) := by decide +kernel
theorem d_C_addLeaf_75 : decode prog_7_method_6_code 75 = .ok (.iconst 0, 1) := by decide +kernel
theorem d_C_addLeaf_76 : decode prog_7_method_6_code 76 = .ok (.putfield 60, 3) := by decide +kernel
theorem d_C_addLeaf_79 : decode prog_7_method_6_code 79 = .ok (.aload_n 0, 1) := by decide +kernel
theorem d_C_addLeaf_80 : decode prog_7_method_6_code 80 = .ok (.getfield 19, 3) := by decide +kernel
theorem d_C_addLeaf_83 : decode prog_7_method_6_code 83 = .ok (.iload_n 1, 1) := by decide +kernel
theorem d_C_addLeaf_84 : decode prog_7_method_6_code 84 = .ok (.dup2, 1) := by decide +kernel
theorem d_C_addLeaf_85 : decode prog_7_method_6_code 85 = .ok (.iaload, 1) := by decide +kernel
theorem d_C_addLeaf_86 : decode prog_7_method_6_code 86 = .ok (.iconst 1, 1) := by decide +kernel
theorem d_C_addLeaf_87 : decode prog_7_method_6_code 87 = .ok (.iadd, 1) := by decide +kernel
theorem d_C_addLeaf_88 : decode prog_7_method_6_code 88 = .ok (.iastore, 1) := by decide +kernel
theorem d_C_addLeaf_89 : decode prog_7_method_6_code 89 = .ok (.iload 6, 2) := by decide +kernel
theorem d_C_addLeaf_91 : decode prog_7_method_6_code 91 = .ok (.ireturn, 1) := by decide +kernel
def Y_C_addLeaf : sdY := ("SettingsDesk$Schema", prog_7_method_6_code, 8, (some .int), .code y_C_addLeaf prog_7_method_6_code 8 (some .int) :: sdB0, { frames := 1, cells := 0, slots := 0, locals := 22 }, 0, 0)
theorem cw_C_addLeaf_C_leafAt_44 : sd_cwV Y_C_addLeaf Y_C_leafAt y_C_leafAt 44 2 "SettingsDesk$Schema" := ⟨sd_goodV q85 q87 q88 q77 q86, ⟨_, rfl⟩, ⟨rfl, rfl, rfl, rfl⟩, ⟨rfl, by decide, by decide, by decide +kernel⟩, ⟨by decide, by decide⟩⟩
section
variable {l : Launch} {D : va_G} {dA : Nat → ClassId} {b n : Nat} {ad : Nat → Nat} {L : Nat → sdL} {sc : Option (Nat × Nat × (Nat → Int32))}
def k_C_addLeaf_76 (Q : Int32 → sdM → Prop) (M : sdM) (x1 : Int32) (x6 : Int32) (u0 : Nat) (s1 : Int32) : Prop := sdB s1 ∧ ∀ M22 : sdM, M22 = sd_s M u0 4 s1 → vp_in x1 4 ∧ vp_in x1 4 ∧ ∀ M27 : sdM, M27 = sd_s M22 2 x1.toNatClampNeg ((M22 2 x1.toNatClampNeg) + (1 : Int32)) → Q x6 M27
set_option maxHeartbeats 1000000 in
theorem t_C_addLeaf_76 (hA : sd_ad b n ad) (hT : l.stackTraces = false) (hC : isC n L dA) {Q : Int32 → sdM → Prop} (M : sdM) (x1 : Int32) (x6 : Int32) (u0 : Nat) (s1 : Int32) (hu0 : isF n L u0) (hw : k_C_addLeaf_76 Q M x1 x6 u0 s1) : sdW l (sdE0 sc) Y_C_addLeaf D (sd_tys dA) b n ad L ad (sd_H D (sdE0 sc).1 n ad L) (sd_qi Q) sd_xf 76 [(0, .ref 1), (1, .int x1), (6, .int x6)] [.int s1, .ref u0] M 0 0 := by
  unfold k_C_addLeaf_76 at hw
  obtain ⟨hb24, hw⟩ := hw
  refine x_puti 4 (ty := .boolean) hA d_C_addLeaf_76 hu0.1 hu0.2 rfl rfl (by decide) lay_F (List.mem_cons_of_mem _ q84) rfl ty_F ty_F_ok nm_F rfl (by decide +kernel) (sdB_n hb24) (sdB_f hb24) (fun M22 e23 => ?_)
  have hw := hw M22 e23
  clear e23
  refine x_aload_n 0 0 d_C_addLeaf_79 rfl rfl ?_
  refine x_getr 2 2 d_C_addLeaf_80 hC.1 hC.2.1 rfl rfl (by decide) lay_C (List.mem_cons_of_mem _ q79) rfl ?_
  refine x_iload_n 1 1 d_C_addLeaf_83 rfl rfl ?_
  refine x_dup2 d_C_addLeaf_84 rfl rfl ?_
  obtain ⟨hi25, hw⟩ := hw
  refine x_iald d_C_addLeaf_85 hC.leaves.1 hC.leaves.2 rfl hi25 ?_
  refine x_iconst (v := 1) d_C_addLeaf_86 (by decide) ?_
  refine x_iadd d_C_addLeaf_87 ?_
  obtain ⟨hi26, hw⟩ := hw
  refine x_iast hA d_C_addLeaf_88 hC.leaves.1 hC.leaves.2 rfl hi26 (fun M27 e28 => ?_)
  have hw := hw M27 e28
  clear e28
  refine x_iload 6 2 d_C_addLeaf_89 rfl ?_
  exact x_iret d_C_addLeaf_91 rfl (fun _ h => h) ⟨_, rfl, hw⟩
def k_C_addLeaf_59 (Q : Int32 → sdM → Prop) (M : sdM) (x1 : Int32) (x5 : Int32) (x6 : Int32) (o7 : Nat) (u0 : Nat) (s1 : Int32) : Prop := sdB s1 ∧ ∀ M29 : sdM, M29 = sd_s M u0 3 s1 → ((x5 &&& (2 : Int32)) = 0 → k_C_addLeaf_76 Q M29 x1 x6 o7 (0 : Int32)) ∧ (¬ (x5 &&& (2 : Int32)) = 0 → k_C_addLeaf_76 Q M29 x1 x6 o7 (1 : Int32))
set_option maxHeartbeats 1000000 in
theorem t_C_addLeaf_59 (hA : sd_ad b n ad) (hT : l.stackTraces = false) (hC : isC n L dA) {Q : Int32 → sdM → Prop} (M : sdM) (x1 : Int32) (x5 : Int32) (x6 : Int32) (o7 : Nat) (u0 : Nat) (s1 : Int32) (ho7 : isF n L o7) (hu0 : isF n L u0) (hw : k_C_addLeaf_59 Q M x1 x5 x6 o7 u0 s1) : sdW l (sdE0 sc) Y_C_addLeaf D (sd_tys dA) b n ad L ad (sd_H D (sdE0 sc).1 n ad L) (sd_qi Q) sd_xf 59 [(0, .ref 1), (1, .int x1), (5, .int x5), (6, .int x6), (7, .ref o7)] [.int s1, .ref u0] M 0 0 := by
  unfold k_C_addLeaf_59 at hw
  obtain ⟨hb31, hw⟩ := hw
  refine x_puti 3 (ty := .boolean) hA d_C_addLeaf_59 hu0.1 hu0.2 rfl rfl (by decide) lay_F (List.mem_cons_of_mem _ q83) rfl ty_F ty_F_ok nm_F rfl (by decide +kernel) (sdB_n hb31) (sdB_f hb31) (fun M29 e30 => ?_)
  have hw := hw M29 e30
  clear e30
  refine x_aload 7 4 d_C_addLeaf_62 rfl ?_
  refine x_iload 5 2 d_C_addLeaf_64 rfl ?_
  refine x_iconst (v := 2) d_C_addLeaf_66 (by decide) ?_
  refine x_iand d_C_addLeaf_67 ?_
  refine x_if_eq 75 d_C_addLeaf_68 rfl (fun hc => ?_) (fun hc => ?_)
  · have hw := hw.1 hc
    refine x_iconst (v := 0) d_C_addLeaf_75 (by decide) ?_
    refine x_sub [0, 1, 3] [(0, .ref 1), (1, .int x1), (6, .int x6)] rfl ?_
    exact t_C_addLeaf_76 hA hT hC M29 x1 x6 o7 (0 : Int32) ho7 hw
  · have hw := hw.2 hc
    refine x_iconst (v := 1) d_C_addLeaf_71 (by decide) ?_
    refine x_goto 76 d_C_addLeaf_72 rfl ?_
    refine x_sub [0, 1, 3] [(0, .ref 1), (1, .int x1), (6, .int x6)] rfl ?_
    exact t_C_addLeaf_76 hA hT hC M29 x1 x6 o7 (1 : Int32) ho7 hw
def k_C_addLeaf_29 (Q : Int32 → sdM → Prop) (M : sdM) (x1 : Int32) (x3 : Int32) (x4 : Int32) (x5 : Int32) (x6 : Int32) (o7 : Nat) (u0 : Nat) (s1 : Int32) : Prop := sdB s1 ∧ ∀ M32 : sdM, M32 = sd_s M u0 0 s1 → ∀ M35 : sdM, M35 = sd_s M32 o7 1 x3 → ∀ M37 : sdM, M37 = sd_s M35 o7 2 x4 → ((x5 &&& (1 : Int32)) = 0 → k_C_addLeaf_59 Q M37 x1 x5 x6 o7 o7 (0 : Int32)) ∧ (¬ (x5 &&& (1 : Int32)) = 0 → k_C_addLeaf_59 Q M37 x1 x5 x6 o7 o7 (1 : Int32))
set_option maxHeartbeats 1000000 in
theorem t_C_addLeaf_29 (hA : sd_ad b n ad) (hT : l.stackTraces = false) (hC : isC n L dA) {Q : Int32 → sdM → Prop} (M : sdM) (x1 : Int32) (x3 : Int32) (x4 : Int32) (x5 : Int32) (x6 : Int32) (o7 : Nat) (u0 : Nat) (s1 : Int32) (ho7 : isF n L o7) (hu0 : isF n L u0) (hw : k_C_addLeaf_29 Q M x1 x3 x4 x5 x6 o7 u0 s1) : sdW l (sdE0 sc) Y_C_addLeaf D (sd_tys dA) b n ad L ad (sd_H D (sdE0 sc).1 n ad L) (sd_qi Q) sd_xf 29 [(0, .ref 1), (1, .int x1), (3, .int x3), (4, .int x4), (5, .int x5), (6, .int x6), (7, .ref o7)] [.int s1, .ref u0] M 0 0 := by
  unfold k_C_addLeaf_29 at hw
  obtain ⟨hb34, hw⟩ := hw
  refine x_puti 0 (ty := .boolean) hA d_C_addLeaf_29 hu0.1 hu0.2 rfl rfl (by decide) lay_F (List.mem_cons_of_mem _ q80) rfl ty_F ty_F_ok nm_F rfl (by decide +kernel) (sdB_n hb34) (sdB_f hb34) (fun M32 e33 => ?_)
  have hw := hw M32 e33
  clear e33
  refine x_aload 7 6 d_C_addLeaf_32 rfl ?_
  refine x_iload_n 3 2 d_C_addLeaf_34 rfl rfl ?_
  refine x_puti 1 (ty := .int) hA d_C_addLeaf_35 ho7.1 ho7.2 rfl rfl (by decide) lay_F (List.mem_cons_of_mem _ q81) rfl ty_F ty_F_ok nm_F rfl (by decide +kernel) rfl rfl (fun M35 e36 => ?_)
  have hw := hw M35 e36
  clear e36
  refine x_aload 7 6 d_C_addLeaf_38 rfl ?_
  refine x_iload 4 3 d_C_addLeaf_40 rfl ?_
  refine x_puti 2 (ty := .int) hA d_C_addLeaf_42 ho7.1 ho7.2 rfl rfl (by decide) lay_F (List.mem_cons_of_mem _ q82) rfl ty_F ty_F_ok nm_F rfl (by decide +kernel) rfl rfl (fun M37 e38 => ?_)
  have hw := hw M37 e38
  clear e38
  refine x_aload 7 6 d_C_addLeaf_45 rfl ?_
  refine x_iload 5 4 d_C_addLeaf_47 rfl ?_
  refine x_iconst (v := 1) d_C_addLeaf_49 (by decide) ?_
  refine x_iand d_C_addLeaf_50 ?_
  refine x_if_eq 58 d_C_addLeaf_51 rfl (fun hc => ?_) (fun hc => ?_)
  · have hw := hw.1 hc
    refine x_iconst (v := 0) d_C_addLeaf_58 (by decide) ?_
    refine x_sub [0, 1, 4, 5, 6] [(0, .ref 1), (1, .int x1), (5, .int x5), (6, .int x6), (7, .ref o7)] rfl ?_
    exact t_C_addLeaf_59 hA hT hC M37 x1 x5 x6 o7 o7 (0 : Int32) ho7 ho7 hw
  · have hw := hw.2 hc
    refine x_iconst (v := 1) d_C_addLeaf_54 (by decide) ?_
    refine x_goto 59 d_C_addLeaf_55 rfl ?_
    refine x_sub [0, 1, 4, 5, 6] [(0, .ref 1), (1, .int x1), (5, .int x5), (6, .int x6), (7, .ref o7)] rfl ?_
    exact t_C_addLeaf_59 hA hT hC M37 x1 x5 x6 o7 o7 (1 : Int32) ho7 ho7 hw
def w_C_addLeaf (M : sdM) (a1 : Int32) (a2 : Int32) (a3 : Int32) (a4 : Int32) (a5 : Int32) (Q : Int32 → sdM → Prop) : Prop := vp_in a1 4 ∧ w_C_leafAt M a1 (M 2 a1.toNatClampNeg) (fun t41 M40 => (¬ a2 = (1 : Int32) → k_C_addLeaf_29 Q M40 a1 a3 a4 a5 (M 2 a1.toNatClampNeg) t41 t41 (0 : Int32)) ∧ (a2 = (1 : Int32) → k_C_addLeaf_29 Q M40 a1 a3 a4 a5 (M 2 a1.toNatClampNeg) t41 t41 (1 : Int32)))
set_option maxHeartbeats 1000000 in
theorem c_C_addLeaf {a1 : Int32} {a2 : Int32} {a3 : Int32} {a4 : Int32} {a5 : Int32} (hA : sd_ad b n ad) (hT : l.stackTraces = false) (hC : isC n L dA) {Q : Int32 → sdM → Prop} {M : sdM} (hw : w_C_addLeaf M a1 a2 a3 a4 a5 Q) : sd_Cn l (sdE0 sc) y_C_addLeaf Y_C_addLeaf.2.2.2.2.1 Y_C_addLeaf.2.2.2.2.2.1 0 0 D (sd_tys dA) b n ad L M [.ref 1, .int a1, .int a2, .int a3, .int a4, .int a5] (sd_qi Q) sd_xf := by
  refine sd_enter (Y := Y_C_addLeaf) rfl rfl rfl (Nat.le_of_ble_eq_true rfl) ?_
  show sdW l (sdE0 sc) Y_C_addLeaf D (sd_tys dA) b n ad L ad (sd_H D (sdE0 sc).1 n ad L) (sd_qi Q) sd_xf 0 [(0, .ref 1), (1, .int a1), (2, .int a2), (3, .int a3), (4, .int a4), (5, .int a5)] [] M 0 0
  unfold w_C_addLeaf at hw
  refine x_aload_n 0 0 d_C_addLeaf_0 rfl rfl ?_
  refine x_getr 2 2 d_C_addLeaf_1 hC.1 hC.2.1 rfl rfl (by decide) lay_C (List.mem_cons_of_mem _ q79) rfl ?_
  refine x_iload_n 1 1 d_C_addLeaf_4 rfl rfl ?_
  obtain ⟨hi39, hw⟩ := hw
  refine x_iald d_C_addLeaf_5 hC.leaves.1 hC.leaves.2 rfl hi39 ?_
  refine x_istore 6 [(6, .int (M 2 a1.toNatClampNeg)), (0, .ref 1), (1, .int a1), (2, .int a2), (3, .int a3), (4, .int a4), (5, .int a5)] d_C_addLeaf_6 (by decide) rfl ?_
  refine x_aload_n 0 1 d_C_addLeaf_8 rfl rfl ?_
  refine x_iload_n 1 2 d_C_addLeaf_9 rfl rfl ?_
  refine x_iload 6 0 d_C_addLeaf_10 rfl ?_
  refine x_callVr (As := [.int a1, .int (M 2 a1.toNatClampNeg)]) (t := 1) (rest := []) (rc := 0) (rs := 0) (c_C_leafAt hA hT hC hw) cw_C_addLeaf_C_leafAt_44 hC.1 hC.2.1 rfl d_C_addLeaf_12 rfl rfl (Nat.le_of_ble_eq_true rfl) (fun _ _ h => h.elim) (fun _ _ h => h) (fun t41 M40 ht42 hw => ?_)
  refine x_astore 7 [(7, .ref t41), (6, .int (M 2 a1.toNatClampNeg)), (0, .ref 1), (1, .int a1), (2, .int a2), (3, .int a3), (4, .int a4), (5, .int a5)] d_C_addLeaf_15 (by decide) rfl ?_
  refine x_aload 7 0 d_C_addLeaf_17 rfl ?_
  refine x_iload_n 2 4 d_C_addLeaf_19 rfl rfl ?_
  refine x_iconst (v := 1) d_C_addLeaf_20 (by decide) ?_
  refine x_icmp_ne 28 d_C_addLeaf_21 rfl (fun hc => ?_) (fun hc => ?_)
  · have hw := hw.1 hc
    refine x_iconst (v := 0) d_C_addLeaf_28 (by decide) ?_
    refine x_sub [2, 3, 5, 6, 7, 1, 0] [(0, .ref 1), (1, .int a1), (3, .int a3), (4, .int a4), (5, .int a5), (6, .int (M 2 a1.toNatClampNeg)), (7, .ref t41)] rfl ?_
    exact t_C_addLeaf_29 hA hT hC M40 a1 a3 a4 a5 (M 2 a1.toNatClampNeg) t41 t41 (0 : Int32) ht42 ht42 hw
  · have hw := hw.2 hc
    refine x_iconst (v := 1) d_C_addLeaf_24 (by decide) ?_
    refine x_goto 29 d_C_addLeaf_25 rfl ?_
    refine x_sub [2, 3, 5, 6, 7, 1, 0] [(0, .ref 1), (1, .int a1), (3, .int a3), (4, .int a4), (5, .int a5), (6, .int (M 2 a1.toNatClampNeg)), (7, .ref t41)] rfl ?_
    exact t_C_addLeaf_29 hA hT hC M40 a1 a3 a4 a5 (M 2 a1.toNatClampNeg) t41 t41 (1 : Int32) ht42 ht42 hw
end
abbrev y_C_hasLeaf : MethodName := ⟨"SettingsDesk$Schema", "hasLeaf", "(II)Z"⟩
theorem d_C_hasLeaf_0 : decode prog_7_method_3_code 0 = .ok (.aload_n 0, 1) := by decide +kernel
theorem d_C_hasLeaf_1 : decode prog_7_method_3_code 1 = .ok (.iload_n 1, 1) := by decide +kernel
theorem d_C_hasLeaf_2 : decode prog_7_method_3_code 2 = .ok (.invokevirtual 40, 3) := by decide +kernel
theorem d_C_hasLeaf_5 : decode prog_7_method_3_code 5 = .ok (.ifCond .eq (21), 3) := by decide +kernel
theorem d_C_hasLeaf_8 : decode prog_7_method_3_code 8 = .ok (.iload_n 2, 1) := by decide +kernel
theorem d_C_hasLeaf_9 : decode prog_7_method_3_code 9 = .ok (.ifCond .lt (17), 3) := by decide +kernel
theorem d_C_hasLeaf_12 : decode prog_7_method_3_code 12 = .ok (.iload_n 2, 1) := by decide +kernel
theorem d_C_hasLeaf_13 : decode prog_7_method_3_code 13 = .ok (.aload_n 0, 1) := by decide +kernel
theorem d_C_hasLeaf_14 : decode prog_7_method_3_code 14 = .ok (.getfield 19, 3) := by decide +kernel
theorem d_C_hasLeaf_17 : decode prog_7_method_3_code 17 = .ok (.iload_n 1, 1) := by decide +kernel
theorem d_C_hasLeaf_18 : decode prog_7_method_3_code 18 = .ok (.iaload, 1) := by decide +kernel
theorem d_C_hasLeaf_19 : decode prog_7_method_3_code 19 = .ok (.if_icmp .ge (7), 3) := by decide +kernel
theorem d_C_hasLeaf_22 : decode prog_7_method_3_code 22 = .ok (.iconst 1, 1) := by decide +kernel
theorem d_C_hasLeaf_23 : decode prog_7_method_3_code 23 = .ok (.goto (4), 3) := by decide +kernel
theorem d_C_hasLeaf_26 : decode prog_7_method_3_code 26 = .ok (.iconst 0, 1) := by decide +kernel
theorem d_C_hasLeaf_27 : decode prog_7_method_3_code 27 = .ok (.ireturn, 1) := by decide +kernel
def Y_C_hasLeaf : sdY := ("SettingsDesk$Schema", prog_7_method_3_code, 3, (some .boolean), .code y_C_hasLeaf prog_7_method_3_code 3 (some .boolean) :: sdB0, { frames := 1, cells := 0, slots := 0, locals := 21 }, 0, 0)
theorem cw_C_hasLeaf_C_hasList_40 : sd_cwV Y_C_hasLeaf Y_C_hasList y_C_hasList 40 1 "SettingsDesk$Schema" := ⟨sd_goodV q73 q75 q76 q77 q74, ⟨_, rfl⟩, ⟨rfl, rfl, rfl, rfl⟩, ⟨rfl, by decide, by decide, by decide +kernel⟩, ⟨by decide, by decide⟩⟩
section
variable {l : Launch} {D : va_G} {dA : Nat → ClassId} {b n : Nat} {ad : Nat → Nat} {L : Nat → sdL} {sc : Option (Nat × Nat × (Nat → Int32))}
def k_C_hasLeaf_27 (Q : Int32 → sdM → Prop) (M : sdM) (s0 : Int32) : Prop := sdB s0 ∧ Q s0 M
set_option maxHeartbeats 1000000 in
theorem t_C_hasLeaf_27 (hA : sd_ad b n ad) (hT : l.stackTraces = false) (hC : isC n L dA) {Q : Int32 → sdM → Prop} (M : sdM) (s0 : Int32) (hw : k_C_hasLeaf_27 Q M s0) : sdW l (sdE0 sc) Y_C_hasLeaf D (sd_tys dA) b n ad L ad (sd_H D (sdE0 sc).1 n ad L) (sd_qi Q) sd_xf 27 [] [.int s0] M 0 0 := by
  unfold k_C_hasLeaf_27 at hw
  exact x_zret d_C_hasLeaf_27 rfl (sdB_n hw.1) (fun _ h => h) ⟨_, rfl, hw.2⟩
def k_C_hasLeaf_26 (Q : Int32 → sdM → Prop) (M : sdM) : Prop := k_C_hasLeaf_27 Q M (0 : Int32)
set_option maxHeartbeats 1000000 in
theorem t_C_hasLeaf_26 (hA : sd_ad b n ad) (hT : l.stackTraces = false) (hC : isC n L dA) {Q : Int32 → sdM → Prop} (M : sdM) (hw : k_C_hasLeaf_26 Q M ) : sdW l (sdE0 sc) Y_C_hasLeaf D (sd_tys dA) b n ad L ad (sd_H D (sdE0 sc).1 n ad L) (sd_qi Q) sd_xf 26 [] [] M 0 0 := by
  unfold k_C_hasLeaf_26 at hw
  refine x_iconst (v := 0) d_C_hasLeaf_26 (by decide) ?_
  exact t_C_hasLeaf_27 hA hT hC M (0 : Int32) hw
def w_C_hasLeaf (M : sdM) (a1 : Int32) (a2 : Int32) (Q : Int32 → sdM → Prop) : Prop := w_C_hasList M a1 (fun r5 M4 => (r5 = 0 → k_C_hasLeaf_26 Q M4) ∧ (¬ r5 = 0 → (a2 < 0 → k_C_hasLeaf_26 Q M4) ∧ (¬ a2 < 0 → vp_in a1 4 ∧ ((M4 2 a1.toNatClampNeg) ≤ a2 → k_C_hasLeaf_26 Q M4) ∧ (¬ (M4 2 a1.toNatClampNeg) ≤ a2 → k_C_hasLeaf_27 Q M4 (1 : Int32)))))
set_option maxHeartbeats 1000000 in
theorem c_C_hasLeaf {a1 : Int32} {a2 : Int32} (hA : sd_ad b n ad) (hT : l.stackTraces = false) (hC : isC n L dA) {Q : Int32 → sdM → Prop} {M : sdM} (hw : w_C_hasLeaf M a1 a2 Q) : sd_Cn l (sdE0 sc) y_C_hasLeaf Y_C_hasLeaf.2.2.2.2.1 Y_C_hasLeaf.2.2.2.2.2.1 0 0 D (sd_tys dA) b n ad L M [.ref 1, .int a1, .int a2] (sd_qi Q) sd_xf := by
  refine sd_enter (Y := Y_C_hasLeaf) rfl rfl rfl (Nat.le_of_ble_eq_true rfl) ?_
  show sdW l (sdE0 sc) Y_C_hasLeaf D (sd_tys dA) b n ad L ad (sd_H D (sdE0 sc).1 n ad L) (sd_qi Q) sd_xf 0 [(0, .ref 1), (1, .int a1), (2, .int a2)] [] M 0 0
  unfold w_C_hasLeaf at hw
  refine x_aload_n 0 0 d_C_hasLeaf_0 rfl rfl ?_
  refine x_iload_n 1 1 d_C_hasLeaf_1 rfl rfl ?_
  refine x_callVi (As := [.int a1]) (t := 1) (rest := []) (rc := 0) (rs := 0) (c_C_hasList hA hT hC hw) cw_C_hasLeaf_C_hasList_40 hC.1 hC.2.1 rfl d_C_hasLeaf_2 rfl rfl (Nat.le_of_ble_eq_true rfl) (fun _ _ h => h.elim) (fun _ _ h => h) (fun r5 M4 hw => ?_)
  refine x_if_eq 26 d_C_hasLeaf_5 rfl (fun hc => ?_) (fun hc => ?_)
  · have hw := hw.1 hc
    refine x_sub [] [] rfl ?_
    exact t_C_hasLeaf_26 hA hT hC M4 hw
  · have hw := hw.2 hc
    refine x_iload_n 2 2 d_C_hasLeaf_8 rfl rfl ?_
    refine x_if_lt 26 d_C_hasLeaf_9 rfl (fun hc => ?_) (fun hc => ?_)
    · have hw := hw.1 hc
      refine x_sub [] [] rfl ?_
      exact t_C_hasLeaf_26 hA hT hC M4 hw
    · have hw := hw.2 hc
      refine x_iload_n 2 2 d_C_hasLeaf_12 rfl rfl ?_
      refine x_aload_n 0 0 d_C_hasLeaf_13 rfl rfl ?_
      refine x_getr 2 2 d_C_hasLeaf_14 hC.1 hC.2.1 rfl rfl (by decide) lay_C (List.mem_cons_of_mem _ q79) rfl ?_
      refine x_iload_n 1 1 d_C_hasLeaf_17 rfl rfl ?_
      obtain ⟨hi6, hw⟩ := hw
      refine x_iald d_C_hasLeaf_18 hC.leaves.1 hC.leaves.2 rfl hi6 ?_
      refine x_icmp_ge 26 d_C_hasLeaf_19 rfl (fun hc => ?_) (fun hc => ?_)
      · have hw := hw.1 hc
        refine x_sub [] [] rfl ?_
        exact t_C_hasLeaf_26 hA hT hC M4 hw
      · have hw := hw.2 hc
        refine x_iconst (v := 1) d_C_hasLeaf_22 (by decide) ?_
        refine x_goto 27 d_C_hasLeaf_23 rfl ?_
        refine x_sub [] [] rfl ?_
        exact t_C_hasLeaf_27 hA hT hC M4 (1 : Int32) hw
end
theorem q89 : (.fieldLink "SettingsDesk$Leaf" 9 "SettingsDesk$Leaf" "isReference" "Z" : Cond) ∈ sdB0 := sd_tb1 45 rfl rfl
theorem q90 : (.fieldLink "SettingsDesk$Leaf" 15 "SettingsDesk$Leaf" "low" "I" : Cond) ∈ sdB0 := sd_tb1 49 rfl rfl
theorem q91 : (.fieldLink "SettingsDesk$Leaf" 19 "SettingsDesk$Leaf" "high" "I" : Cond) ∈ sdB0 := sd_tb1 52 rfl rfl
abbrev y_F_takes : MethodName := ⟨"SettingsDesk$Leaf", "takes", "(I)Z"⟩
theorem d_F_takes_0 : decode prog_4_method_2_code 0 = .ok (.aload_n 0, 1) := by decide +kernel
theorem d_F_takes_1 : decode prog_4_method_2_code 1 = .ok (.getfield 9, 3) := by decide +kernel
theorem d_F_takes_4 : decode prog_4_method_2_code 4 = .ok (.ifCond .eq (22), 3) := by decide +kernel
theorem d_F_takes_7 : decode prog_4_method_2_code 7 = .ok (.iload_n 1, 1) := by decide +kernel
theorem d_F_takes_8 : decode prog_4_method_2_code 8 = .ok (.iconst 1, 1) := by decide +kernel
theorem d_F_takes_9 : decode prog_4_method_2_code 9 = .ok (.if_icmp .lt (13), 3) := by decide +kernel
theorem d_F_takes_12 : decode prog_4_method_2_code 12 = .ok (.iload_n 1, 1) := by decide +kernel
theorem d_F_takes_13 : decode prog_4_method_2_code 13 = .ok (.bipush (100), 2) := by decide +kernel
theorem d_F_takes_15 : decode prog_4_method_2_code 15 = .ok (.if_icmp .gt (7), 3) := by decide +kernel
theorem d_F_takes_18 : decode prog_4_method_2_code 18 = .ok (.iconst 1, 1) := by decide +kernel
theorem d_F_takes_19 : decode prog_4_method_2_code 19 = .ok (.goto (28), 3) := by decide +kernel
theorem d_F_takes_22 : decode prog_4_method_2_code 22 = .ok (.iconst 0, 1) := by decide +kernel
theorem d_F_takes_23 : decode prog_4_method_2_code 23 = .ok (.goto (24), 3) := by decide +kernel
theorem d_F_takes_26 : decode prog_4_method_2_code 26 = .ok (.iload_n 1, 1) := by decide +kernel
theorem d_F_takes_27 : decode prog_4_method_2_code 27 = .ok (.aload_n 0, 1) := by decide +kernel
theorem d_F_takes_28 : decode prog_4_method_2_code 28 = .ok (.getfield 15, 3) := by decide +kernel
theorem d_F_takes_31 : decode prog_4_method_2_code 31 = .ok (.if_icmp .lt (15), 3) := by decide +kernel
theorem d_F_takes_34 : decode prog_4_method_2_code 34 = .ok (.iload_n 1, 1) := by decide +kernel
theorem d_F_takes_35 : decode prog_4_method_2_code 35 = .ok (.aload_n 0, 1) := by decide +kernel
theorem d_F_takes_36 : decode prog_4_method_2_code 36 = .ok (.getfield 19, 3) := by decide +kernel
theorem d_F_takes_39 : decode prog_4_method_2_code 39 = .ok (.if_icmp .gt (7), 3) := by decide +kernel
theorem d_F_takes_42 : decode prog_4_method_2_code 42 = .ok (.iconst 1, 1) := by decide +kernel
theorem d_F_takes_43 : decode prog_4_method_2_code 43 = .ok (.goto (4), 3) := by decide +kernel
theorem d_F_takes_46 : decode prog_4_method_2_code 46 = .ok (.iconst 0, 1) := by decide +kernel
theorem d_F_takes_47 : decode prog_4_method_2_code 47 = .ok (.ireturn, 1) := by decide +kernel
def Y_F_takes : sdY := ("SettingsDesk$Leaf", prog_4_method_2_code, 2, (some .boolean), .code y_F_takes prog_4_method_2_code 2 (some .boolean) :: sdB0, { frames := 0, cells := 0, slots := 0, locals := 0 }, 0, 0)
section
variable {l : Launch} {D : va_G} {dA : Nat → ClassId} {b n : Nat} {ad : Nat → Nat} {L : Nat → sdL} {sc : Option (Nat × Nat × (Nat → Int32))}
def k_F_takes_47 (o : Nat) (Q : Int32 → sdM → Prop) (M : sdM) (s0 : Int32) : Prop := sdB s0 ∧ Q s0 M
set_option maxHeartbeats 1000000 in
theorem t_F_takes_47 {o : Nat} (hA : sd_ad b n ad) (hT : l.stackTraces = false) (ho : isF n L o) {Q : Int32 → sdM → Prop} (M : sdM) (s0 : Int32) (hw : k_F_takes_47 o Q M s0) : sdW l (sdE0 sc) Y_F_takes D (sd_tys dA) b n ad L ad (sd_H D (sdE0 sc).1 n ad L) (sd_qi Q) sd_xf 47 [] [.int s0] M 0 0 := by
  unfold k_F_takes_47 at hw
  exact x_zret d_F_takes_47 rfl (sdB_n hw.1) (fun _ h => h) ⟨_, rfl, hw.2⟩
def k_F_takes_46 (o : Nat) (Q : Int32 → sdM → Prop) (M : sdM) : Prop := k_F_takes_47 o Q M (0 : Int32)
set_option maxHeartbeats 1000000 in
theorem t_F_takes_46 {o : Nat} (hA : sd_ad b n ad) (hT : l.stackTraces = false) (ho : isF n L o) {Q : Int32 → sdM → Prop} (M : sdM) (hw : k_F_takes_46 o Q M ) : sdW l (sdE0 sc) Y_F_takes D (sd_tys dA) b n ad L ad (sd_H D (sdE0 sc).1 n ad L) (sd_qi Q) sd_xf 46 [] [] M 0 0 := by
  unfold k_F_takes_46 at hw
  refine x_iconst (v := 0) d_F_takes_46 (by decide) ?_
  exact t_F_takes_47 hA hT ho M (0 : Int32) hw
def k_F_takes_22 (o : Nat) (Q : Int32 → sdM → Prop) (M : sdM) : Prop := k_F_takes_47 o Q M (0 : Int32)
set_option maxHeartbeats 1000000 in
theorem t_F_takes_22 {o : Nat} (hA : sd_ad b n ad) (hT : l.stackTraces = false) (ho : isF n L o) {Q : Int32 → sdM → Prop} (M : sdM) (hw : k_F_takes_22 o Q M ) : sdW l (sdE0 sc) Y_F_takes D (sd_tys dA) b n ad L ad (sd_H D (sdE0 sc).1 n ad L) (sd_qi Q) sd_xf 22 [] [] M 0 0 := by
  unfold k_F_takes_22 at hw
  refine x_iconst (v := 0) d_F_takes_22 (by decide) ?_
  refine x_goto 47 d_F_takes_23 rfl ?_
  exact t_F_takes_47 hA hT ho M (0 : Int32) hw
def w_F_takes (o : Nat) (M : sdM) (a1 : Int32) (Q : Int32 → sdM → Prop) : Prop := ((M o 0) = 0 → (a1 < (M o 1) → k_F_takes_46 o Q M) ∧ (¬ a1 < (M o 1) → ((M o 2) < a1 → k_F_takes_46 o Q M) ∧ (¬ (M o 2) < a1 → k_F_takes_47 o Q M (1 : Int32)))) ∧ (¬ (M o 0) = 0 → (a1 < (1 : Int32) → k_F_takes_22 o Q M) ∧ (¬ a1 < (1 : Int32) → ((100 : Int32) < a1 → k_F_takes_22 o Q M) ∧ (¬ (100 : Int32) < a1 → k_F_takes_47 o Q M (1 : Int32))))
set_option maxHeartbeats 1000000 in
theorem c_F_takes {a1 : Int32} {o : Nat} (hA : sd_ad b n ad) (hT : l.stackTraces = false) (ho : isF n L o) {Q : Int32 → sdM → Prop} {M : sdM} (hw : w_F_takes o M a1 Q) : sd_Cn l (sdE0 sc) y_F_takes Y_F_takes.2.2.2.2.1 Y_F_takes.2.2.2.2.2.1 0 0 D (sd_tys dA) b n ad L M [.ref o, .int a1] (sd_qi Q) sd_xf := by
  refine sd_enter (Y := Y_F_takes) rfl rfl rfl (Nat.le_of_ble_eq_true rfl) ?_
  show sdW l (sdE0 sc) Y_F_takes D (sd_tys dA) b n ad L ad (sd_H D (sdE0 sc).1 n ad L) (sd_qi Q) sd_xf 0 [(0, .ref o), (1, .int a1)] [] M 0 0
  unfold w_F_takes at hw
  refine x_aload_n 0 0 d_F_takes_0 rfl rfl ?_
  refine x_geti 0 d_F_takes_1 ho.1 ho.2 rfl rfl (by decide) lay_F (List.mem_cons_of_mem _ q89) rfl ?_
  refine x_if_eq 26 d_F_takes_4 rfl (fun hc => ?_) (fun hc => ?_)
  · have hw := hw.1 hc
    refine x_iload_n 1 1 d_F_takes_26 rfl rfl ?_
    refine x_aload_n 0 0 d_F_takes_27 rfl rfl ?_
    refine x_geti 1 d_F_takes_28 ho.1 ho.2 rfl rfl (by decide) lay_F (List.mem_cons_of_mem _ q90) rfl ?_
    refine x_icmp_lt 46 d_F_takes_31 rfl (fun hc => ?_) (fun hc => ?_)
    · have hw := hw.1 hc
      refine x_sub [] [] rfl ?_
      exact t_F_takes_46 hA hT ho M hw
    · have hw := hw.2 hc
      refine x_iload_n 1 1 d_F_takes_34 rfl rfl ?_
      refine x_aload_n 0 0 d_F_takes_35 rfl rfl ?_
      refine x_geti 2 d_F_takes_36 ho.1 ho.2 rfl rfl (by decide) lay_F (List.mem_cons_of_mem _ q91) rfl ?_
      refine x_icmp_gt 46 d_F_takes_39 rfl (fun hc => ?_) (fun hc => ?_)
      · have hw := hw.1 hc
        refine x_sub [] [] rfl ?_
        exact t_F_takes_46 hA hT ho M hw
      · have hw := hw.2 hc
        refine x_iconst (v := 1) d_F_takes_42 (by decide) ?_
        refine x_goto 47 d_F_takes_43 rfl ?_
        refine x_sub [] [] rfl ?_
        exact t_F_takes_47 hA hT ho M (1 : Int32) hw
  · have hw := hw.2 hc
    refine x_iload_n 1 1 d_F_takes_7 rfl rfl ?_
    refine x_iconst (v := 1) d_F_takes_8 (by decide) ?_
    refine x_icmp_lt 22 d_F_takes_9 rfl (fun hc => ?_) (fun hc => ?_)
    · have hw := hw.1 hc
      refine x_sub [] [] rfl ?_
      exact t_F_takes_22 hA hT ho M hw
    · have hw := hw.2 hc
      refine x_iload_n 1 1 d_F_takes_12 rfl rfl ?_
      refine x_bipush (v := 100) d_F_takes_13 (by decide) ?_
      refine x_icmp_gt 22 d_F_takes_15 rfl (fun hc => ?_) (fun hc => ?_)
      · have hw := hw.1 hc
        refine x_sub [] [] rfl ?_
        exact t_F_takes_22 hA hT ho M hw
      · have hw := hw.2 hc
        refine x_iconst (v := 1) d_F_takes_18 (by decide) ?_
        refine x_goto 47 d_F_takes_19 rfl ?_
        refine x_sub [] [] rfl ?_
        exact t_F_takes_47 hA hT ho M (1 : Int32) hw
end
theorem q92 : (.fieldLink "SettingsDesk$Schema" 34 "SettingsDesk$Schema" "rules" "[LSettingsDesk$Rule;" : Cond) ∈ sdB0 := sd_tb1 116 rfl rfl
theorem q93 : (.fieldLink "SettingsDesk$Schema" 29 "SettingsDesk$Schema" "ruleCount" "I" : Cond) ∈ sdB0 := sd_tb1 113 rfl rfl
theorem q94 : (.fieldLink "SettingsDesk$Schema" 63 "SettingsDesk$Rule" "ofList" "I" : Cond) ∈ sdB0 := sd_tb1 83 rfl rfl
theorem q95 : (.fieldLink "SettingsDesk$Schema" 66 "SettingsDesk$Rule" "a" "I" : Cond) ∈ sdB0 := sd_tb1 85 rfl rfl
theorem q96 : (.fieldLink "SettingsDesk$Schema" 69 "SettingsDesk$Rule" "value" "I" : Cond) ∈ sdB0 := sd_tb1 87 rfl rfl
theorem q97 : (.fieldLink "SettingsDesk$Schema" 72 "SettingsDesk$Rule" "b" "I" : Cond) ∈ sdB0 := sd_tb1 89 rfl rfl
theorem q98 : (.fieldLink "SettingsDesk$Schema" 75 "SettingsDesk$Rule" "there" "Z" : Cond) ∈ sdB0 := sd_tb1 91 rfl rfl
abbrev y_C_addRule : MethodName := ⟨"SettingsDesk$Schema", "addRule", "(IIIIZ)I"⟩
theorem d_C_addRule_0 : decode prog_7_method_7_code 0 = .ok (.aload_n 0, 1) := by decide +kernel
theorem d_C_addRule_1 : decode prog_7_method_7_code 1 = .ok (.getfield 34, 3) := by decide +kernel
theorem d_C_addRule_4 : decode prog_7_method_7_code 4 = .ok (.aload_n 0, 1) := by decide +kernel
theorem d_C_addRule_5 : decode prog_7_method_7_code 5 = .ok (.getfield 29, 3) := by decide +kernel
theorem d_C_addRule_8 : decode prog_7_method_7_code 8 = .ok (.aaload, 1) := by decide +kernel
theorem d_C_addRule_9 : decode prog_7_method_7_code 9 = .ok (.astore 6, 2) := by decide +kernel
theorem d_C_addRule_11 : decode prog_7_method_7_code 11 = .ok (.aload 6, 2) := by decide +kernel
theorem d_C_addRule_13 : decode prog_7_method_7_code 13 = .ok (.iload_n 1, 1) := by decide +kernel
theorem d_C_addRule_14 : decode prog_7_method_7_code 14 = .ok (.putfield 63, 3) := by decide +kernel
theorem d_C_addRule_17 : decode prog_7_method_7_code 17 = .ok (.aload 6, 2) := by decide +kernel
theorem d_C_addRule_19 : decode prog_7_method_7_code 19 = .ok (.iload_n 2, 1) := by decide +kernel
theorem d_C_addRule_20 : decode prog_7_method_7_code 20 = .ok (.putfield 66, 3) := by decide +kernel
theorem d_C_addRule_23 : decode prog_7_method_7_code 23 = .ok (.aload 6, 2) := by decide +kernel
theorem d_C_addRule_25 : decode prog_7_method_7_code 25 = .ok (.iload_n 3, 1) := by decide +kernel
theorem d_C_addRule_26 : decode prog_7_method_7_code 26 = .ok (.putfield 69, 3) := by decide +kernel
theorem d_C_addRule_29 : decode prog_7_method_7_code 29 = .ok (.aload 6, 2) := by decide +kernel
theorem d_C_addRule_31 : decode prog_7_method_7_code 31 = .ok (.iload 4, 2) := by decide +kernel
theorem d_C_addRule_33 : decode prog_7_method_7_code 33 = .ok (.putfield 72, 3) := by decide +kernel
theorem d_C_addRule_36 : decode prog_7_method_7_code 36 = .ok (.aload 6, 2) := by decide +kernel
theorem d_C_addRule_38 : decode prog_7_method_7_code 38 = .ok (.iload 5, 2) := by decide +kernel
theorem d_C_addRule_40 : decode prog_7_method_7_code 40 = .ok (.putfield 75, 3) := by decide +kernel
theorem d_C_addRule_43 : decode prog_7_method_7_code 43 = .ok (.aload_n 0, 1) := by decide +kernel
theorem d_C_addRule_44 : decode prog_7_method_7_code 44 = .ok (.dup, 1) := by decide +kernel
theorem d_C_addRule_45 : decode prog_7_method_7_code 45 = .ok (.getfield 29, 3) := by decide +kernel
theorem d_C_addRule_48 : decode prog_7_method_7_code 48 = .ok (.iconst 1, 1) := by decide +kernel
theorem d_C_addRule_49 : decode prog_7_method_7_code 49 = .ok (.iadd, 1) := by decide +kernel
theorem d_C_addRule_50 : decode prog_7_method_7_code 50 = .ok (.putfield 29, 3) := by decide +kernel
theorem d_C_addRule_53 : decode prog_7_method_7_code 53 = .ok (.aload_n 0, 1) := by decide +kernel
theorem d_C_addRule_54 : decode prog_7_method_7_code 54 = .ok (.getfield 29, 3) := by decide +kernel
theorem d_C_addRule_57 : decode prog_7_method_7_code 57 = .ok (.iconst 1, 1) := by decide +kernel
theorem d_C_addRule_58 : decode prog_7_method_7_code 58 = .ok (.isub, 1) := by decide +kernel
theorem d_C_addRule_59 : decode prog_7_method_7_code 59 = .ok (.ireturn, 1) := by decide +kernel
def Y_C_addRule : sdY := ("SettingsDesk$Schema", prog_7_method_7_code, 7, (some .int), .code y_C_addRule prog_7_method_7_code 7 (some .int) :: sdB0, { frames := 0, cells := 0, slots := 0, locals := 0 }, 0, 0)
section
variable {l : Launch} {D : va_G} {dA : Nat → ClassId} {b n : Nat} {ad : Nat → Nat} {L : Nat → sdL} {sc : Option (Nat × Nat × (Nat → Int32))}
def w_C_addRule (M : sdM) (a1 : Int32) (a2 : Int32) (a3 : Int32) (a4 : Int32) (a5 : Int32) (Q : Int32 → sdM → Prop) : Prop := vp_in (M 1 4) 4 ∧ ∀ M16 : sdM, M16 = sd_s M (21 + (M 1 4).toNatClampNeg) 0 a1 → ∀ M18 : sdM, M18 = sd_s M16 (21 + (M 1 4).toNatClampNeg) 1 a2 → ∀ M20 : sdM, M20 = sd_s M18 (21 + (M 1 4).toNatClampNeg) 2 a3 → ∀ M22 : sdM, M22 = sd_s M20 (21 + (M 1 4).toNatClampNeg) 3 a4 → sdB a5 ∧ ∀ M24 : sdM, M24 = sd_s M22 (21 + (M 1 4).toNatClampNeg) 4 a5 → ∀ M27 : sdM, M27 = sd_s M24 1 4 ((M24 1 4) + (1 : Int32)) → Q ((M27 1 4) - (1 : Int32)) M27
set_option maxHeartbeats 1000000 in
theorem c_C_addRule {a1 : Int32} {a2 : Int32} {a3 : Int32} {a4 : Int32} {a5 : Int32} (hA : sd_ad b n ad) (hT : l.stackTraces = false) (hC : isC n L dA) {Q : Int32 → sdM → Prop} {M : sdM} (hw : w_C_addRule M a1 a2 a3 a4 a5 Q) : sd_Cn l (sdE0 sc) y_C_addRule Y_C_addRule.2.2.2.2.1 Y_C_addRule.2.2.2.2.2.1 0 0 D (sd_tys dA) b n ad L M [.ref 1, .int a1, .int a2, .int a3, .int a4, .int a5] (sd_qi Q) sd_xf := by
  refine sd_enter (Y := Y_C_addRule) rfl rfl rfl (Nat.le_of_ble_eq_true rfl) ?_
  show sdW l (sdE0 sc) Y_C_addRule D (sd_tys dA) b n ad L ad (sd_H D (sdE0 sc).1 n ad L) (sd_qi Q) sd_xf 0 [(0, .ref 1), (1, .int a1), (2, .int a2), (3, .int a3), (4, .int a4), (5, .int a5)] [] M 0 0
  unfold w_C_addRule at hw
  refine x_aload_n 0 0 d_C_addRule_0 rfl rfl ?_
  refine x_getr 5 4 d_C_addRule_1 hC.1 hC.2.1 rfl rfl (by decide) lay_C (List.mem_cons_of_mem _ q92) rfl ?_
  refine x_aload_n 0 0 d_C_addRule_4 rfl rfl ?_
  refine x_geti 4 d_C_addRule_5 hC.1 hC.2.1 rfl rfl (by decide) lay_C (List.mem_cons_of_mem _ q93) rfl ?_
  obtain ⟨hi15, hw⟩ := hw
  refine x_aald (21 + (M 1 4).toNatClampNeg) d_C_addRule_8 hC.rules.1 hC.rules.2 (t0 := 4) rfl hi15 rfl ?_
  refine x_astore 6 [(6, .ref (21 + (M 1 4).toNatClampNeg)), (0, .ref 1), (1, .int a1), (2, .int a2), (3, .int a3), (4, .int a4), (5, .int a5)] d_C_addRule_9 (by decide) rfl ?_
  refine x_aload 6 0 d_C_addRule_11 rfl ?_
  refine x_iload_n 1 2 d_C_addRule_13 rfl rfl ?_
  refine x_puti 0 (ty := .int) hA d_C_addRule_14 (hC.rulesAt hi15).1 (hC.rulesAt hi15).2 rfl rfl (by decide) lay_R (List.mem_cons_of_mem _ q94) rfl ty_R ty_R_ok nm_R rfl (by decide +kernel) rfl rfl (fun M16 e17 => ?_)
  have hw := hw M16 e17
  clear e17
  refine x_aload 6 0 d_C_addRule_17 rfl ?_
  refine x_iload_n 2 3 d_C_addRule_19 rfl rfl ?_
  refine x_puti 1 (ty := .int) hA d_C_addRule_20 (hC.rulesAt hi15).1 (hC.rulesAt hi15).2 rfl rfl (by decide) lay_R (List.mem_cons_of_mem _ q95) rfl ty_R ty_R_ok nm_R rfl (by decide +kernel) rfl rfl (fun M18 e19 => ?_)
  have hw := hw M18 e19
  clear e19
  refine x_aload 6 0 d_C_addRule_23 rfl ?_
  refine x_iload_n 3 4 d_C_addRule_25 rfl rfl ?_
  refine x_puti 2 (ty := .int) hA d_C_addRule_26 (hC.rulesAt hi15).1 (hC.rulesAt hi15).2 rfl rfl (by decide) lay_R (List.mem_cons_of_mem _ q96) rfl ty_R ty_R_ok nm_R rfl (by decide +kernel) rfl rfl (fun M20 e21 => ?_)
  have hw := hw M20 e21
  clear e21
  refine x_aload 6 0 d_C_addRule_29 rfl ?_
  refine x_iload 4 5 d_C_addRule_31 rfl ?_
  refine x_puti 3 (ty := .int) hA d_C_addRule_33 (hC.rulesAt hi15).1 (hC.rulesAt hi15).2 rfl rfl (by decide) lay_R (List.mem_cons_of_mem _ q97) rfl ty_R ty_R_ok nm_R rfl (by decide +kernel) rfl rfl (fun M22 e23 => ?_)
  have hw := hw M22 e23
  clear e23
  refine x_aload 6 0 d_C_addRule_36 rfl ?_
  refine x_iload 5 6 d_C_addRule_38 rfl ?_
  obtain ⟨hb26, hw⟩ := hw
  refine x_puti 4 (ty := .boolean) hA d_C_addRule_40 (hC.rulesAt hi15).1 (hC.rulesAt hi15).2 rfl rfl (by decide) lay_R (List.mem_cons_of_mem _ q98) rfl ty_R ty_R_ok nm_R rfl (by decide +kernel) (sdB_n hb26) (sdB_f hb26) (fun M24 e25 => ?_)
  have hw := hw M24 e25
  clear e25
  refine x_aload_n 0 1 d_C_addRule_43 rfl rfl ?_
  refine x_dup d_C_addRule_44 rfl ?_
  refine x_geti 4 d_C_addRule_45 hC.1 hC.2.1 rfl rfl (by decide) lay_C (List.mem_cons_of_mem _ q93) rfl ?_
  refine x_iconst (v := 1) d_C_addRule_48 (by decide) ?_
  refine x_iadd d_C_addRule_49 ?_
  refine x_puti 4 (ty := .int) hA d_C_addRule_50 hC.1 hC.2.1 rfl rfl (by decide) lay_C (List.mem_cons_of_mem _ q93) rfl ty_C ty_C_ok nm_C rfl (by decide +kernel) rfl rfl (fun M27 e28 => ?_)
  have hw := hw M27 e28
  clear e28
  refine x_aload_n 0 1 d_C_addRule_53 rfl rfl ?_
  refine x_geti 4 d_C_addRule_54 hC.1 hC.2.1 rfl rfl (by decide) lay_C (List.mem_cons_of_mem _ q93) rfl ?_
  refine x_iconst (v := 1) d_C_addRule_57 (by decide) ?_
  refine x_isub d_C_addRule_58 ?_
  exact x_iret d_C_addRule_59 rfl (fun _ h => h) ⟨_, rfl, hw⟩
end
abbrev y_T_note : MethodName := ⟨"SettingsDesk$Trouble", "note", "(IIII)V"⟩
theorem d_T_note_0 : decode prog_10_method_2_code 0 = .ok (.aload_n 0, 1) := by decide +kernel
theorem d_T_note_1 : decode prog_10_method_2_code 1 = .ok (.iload_n 1, 1) := by decide +kernel
theorem d_T_note_2 : decode prog_10_method_2_code 2 = .ok (.putfield 7, 3) := by decide +kernel
theorem d_T_note_5 : decode prog_10_method_2_code 5 = .ok (.aload_n 0, 1) := by decide +kernel
theorem d_T_note_6 : decode prog_10_method_2_code 6 = .ok (.iload_n 2, 1) := by decide +kernel
theorem d_T_note_7 : decode prog_10_method_2_code 7 = .ok (.putfield 13, 3) := by decide +kernel
theorem d_T_note_10 : decode prog_10_method_2_code 10 = .ok (.aload_n 0, 1) := by decide +kernel
theorem d_T_note_11 : decode prog_10_method_2_code 11 = .ok (.iload_n 3, 1) := by decide +kernel
theorem d_T_note_12 : decode prog_10_method_2_code 12 = .ok (.putfield 16, 3) := by decide +kernel
theorem d_T_note_15 : decode prog_10_method_2_code 15 = .ok (.aload_n 0, 1) := by decide +kernel
theorem d_T_note_16 : decode prog_10_method_2_code 16 = .ok (.iload 4, 2) := by decide +kernel
theorem d_T_note_18 : decode prog_10_method_2_code 18 = .ok (.putfield 19, 3) := by decide +kernel
theorem d_T_note_21 : decode prog_10_method_2_code 21 = .ok (.return_, 1) := by decide +kernel
def Y_T_note : sdY := ("SettingsDesk$Trouble", prog_10_method_2_code, 5, none, .code y_T_note prog_10_method_2_code 5 none :: sdB0, { frames := 0, cells := 0, slots := 0, locals := 0 }, 0, 0)
section
variable {l : Launch} {D : va_G} {dA : Nat → ClassId} {b n : Nat} {ad : Nat → Nat} {L : Nat → sdL} {sc : Option (Nat × Nat × (Nat → Int32))}
def w_T_note (o : Nat) (M : sdM) (a1 : Int32) (a2 : Int32) (a3 : Int32) (a4 : Int32) (Q : sdM → Prop) : Prop := ∀ M9 : sdM, M9 = sd_s M o 0 a1 → ∀ M11 : sdM, M11 = sd_s M9 o 1 a2 → ∀ M13 : sdM, M13 = sd_s M11 o 2 a3 → ∀ M15 : sdM, M15 = sd_s M13 o 3 a4 → Q M15
set_option maxHeartbeats 1000000 in
theorem c_T_note {a1 : Int32} {a2 : Int32} {a3 : Int32} {a4 : Int32} {o : Nat} (hA : sd_ad b n ad) (hT : l.stackTraces = false) (ho : isT n L o) {Q : sdM → Prop} {M : sdM} (hw : w_T_note o M a1 a2 a3 a4 Q) : sd_Cn l (sdE0 sc) y_T_note Y_T_note.2.2.2.2.1 Y_T_note.2.2.2.2.2.1 0 0 D (sd_tys dA) b n ad L M [.ref o, .int a1, .int a2, .int a3, .int a4] (sd_qv Q) sd_xf := by
  refine sd_enter (Y := Y_T_note) rfl rfl rfl (Nat.le_of_ble_eq_true rfl) ?_
  show sdW l (sdE0 sc) Y_T_note D (sd_tys dA) b n ad L ad (sd_H D (sdE0 sc).1 n ad L) (sd_qv Q) sd_xf 0 [(0, .ref o), (1, .int a1), (2, .int a2), (3, .int a3), (4, .int a4)] [] M 0 0
  unfold w_T_note at hw
  refine x_aload_n 0 0 d_T_note_0 rfl rfl ?_
  refine x_iload_n 1 1 d_T_note_1 rfl rfl ?_
  refine x_puti 0 (ty := .int) hA d_T_note_2 ho.1 ho.2 rfl rfl (by decide) lay_T (List.mem_cons_of_mem _ q68) rfl ty_T ty_T_ok nm_T rfl (by decide +kernel) rfl rfl (fun M9 e10 => ?_)
  have hw := hw M9 e10
  clear e10
  refine x_aload_n 0 0 d_T_note_5 rfl rfl ?_
  refine x_iload_n 2 2 d_T_note_6 rfl rfl ?_
  refine x_puti 1 (ty := .int) hA d_T_note_7 ho.1 ho.2 rfl rfl (by decide) lay_T (List.mem_cons_of_mem _ q69) rfl ty_T ty_T_ok nm_T rfl (by decide +kernel) rfl rfl (fun M11 e12 => ?_)
  have hw := hw M11 e12
  clear e12
  refine x_aload_n 0 0 d_T_note_10 rfl rfl ?_
  refine x_iload_n 3 3 d_T_note_11 rfl rfl ?_
  refine x_puti 2 (ty := .int) hA d_T_note_12 ho.1 ho.2 rfl rfl (by decide) lay_T (List.mem_cons_of_mem _ q70) rfl ty_T ty_T_ok nm_T rfl (by decide +kernel) rfl rfl (fun M13 e14 => ?_)
  have hw := hw M13 e14
  clear e14
  refine x_aload_n 0 0 d_T_note_15 rfl rfl ?_
  refine x_iload 4 4 d_T_note_16 rfl ?_
  refine x_puti 3 (ty := .int) hA d_T_note_18 ho.1 ho.2 rfl rfl (by decide) lay_T (List.mem_cons_of_mem _ q71) rfl ty_T ty_T_ok nm_T rfl (by decide +kernel) rfl rfl (fun M15 e16 => ?_)
  have hw := hw M15 e16
  clear e16
  exact x_vret d_T_note_21 rfl (fun _ h => h) ⟨rfl, hw⟩
end
theorem q99 : (.fieldLink "SettingsDesk$Session" 16 "SettingsDesk$Session" "candidate" "LSettingsDesk$Settings;" : Cond) ∈ sdB0 := sd_tb1 189 rfl rfl
theorem q100 : (.fieldLink "SettingsDesk$Session" 20 "SettingsDesk$Session" "base" "LSettingsDesk$Settings;" : Cond) ∈ sdB0 := sd_tb1 192 rfl rfl
theorem q101 : (.methodLink "SettingsDesk$Session" 23 ⟨"SettingsDesk$Settings", "copyFrom", "(LSettingsDesk$Settings;)V"⟩ : Cond) ∈ sdB0 := sd_tb3 102 rfl rfl
theorem q102 : (.code ⟨"SettingsDesk$Settings", "copyFrom", "(LSettingsDesk$Settings;)V"⟩ prog_9_method_2_code 2 none : Cond) ∈ sdB0 := sd_tb2 43 rfl rfl
theorem q103 : (.instanceMethod ⟨"SettingsDesk$Settings", "copyFrom", "(LSettingsDesk$Settings;)V"⟩ : Cond) ∈ sdB0 := sd_tb2 41 rfl rfl
theorem q104 : (.selects "SettingsDesk$Settings" ⟨"SettingsDesk$Settings", "copyFrom", "(LSettingsDesk$Settings;)V"⟩ ⟨"SettingsDesk$Settings", "copyFrom", "(LSettingsDesk$Settings;)V"⟩ : Cond) ∈ sdB0 := sd_tb2 42 rfl rfl
abbrev y_N_takeOver : MethodName := ⟨"SettingsDesk$Session", "takeOver", "(LSettingsDesk$Settings;LSettingsDesk$Settings;)V"⟩
theorem d_N_takeOver_0 : decode prog_8_method_2_code 0 = .ok (.aload_n 0, 1) := by decide +kernel
theorem d_N_takeOver_1 : decode prog_8_method_2_code 1 = .ok (.getfield 16, 3) := by decide +kernel
theorem d_N_takeOver_4 : decode prog_8_method_2_code 4 = .ok (.aload_n 1, 1) := by decide +kernel
theorem d_N_takeOver_5 : decode prog_8_method_2_code 5 = .ok (.invokevirtual 23, 3) := by decide +kernel
theorem d_N_takeOver_8 : decode prog_8_method_2_code 8 = .ok (.aload_n 0, 1) := by decide +kernel
theorem d_N_takeOver_9 : decode prog_8_method_2_code 9 = .ok (.getfield 20, 3) := by decide +kernel
theorem d_N_takeOver_12 : decode prog_8_method_2_code 12 = .ok (.aload_n 2, 1) := by decide +kernel
theorem d_N_takeOver_13 : decode prog_8_method_2_code 13 = .ok (.invokevirtual 23, 3) := by decide +kernel
theorem d_N_takeOver_16 : decode prog_8_method_2_code 16 = .ok (.return_, 1) := by decide +kernel
def Y_N_takeOver : sdY := ("SettingsDesk$Session", prog_8_method_2_code, 3, none, .code y_N_takeOver prog_8_method_2_code 3 none :: sdB0, { frames := 2, cells := 0, slots := 0, locals := 39 }, 0, 0)
theorem cw_N_takeOver_S_copyFrom_23 : sd_cwV Y_N_takeOver Y_S_copyFrom y_S_copyFrom 23 1 "SettingsDesk$Settings" := ⟨sd_goodV q101 q103 q104 q7 q102, ⟨_, rfl⟩, ⟨rfl, rfl, rfl, rfl⟩, ⟨rfl, by decide, by decide, by decide +kernel⟩, ⟨by decide, by decide⟩⟩
section
variable {l : Launch} {D : va_G} {dA : Nat → ClassId} {b n : Nat} {ad : Nat → Nat} {L : Nat → sdL} {sc : Option (Nat × Nat × (Nat → Int32))}
def w_N_takeOver (o : Nat) (M : sdM) (p1 : Nat) (p2 : Nat) (Q : sdM → Prop) : Prop := w_S_copyFrom (o + 1) M p1 (fun M3 => w_S_copyFrom (o + 6) M3 p2 (fun M4 => Q M4))
set_option maxHeartbeats 1000000 in
theorem c_N_takeOver {p1 : Nat} {p2 : Nat} {o : Nat} (hA : sd_ad b n ad) (hT : l.stackTraces = false) (ho : isN n L dA o) (hp1 : isS n L dA p1) (hp2 : isS n L dA p2) {Q : sdM → Prop} {M : sdM} (hw : w_N_takeOver o M p1 p2 Q) : sd_Cn l (sdE0 sc) y_N_takeOver Y_N_takeOver.2.2.2.2.1 Y_N_takeOver.2.2.2.2.2.1 0 0 D (sd_tys dA) b n ad L M [.ref o, .ref p1, .ref p2] (sd_qv Q) sd_xf := by
  refine sd_enter (Y := Y_N_takeOver) rfl rfl rfl (Nat.le_of_ble_eq_true rfl) ?_
  show sdW l (sdE0 sc) Y_N_takeOver D (sd_tys dA) b n ad L ad (sd_H D (sdE0 sc).1 n ad L) (sd_qv Q) sd_xf 0 [(0, .ref o), (1, .ref p1), (2, .ref p2)] [] M 0 0
  unfold w_N_takeOver at hw
  refine x_aload_n 0 0 d_N_takeOver_0 rfl rfl ?_
  refine x_getr 1 (o + 1) d_N_takeOver_1 ho.1 ho.2.1 rfl rfl (by decide) lay_N (List.mem_cons_of_mem _ q99) rfl ?_
  refine x_aload_n 1 1 d_N_takeOver_4 rfl rfl ?_
  refine x_callVv (As := [.ref p1]) (t := (o + 1)) (rest := []) (rc := 0) (rs := 0) (c_S_copyFrom hA hT ho.candidate hp1 hw) cw_N_takeOver_S_copyFrom_23 ho.candidate.1 ho.candidate.2.1 rfl d_N_takeOver_5 rfl rfl (Nat.le_of_ble_eq_true rfl) (fun _ _ h => h.elim) (fun _ _ h => h) (fun M3 hw => ?_)
  refine x_aload_n 0 0 d_N_takeOver_8 rfl rfl ?_
  refine x_getr 2 (o + 6) d_N_takeOver_9 ho.1 ho.2.1 rfl rfl (by decide) lay_N (List.mem_cons_of_mem _ q100) rfl ?_
  refine x_aload_n 2 2 d_N_takeOver_12 rfl rfl ?_
  refine x_callVv (As := [.ref p2]) (t := (o + 6)) (rest := []) (rc := 0) (rs := 0) (c_S_copyFrom hA hT ho.base hp2 hw) cw_N_takeOver_S_copyFrom_23 ho.base.1 ho.base.2.1 rfl d_N_takeOver_13 rfl rfl (Nat.le_of_ble_eq_true rfl) (fun _ _ h => h.elim) (fun _ _ h => h) (fun M4 hw => ?_)
  exact x_vret d_N_takeOver_16 rfl (fun _ h => h) ⟨rfl, hw⟩
end
end
section
theorem q597 : (.methodLink "SettingsDesk$Settings" 3 ⟨"java/lang/Object", "<init>", "()V"⟩ : Cond) ∈ sdB0 := sd_tb1 136 rfl rfl
theorem q598 : (.arrayClass .int : Cond) ∈ sdB0 := sd_tb1 77 rfl rfl
abbrev y_S_init : MethodName := ⟨"SettingsDesk$Settings", "<init>", "()V"⟩
theorem d_S_init_0 : decode prog_9_method_1_code 0 = .ok (.aload_n 0, 1) := by decide +kernel
theorem d_S_init_1 : decode prog_9_method_1_code 1 = .ok (.invokespecial 3, 3) := by decide +kernel
theorem d_S_init_4 : decode prog_9_method_1_code 4 = .ok (.aload_n 0, 1) := by decide +kernel
theorem d_S_init_5 : decode prog_9_method_1_code 5 = .ok (.iconst 4, 1) := by decide +kernel
theorem d_S_init_6 : decode prog_9_method_1_code 6 = .ok (.newarray .int, 2) := by decide +kernel
theorem d_S_init_8 : decode prog_9_method_1_code 8 = .ok (.putfield 9, 3) := by decide +kernel
theorem d_S_init_11 : decode prog_9_method_1_code 11 = .ok (.aload_n 0, 1) := by decide +kernel
theorem d_S_init_12 : decode prog_9_method_1_code 12 = .ok (.bipush (48), 2) := by decide +kernel
theorem d_S_init_14 : decode prog_9_method_1_code 14 = .ok (.newarray .int, 2) := by decide +kernel
theorem d_S_init_16 : decode prog_9_method_1_code 16 = .ok (.putfield 15, 3) := by decide +kernel
theorem d_S_init_19 : decode prog_9_method_1_code 19 = .ok (.aload_n 0, 1) := by decide +kernel
theorem d_S_init_20 : decode prog_9_method_1_code 20 = .ok (.sipush (192), 3) := by decide +kernel
theorem d_S_init_23 : decode prog_9_method_1_code 23 = .ok (.newarray .int, 2) := by decide +kernel
theorem d_S_init_25 : decode prog_9_method_1_code 25 = .ok (.putfield 18, 3) := by decide +kernel
theorem d_S_init_28 : decode prog_9_method_1_code 28 = .ok (.aload_n 0, 1) := by decide +kernel
theorem d_S_init_29 : decode prog_9_method_1_code 29 = .ok (.bipush (48), 2) := by decide +kernel
theorem d_S_init_31 : decode prog_9_method_1_code 31 = .ok (.newarray .int, 2) := by decide +kernel
theorem d_S_init_33 : decode prog_9_method_1_code 33 = .ok (.putfield 21, 3) := by decide +kernel
theorem d_S_init_36 : decode prog_9_method_1_code 36 = .ok (.aload_n 0, 1) := by decide +kernel
theorem d_S_init_37 : decode prog_9_method_1_code 37 = .ok (.getfield 9, 3) := by decide +kernel
theorem d_S_init_40 : decode prog_9_method_1_code 40 = .ok (.iconst 0, 1) := by decide +kernel
theorem d_S_init_41 : decode prog_9_method_1_code 41 = .ok (.iconst 1, 1) := by decide +kernel
theorem d_S_init_42 : decode prog_9_method_1_code 42 = .ok (.iastore, 1) := by decide +kernel
theorem d_S_init_43 : decode prog_9_method_1_code 43 = .ok (.return_, 1) := by decide +kernel
def Y_S_init : sdY := ("SettingsDesk$Settings", prog_9_method_1_code, 1, none, .code y_S_init prog_9_method_1_code 1 none :: sdB0, { frames := 1, cells := 4, slots := 292, locals := 12 }, 4, 292)
section
variable {l : Launch} {D : va_G} {dA : Nat → ClassId} {b n : Nat} {ad : Nat → Nat} {L : Nat → sdL} {sc : Option (Nat × Nat × (Nat → Int32))}
def w_S_init (o : Nat) (M : sdM) (Q : sdM → Prop) : Prop := ∀ M1 : sdM, M1 = va_up M (o + 1) (fun _ => 0) → ∀ M3 : sdM, M3 = va_up M1 (o + 2) (fun _ => 0) → ∀ M5 : sdM, M5 = va_up M3 (o + 3) (fun _ => 0) → ∀ M7 : sdM, M7 = va_up M5 (o + 4) (fun _ => 0) → ∀ M9 : sdM, M9 = sd_s M7 (o + 1) 0 (1 : Int32) → Q M9
set_option maxHeartbeats 4000000 in
set_option maxRecDepth 100000 in
theorem c_S_init {o : Nat} (hA : sd_ad b (o + 1) ad) (hT : l.stackTraces = false) (hloc : sd_loc (o + 1) L) (hlo : L o = sd_O 2 [some none, some none, some none, some none]) {Q : sdM → Prop} {M : sdM} (hw : w_S_init o M Q) : sd_CnF l (sdE0 sc) y_S_init Y_S_init.2.2.2.2.1 Y_S_init.2.2.2.2.2.1 4 292 D (sd_tys dA) b (o + 1) ad L M [.ref o] (fun M' H => ∃ (ad2 : Nat → Nat) (L2 : Nat → sdL), (∀ k, k < (o + 1) → ad2 k = ad k) ∧ sd_ad b (o + 5) ad2 ∧ sd_loc (o + 5) L2 ∧ (∀ k, k < o → L2 k = L k) ∧ isS (o + 5) L2 dA o ∧ sd_H D (sdE0 sc).1 (o + 5) ad2 L2 M' H) (sd_qv Q) sd_xf := by
  refine sd_enterF (Y := Y_S_init) rfl rfl rfl (Nat.le_of_ble_eq_true rfl) ?_
  show sdW l (sdE0 sc) Y_S_init D (sd_tys dA) b (o + 1) ad L ad _ _ _ 0 [(0, .ref o)] [] M 4 292
  unfold w_S_init at hw
  refine x_aload_n 0 0 d_S_init_0 rfl rfl ?_
  refine x_objInit d_S_init_1 (List.mem_cons_of_mem _ q597) (List.mem_cons_of_mem _ q64) (List.mem_cons_of_mem _ q65) (by decide) (Nat.le_of_ble_eq_true rfl) ?_
  refine x_aload_n 0 0 d_S_init_4 rfl rfl ?_
  refine x_iconst (v := 4) d_S_init_5 (by decide) ?_
  refine x_newI (rc := 3) (rs := 288) (n := (o + 1)) (t0 := 0) (len := 4) hA hloc (List.forall_mem_cons.mpr ⟨(sd_bel_r (by omega)), fun _ h => absurd h List.not_mem_nil⟩) (List.forall_mem_cons.mpr ⟨(sd_bel_r (by omega)), fun _ h => absurd h List.not_mem_nil⟩) d_S_init_6 rfl (by decide) (List.mem_cons_of_mem _ q598) rfl (by decide) (by decide) (by decide) rfl rfl (fun ad1 M1 hA1 hl1 hu1 hq1 e1 => ?_)
  have hw := hw M1 e1
  clear e1
  have hy1 : va_up L (o + 1) (sd_I (dA 0) 4) (o + 1) = (sd_I (dA 0) 4) := va_up_self _ _ _
  generalize va_up L (o + 1) (sd_I (dA 0) 4) = L1 at hl1 hu1 hy1 ⊢
  have hlo : L1 o = sd_O 2 [some none, some none, some none, some none] := (hu1.2 o (by omega)).trans hlo
  refine x_putr 0 (o + 1) (ty := .array .int) hA1 (fun _ _ _ _ _ _ h => h.2.2.2.2 y_S_init _ _ _ _ rfl) d_S_init_8 (by omega) hlo (Nat.le_of_ble_eq_true rfl) rfl (by decide) lay_S (List.mem_cons_of_mem _ q0) rfl ty_S ty_S_ok nm_S rfl rfl (by decide +kernel) rfl rfl ?_
  obtain ⟨L2, hL2⟩ : ∃ z, z = va_up L1 o (sd_O 2 [some (some (o + 1)), some none, some none, some none]) := ⟨_, rfl⟩
  show sdW l (sdE0 sc) Y_S_init D (sd_tys dA) b _ _ (va_up L1 o (sd_O 2 [some (some (o + 1)), some none, some none, some none])) ad _ _ _ _ _ _ _ _ _
  rw [← hL2]
  have hn2 : ∀ k, k ≠ o → L2 k = L1 k := fun k h => by rw [hL2]; exact va_up_ne _ _ h
  have hl2 : sd_loc (o + 2) L2 := by rw [hL2]; exact sd_loc_at hl1 (fun a a2 f e => by show (Sum.inr (2, sd_fv a f 0 [some (some (o + 1)), some none, some none, some none]) : va_E) = Sum.inr (2, sd_fv a2 f 0 [some (some (o + 1)), some none, some none, some none]); simp only [sd_fv, sd_fx]; rw [e (o + 1) (by omega)])
  have hlo : L2 o = sd_O 2 [some (some (o + 1)), some none, some none, some none] := by rw [hL2]; exact va_up_self _ _ _
  clear hL2
  have hy1 : L2 (o + 1) = (sd_I (dA 0) 4) := (hn2 (o + 1) (by omega)).trans hy1
  refine x_aload_n 0 0 d_S_init_11 rfl rfl ?_
  refine x_bipush (v := 48) d_S_init_12 (by decide) ?_
  refine x_newI (rc := 2) (rs := 240) (n := (o + 2)) (t0 := 0) (len := 48) hA1 hl2 (List.forall_mem_cons.mpr ⟨(sd_bel_r (by omega)), fun _ h => absurd h List.not_mem_nil⟩) (List.forall_mem_cons.mpr ⟨(sd_bel_r (by omega)), fun _ h => absurd h List.not_mem_nil⟩) d_S_init_14 rfl (by decide) (List.mem_cons_of_mem _ q598) rfl (by decide) (by decide) (by decide) rfl rfl (fun ad3 M3 hA3 hl3 hu3 hq3 e3 => ?_)
  have hw := hw M3 e3
  clear e3
  have hy3 : va_up L2 (o + 2) (sd_I (dA 0) 48) (o + 2) = (sd_I (dA 0) 48) := va_up_self _ _ _
  generalize va_up L2 (o + 2) (sd_I (dA 0) 48) = L3 at hl3 hu3 hy3 ⊢
  have hlo : L3 o = sd_O 2 [some (some (o + 1)), some none, some none, some none] := (hu3.2 o (by omega)).trans hlo
  have hy1 : L3 (o + 1) = (sd_I (dA 0) 4) := (hu3.2 (o + 1) (by omega)).trans hy1
  refine x_putr 1 (o + 2) (ty := .array .int) hA3 (fun _ _ _ _ _ _ h => h.2.2.2.2 y_S_init _ _ _ _ rfl) d_S_init_16 (by omega) hlo (Nat.le_of_ble_eq_true rfl) rfl (by decide) lay_S (List.mem_cons_of_mem _ q16) rfl ty_S ty_S_ok nm_S rfl rfl (by decide +kernel) rfl rfl ?_
  obtain ⟨L4, hL4⟩ : ∃ z, z = va_up L3 o (sd_O 2 [some (some (o + 1)), some (some (o + 2)), some none, some none]) := ⟨_, rfl⟩
  show sdW l (sdE0 sc) Y_S_init D (sd_tys dA) b _ _ (va_up L3 o (sd_O 2 [some (some (o + 1)), some (some (o + 2)), some none, some none])) ad _ _ _ _ _ _ _ _ _
  rw [← hL4]
  have hn4 : ∀ k, k ≠ o → L4 k = L3 k := fun k h => by rw [hL4]; exact va_up_ne _ _ h
  have hl4 : sd_loc (o + 3) L4 := by rw [hL4]; exact sd_loc_at hl3 (fun a a2 f e => by show (Sum.inr (2, sd_fv a f 0 [some (some (o + 1)), some (some (o + 2)), some none, some none]) : va_E) = Sum.inr (2, sd_fv a2 f 0 [some (some (o + 1)), some (some (o + 2)), some none, some none]); simp only [sd_fv, sd_fx]; rw [e (o + 1) (by omega), e (o + 2) (by omega)])
  have hlo : L4 o = sd_O 2 [some (some (o + 1)), some (some (o + 2)), some none, some none] := by rw [hL4]; exact va_up_self _ _ _
  clear hL4
  have hy1 : L4 (o + 1) = (sd_I (dA 0) 4) := (hn4 (o + 1) (by omega)).trans hy1
  have hy3 : L4 (o + 2) = (sd_I (dA 0) 48) := (hn4 (o + 2) (by omega)).trans hy3
  refine x_aload_n 0 0 d_S_init_19 rfl rfl ?_
  refine x_sipush (v := 192) d_S_init_20 (by decide) ?_
  refine x_newI (rc := 1) (rs := 48) (n := (o + 3)) (t0 := 0) (len := 192) hA3 hl4 (List.forall_mem_cons.mpr ⟨(sd_bel_r (by omega)), fun _ h => absurd h List.not_mem_nil⟩) (List.forall_mem_cons.mpr ⟨(sd_bel_r (by omega)), fun _ h => absurd h List.not_mem_nil⟩) d_S_init_23 rfl (by decide) (List.mem_cons_of_mem _ q598) rfl (by decide) (by decide) (by decide) rfl rfl (fun ad5 M5 hA5 hl5 hu5 hq5 e5 => ?_)
  have hw := hw M5 e5
  clear e5
  have hy5 : va_up L4 (o + 3) (sd_I (dA 0) 192) (o + 3) = (sd_I (dA 0) 192) := va_up_self _ _ _
  generalize va_up L4 (o + 3) (sd_I (dA 0) 192) = L5 at hl5 hu5 hy5 ⊢
  have hlo : L5 o = sd_O 2 [some (some (o + 1)), some (some (o + 2)), some none, some none] := (hu5.2 o (by omega)).trans hlo
  have hy1 : L5 (o + 1) = (sd_I (dA 0) 4) := (hu5.2 (o + 1) (by omega)).trans hy1
  have hy3 : L5 (o + 2) = (sd_I (dA 0) 48) := (hu5.2 (o + 2) (by omega)).trans hy3
  refine x_putr 2 (o + 3) (ty := .array .int) hA5 (fun _ _ _ _ _ _ h => h.2.2.2.2 y_S_init _ _ _ _ rfl) d_S_init_25 (by omega) hlo (Nat.le_of_ble_eq_true rfl) rfl (by decide) lay_S (List.mem_cons_of_mem _ q2) rfl ty_S ty_S_ok nm_S rfl rfl (by decide +kernel) rfl rfl ?_
  obtain ⟨L6, hL6⟩ : ∃ z, z = va_up L5 o (sd_O 2 [some (some (o + 1)), some (some (o + 2)), some (some (o + 3)), some none]) := ⟨_, rfl⟩
  show sdW l (sdE0 sc) Y_S_init D (sd_tys dA) b _ _ (va_up L5 o (sd_O 2 [some (some (o + 1)), some (some (o + 2)), some (some (o + 3)), some none])) ad _ _ _ _ _ _ _ _ _
  rw [← hL6]
  have hn6 : ∀ k, k ≠ o → L6 k = L5 k := fun k h => by rw [hL6]; exact va_up_ne _ _ h
  have hl6 : sd_loc (o + 4) L6 := by rw [hL6]; exact sd_loc_at hl5 (fun a a2 f e => by show (Sum.inr (2, sd_fv a f 0 [some (some (o + 1)), some (some (o + 2)), some (some (o + 3)), some none]) : va_E) = Sum.inr (2, sd_fv a2 f 0 [some (some (o + 1)), some (some (o + 2)), some (some (o + 3)), some none]); simp only [sd_fv, sd_fx]; rw [e (o + 1) (by omega), e (o + 2) (by omega), e (o + 3) (by omega)])
  have hlo : L6 o = sd_O 2 [some (some (o + 1)), some (some (o + 2)), some (some (o + 3)), some none] := by rw [hL6]; exact va_up_self _ _ _
  clear hL6
  have hy1 : L6 (o + 1) = (sd_I (dA 0) 4) := (hn6 (o + 1) (by omega)).trans hy1
  have hy3 : L6 (o + 2) = (sd_I (dA 0) 48) := (hn6 (o + 2) (by omega)).trans hy3
  have hy5 : L6 (o + 3) = (sd_I (dA 0) 192) := (hn6 (o + 3) (by omega)).trans hy5
  refine x_aload_n 0 0 d_S_init_28 rfl rfl ?_
  refine x_bipush (v := 48) d_S_init_29 (by decide) ?_
  refine x_newI (rc := 0) (rs := 0) (n := (o + 4)) (t0 := 0) (len := 48) hA5 hl6 (List.forall_mem_cons.mpr ⟨(sd_bel_r (by omega)), fun _ h => absurd h List.not_mem_nil⟩) (List.forall_mem_cons.mpr ⟨(sd_bel_r (by omega)), fun _ h => absurd h List.not_mem_nil⟩) d_S_init_31 rfl (by decide) (List.mem_cons_of_mem _ q598) rfl (by decide) (by decide) (by decide) rfl rfl (fun ad7 M7 hA7 hl7 hu7 hq7 e7 => ?_)
  have hw := hw M7 e7
  clear e7
  have hy7 : va_up L6 (o + 4) (sd_I (dA 0) 48) (o + 4) = (sd_I (dA 0) 48) := va_up_self _ _ _
  generalize va_up L6 (o + 4) (sd_I (dA 0) 48) = L7 at hl7 hu7 hy7 ⊢
  have hlo : L7 o = sd_O 2 [some (some (o + 1)), some (some (o + 2)), some (some (o + 3)), some none] := (hu7.2 o (by omega)).trans hlo
  have hy1 : L7 (o + 1) = (sd_I (dA 0) 4) := (hu7.2 (o + 1) (by omega)).trans hy1
  have hy3 : L7 (o + 2) = (sd_I (dA 0) 48) := (hu7.2 (o + 2) (by omega)).trans hy3
  have hy5 : L7 (o + 3) = (sd_I (dA 0) 192) := (hu7.2 (o + 3) (by omega)).trans hy5
  refine x_putr 3 (o + 4) (ty := .array .int) hA7 (fun _ _ _ _ _ _ h => h.2.2.2.2 y_S_init _ _ _ _ rfl) d_S_init_33 (by omega) hlo (Nat.le_of_ble_eq_true rfl) rfl (by decide) lay_S (List.mem_cons_of_mem _ q1) rfl ty_S ty_S_ok nm_S rfl rfl (by decide +kernel) rfl rfl ?_
  obtain ⟨L8, hL8⟩ : ∃ z, z = va_up L7 o (sd_O 2 [some (some (o + 1)), some (some (o + 2)), some (some (o + 3)), some (some (o + 4))]) := ⟨_, rfl⟩
  show sdW l (sdE0 sc) Y_S_init D (sd_tys dA) b _ _ (va_up L7 o (sd_O 2 [some (some (o + 1)), some (some (o + 2)), some (some (o + 3)), some (some (o + 4))])) ad _ _ _ _ _ _ _ _ _
  rw [← hL8]
  have hn8 : ∀ k, k ≠ o → L8 k = L7 k := fun k h => by rw [hL8]; exact va_up_ne _ _ h
  have hl8 : sd_loc (o + 5) L8 := by rw [hL8]; exact sd_loc_at hl7 (fun a a2 f e => by show (Sum.inr (2, sd_fv a f 0 [some (some (o + 1)), some (some (o + 2)), some (some (o + 3)), some (some (o + 4))]) : va_E) = Sum.inr (2, sd_fv a2 f 0 [some (some (o + 1)), some (some (o + 2)), some (some (o + 3)), some (some (o + 4))]); simp only [sd_fv, sd_fx]; rw [e (o + 1) (by omega), e (o + 2) (by omega), e (o + 3) (by omega), e (o + 4) (by omega)])
  have hlo : L8 o = sd_O 2 [some (some (o + 1)), some (some (o + 2)), some (some (o + 3)), some (some (o + 4))] := by rw [hL8]; exact va_up_self _ _ _
  clear hL8
  have hy1 : L8 (o + 1) = (sd_I (dA 0) 4) := (hn8 (o + 1) (by omega)).trans hy1
  have hy3 : L8 (o + 2) = (sd_I (dA 0) 48) := (hn8 (o + 2) (by omega)).trans hy3
  have hy5 : L8 (o + 3) = (sd_I (dA 0) 192) := (hn8 (o + 3) (by omega)).trans hy5
  have hy7 : L8 (o + 4) = (sd_I (dA 0) 48) := (hn8 (o + 4) (by omega)).trans hy7
  refine x_aload_n 0 0 d_S_init_36 rfl rfl ?_
  refine x_getr 0 (o + 1) d_S_init_37 (by omega) hlo rfl rfl (by decide) lay_S (List.mem_cons_of_mem _ q0) rfl ?_
  refine x_iconst (v := 0) d_S_init_40 (by decide) ?_
  refine x_iconst (v := 1) d_S_init_41 (by decide) ?_
  refine x_iast hA7 d_S_init_42 (by omega) hy1 rfl (vp_in_nI (n := 0) (N := 4) (by decide) (by decide)) (fun M9 e9 => ?_)
  have hw := hw M9 e9
  clear e9
  exact x_vret d_S_init_43 rfl (fun H h => ⟨ad7, L8, (fun k hk => ((hq7 k (by omega)).trans ((hq5 k (by omega)).trans ((hq3 k (by omega)).trans (hq1 k (by omega)))))), hA7, hl8, (fun k hk => ((hn8 k (by omega)).trans ((hu7.2 k (by omega)).trans ((hn6 k (by omega)).trans ((hu5.2 k (by omega)).trans ((hn4 k (by omega)).trans ((hu3.2 k (by omega)).trans ((hn2 k (by omega)).trans (hu1.2 k (by omega)))))))))), ⟨by omega, hlo, ⟨by omega, hy1⟩, ⟨by omega, hy3⟩, ⟨by omega, hy5⟩, ⟨by omega, hy7⟩⟩, h⟩) ⟨rfl, hw⟩
end
theorem q599 : (.methodLink "SettingsDesk$Session" 1 ⟨"java/lang/Object", "<init>", "()V"⟩ : Cond) ∈ sdB0 := sd_tb1 183 rfl rfl
theorem q600 : (.fieldLink "SettingsDesk$Session" 7 "SettingsDesk$Session" "begun" "Z" : Cond) ∈ sdB0 := sd_tb1 186 rfl rfl
theorem q601 : (.classLink "SettingsDesk$Session" 13 "SettingsDesk$Settings" : Cond) ∈ sdB0 := sd_tb1 184 rfl rfl
theorem q602 : (.instantiable "SettingsDesk$Settings" 4 : Cond) ∈ sdB0 := sd_tb1 132 rfl rfl
theorem q603 : (.code ⟨"SettingsDesk$Settings", "<init>", "()V"⟩ prog_9_method_1_code 1 none : Cond) ∈ sdB0 := sd_tb1 135 rfl rfl
theorem q604 : (.instanceMethod ⟨"SettingsDesk$Settings", "<init>", "()V"⟩ : Cond) ∈ sdB0 := sd_tb1 134 rfl rfl
theorem q605 : (.methodLink "SettingsDesk$Session" 15 ⟨"SettingsDesk$Settings", "<init>", "()V"⟩ : Cond) ∈ sdB0 := sd_tb1 185 rfl rfl
abbrev y_N_init : MethodName := ⟨"SettingsDesk$Session", "<init>", "()V"⟩
theorem d_N_init_0 : decode prog_8_method_1_code 0 = .ok (.aload_n 0, 1) := by decide +kernel
theorem d_N_init_1 : decode prog_8_method_1_code 1 = .ok (.invokespecial 1, 3) := by decide +kernel
theorem d_N_init_4 : decode prog_8_method_1_code 4 = .ok (.aload_n 0, 1) := by decide +kernel
theorem d_N_init_5 : decode prog_8_method_1_code 5 = .ok (.iconst 0, 1) := by decide +kernel
theorem d_N_init_6 : decode prog_8_method_1_code 6 = .ok (.putfield 7, 3) := by decide +kernel
theorem d_N_init_9 : decode prog_8_method_1_code 9 = .ok (.aload_n 0, 1) := by decide +kernel
theorem d_N_init_10 : decode prog_8_method_1_code 10 = .ok (.new 13, 3) := by decide +kernel
theorem d_N_init_13 : decode prog_8_method_1_code 13 = .ok (.dup, 1) := by decide +kernel
theorem d_N_init_14 : decode prog_8_method_1_code 14 = .ok (.invokespecial 15, 3) := by decide +kernel
theorem d_N_init_17 : decode prog_8_method_1_code 17 = .ok (.putfield 16, 3) := by decide +kernel
theorem d_N_init_20 : decode prog_8_method_1_code 20 = .ok (.aload_n 0, 1) := by decide +kernel
theorem d_N_init_21 : decode prog_8_method_1_code 21 = .ok (.new 13, 3) := by decide +kernel
theorem d_N_init_24 : decode prog_8_method_1_code 24 = .ok (.dup, 1) := by decide +kernel
theorem d_N_init_25 : decode prog_8_method_1_code 25 = .ok (.invokespecial 15, 3) := by decide +kernel
theorem d_N_init_28 : decode prog_8_method_1_code 28 = .ok (.putfield 20, 3) := by decide +kernel
theorem d_N_init_31 : decode prog_8_method_1_code 31 = .ok (.return_, 1) := by decide +kernel
def Y_N_init : sdY := ("SettingsDesk$Session", prog_8_method_1_code, 1, none, .code y_N_init prog_8_method_1_code 1 none :: sdB0, { frames := 2, cells := 10, slots := 592, locals := 32 }, 10, 592)
section
variable {l : Launch} {D : va_G} {dA : Nat → ClassId} {b n : Nat} {ad : Nat → Nat} {L : Nat → sdL} {sc : Option (Nat × Nat × (Nat → Int32))}
def w_N_init (o : Nat) (M : sdM) (Q : sdM → Prop) : Prop := sdB (0 : Int32) ∧ ∀ M1 : sdM, M1 = sd_s M o 0 (0 : Int32) → ∀ M2 : sdM, M2 = va_up M1 (o + 1) (fun _ => 0) → w_S_init (o + 1) M2 (fun M3 => ∀ M5 : sdM, M5 = va_up M3 (o + 6) (fun _ => 0) → w_S_init (o + 6) M5 (fun M6 => Q M6))
set_option maxHeartbeats 4000000 in
set_option maxRecDepth 100000 in
theorem c_N_init {o : Nat} (hA : sd_ad b (o + 1) ad) (hT : l.stackTraces = false) (hloc : sd_loc (o + 1) L) (hlo : L o = sd_O 3 [none, some none, some none]) {Q : sdM → Prop} {M : sdM} (hw : w_N_init o M Q) : sd_CnF l (sdE0 sc) y_N_init Y_N_init.2.2.2.2.1 Y_N_init.2.2.2.2.2.1 10 592 D (sd_tys dA) b (o + 1) ad L M [.ref o] (fun M' H => ∃ (ad2 : Nat → Nat) (L2 : Nat → sdL), (∀ k, k < (o + 1) → ad2 k = ad k) ∧ sd_ad b (o + 11) ad2 ∧ sd_loc (o + 11) L2 ∧ (∀ k, k < o → L2 k = L k) ∧ isN (o + 11) L2 dA o ∧ sd_H D (sdE0 sc).1 (o + 11) ad2 L2 M' H) (sd_qv Q) sd_xf := by
  refine sd_enterF (Y := Y_N_init) rfl rfl rfl (Nat.le_of_ble_eq_true rfl) ?_
  show sdW l (sdE0 sc) Y_N_init D (sd_tys dA) b (o + 1) ad L ad _ _ _ 0 [(0, .ref o)] [] M 10 592
  unfold w_N_init at hw
  refine x_aload_n 0 0 d_N_init_0 rfl rfl ?_
  refine x_objInit d_N_init_1 (List.mem_cons_of_mem _ q599) (List.mem_cons_of_mem _ q64) (List.mem_cons_of_mem _ q65) (by decide) (Nat.le_of_ble_eq_true rfl) ?_
  refine x_aload_n 0 0 d_N_init_4 rfl rfl ?_
  refine x_iconst (v := 0) d_N_init_5 (by decide) ?_
  obtain ⟨hb1, hw⟩ := hw
  refine x_puti 0 (ty := .boolean) hA d_N_init_6 (by omega) hlo rfl rfl (by decide) lay_N (List.mem_cons_of_mem _ q600) rfl ty_N ty_N_ok nm_N rfl (by decide +kernel) (sdB_n hb1) (sdB_f hb1) (fun M1 e1 => ?_)
  have hw := hw M1 e1
  clear e1
  refine x_aload_n 0 0 d_N_init_9 rfl rfl ?_
  refine x_new (rc := 9) (rs := 588) (n := (o + 1)) [some none, some none, some none, some none] hA hloc (List.forall_mem_cons.mpr ⟨(sd_bel_r (by omega)), fun _ h => absurd h List.not_mem_nil⟩) (List.forall_mem_cons.mpr ⟨(sd_bel_r (by omega)), fun _ h => absurd h List.not_mem_nil⟩) d_N_init_10 (ci := 2) (N := 4) (C := "SettingsDesk$Settings") (T := T_S) rfl ty_S ty_S_ok lay_S (List.mem_cons_of_mem _ q601) (List.mem_cons_of_mem _ q602) (List.mem_cons_of_mem _ q7) (sd_nr rfl) (by decide +kernel) rfl rfl (fun ad2 L2 M2 hA2 hl2 hu2 hy2 hq2 e2 => ?_)
  have hw := hw M2 e2
  clear e2
  have hlo : L2 o = sd_O 3 [none, some none, some none] := (hu2.2 o (by omega)).trans hlo
  refine x_dup d_N_init_13 rfl ?_
  refine x_callIg (As := []) (t := (o + 1)) (rest := [.ref (o + 1), .ref o]) (rc := 5) (rs := 296) (na := 0) (host := "SettingsDesk") (c_S_init (o := (o + 1)) hA2 hT hl2 hy2 hw) (sd_goodB q603) ⟨_, rfl⟩ (List.mem_cons_of_mem _ q7) (List.mem_cons_of_mem _ q604) (Or.inl (List.mem_cons_of_mem _ q605)) ⟨rfl, by decide, by decide, by decide +kernel⟩ ⟨rfl, rfl, rfl, rfl⟩ ⟨by decide, by decide⟩ d_N_init_14 rfl rfl (Nat.le_of_ble_eq_true rfl) (fun _ _ h => h) (fun v M3 H3 hq9 hF9 => ?_)
  obtain ⟨ad3, L3, hq3, hA3, hl3, hk3, hs3, hH3⟩ := hF9
  refine ⟨hq9.1, (o + 6), ad3, L3, hH3, sd_l_ext hq3 (List.forall_mem_cons.mpr ⟨(sd_bel_r (by omega)), fun _ h => absurd h List.not_mem_nil⟩), sd_map_ext hq3 (List.forall_mem_cons.mpr ⟨(sd_bel_r (by omega)), List.forall_mem_cons.mpr ⟨(sd_bel_r (by omega)), fun _ h => absurd h List.not_mem_nil⟩⟩), ?_⟩
  have hw := hq9.2
  clear hq9
  clear hH3
  have hlo : L3 o = sd_O 3 [none, some none, some none] := (hk3 o (by omega)).trans hlo
  refine x_putr 1 (o + 1) (ty := .object "SettingsDesk$Settings") hA3 (fun _ _ _ _ _ _ h => h.2.2.2.2 y_N_init _ _ _ _ rfl) d_N_init_17 (by omega) hlo (Nat.le_of_ble_eq_true rfl) rfl (by decide) lay_N (List.mem_cons_of_mem _ q99) rfl ty_N ty_N_ok nm_N rfl rfl (by decide +kernel) rfl rfl ?_
  obtain ⟨L4, hL4⟩ : ∃ z, z = va_up L3 o (sd_O 3 [none, some (some (o + 1)), some none]) := ⟨_, rfl⟩
  show sdW l (sdE0 sc) Y_N_init D (sd_tys dA) b _ _ (va_up L3 o (sd_O 3 [none, some (some (o + 1)), some none])) ad _ _ _ _ _ _ _ _ _
  rw [← hL4]
  have hn4 : ∀ k, k ≠ o → L4 k = L3 k := fun k h => by rw [hL4]; exact va_up_ne _ _ h
  have hl4 : sd_loc (o + 6) L4 := by rw [hL4]; exact sd_loc_at hl3 (fun a a2 f e => by show (Sum.inr (3, sd_fv a f 0 [none, some (some (o + 1)), some none]) : va_E) = Sum.inr (3, sd_fv a2 f 0 [none, some (some (o + 1)), some none]); simp only [sd_fv, sd_fx]; rw [e (o + 1) (by omega)])
  have hlo : L4 o = sd_O 3 [none, some (some (o + 1)), some none] := by rw [hL4]; exact va_up_self _ _ _
  clear hL4
  have hs3 : isS (o + 6) L4 dA (o + 1) := hs3.cg (by omega) (fun k h1 h2 => hn4 k (by omega))
  refine x_aload_n 0 0 d_N_init_20 rfl rfl ?_
  refine x_new (rc := 4) (rs := 292) (n := (o + 6)) [some none, some none, some none, some none] hA3 hl4 (List.forall_mem_cons.mpr ⟨(sd_bel_r (by omega)), fun _ h => absurd h List.not_mem_nil⟩) (List.forall_mem_cons.mpr ⟨(sd_bel_r (by omega)), fun _ h => absurd h List.not_mem_nil⟩) d_N_init_21 (ci := 2) (N := 4) (C := "SettingsDesk$Settings") (T := T_S) rfl ty_S ty_S_ok lay_S (List.mem_cons_of_mem _ q601) (List.mem_cons_of_mem _ q602) (List.mem_cons_of_mem _ q7) (sd_nr rfl) (by decide +kernel) rfl rfl (fun ad5 L5 M5 hA5 hl5 hu5 hy5 hq5 e5 => ?_)
  have hw := hw M5 e5
  clear e5
  have hlo : L5 o = sd_O 3 [none, some (some (o + 1)), some none] := (hu5.2 o (by omega)).trans hlo
  have hs3 : isS (o + 7) L5 dA (o + 1) := hs3.cg (by omega) (fun k h1 h2 => hu5.2 k (by omega))
  refine x_dup d_N_init_24 rfl ?_
  refine x_callIg (As := []) (t := (o + 6)) (rest := [.ref (o + 6), .ref o]) (rc := 0) (rs := 0) (na := 0) (host := "SettingsDesk") (c_S_init (o := (o + 6)) hA5 hT hl5 hy5 hw) (sd_goodB q603) ⟨_, rfl⟩ (List.mem_cons_of_mem _ q7) (List.mem_cons_of_mem _ q604) (Or.inl (List.mem_cons_of_mem _ q605)) ⟨rfl, by decide, by decide, by decide +kernel⟩ ⟨rfl, rfl, rfl, rfl⟩ ⟨by decide, by decide⟩ d_N_init_25 rfl rfl (Nat.le_of_ble_eq_true rfl) (fun _ _ h => h) (fun v M6 H6 hq9 hF9 => ?_)
  obtain ⟨ad6, L6, hq6, hA6, hl6, hk6, hs6, hH6⟩ := hF9
  refine ⟨hq9.1, (o + 11), ad6, L6, hH6, sd_l_ext hq6 (List.forall_mem_cons.mpr ⟨(sd_bel_r (by omega)), fun _ h => absurd h List.not_mem_nil⟩), sd_map_ext hq6 (List.forall_mem_cons.mpr ⟨(sd_bel_r (by omega)), List.forall_mem_cons.mpr ⟨(sd_bel_r (by omega)), fun _ h => absurd h List.not_mem_nil⟩⟩), ?_⟩
  have hw := hq9.2
  clear hq9
  clear hH6
  have hlo : L6 o = sd_O 3 [none, some (some (o + 1)), some none] := (hk6 o (by omega)).trans hlo
  have hs3 : isS (o + 11) L6 dA (o + 1) := hs3.cg (by omega) (fun k h1 h2 => hk6 k (by omega))
  refine x_putr 2 (o + 6) (ty := .object "SettingsDesk$Settings") hA6 (fun _ _ _ _ _ _ h => h.2.2.2.2 y_N_init _ _ _ _ rfl) d_N_init_28 (by omega) hlo (Nat.le_of_ble_eq_true rfl) rfl (by decide) lay_N (List.mem_cons_of_mem _ q100) rfl ty_N ty_N_ok nm_N rfl rfl (by decide +kernel) rfl rfl ?_
  obtain ⟨L7, hL7⟩ : ∃ z, z = va_up L6 o (sd_O 3 [none, some (some (o + 1)), some (some (o + 6))]) := ⟨_, rfl⟩
  show sdW l (sdE0 sc) Y_N_init D (sd_tys dA) b _ _ (va_up L6 o (sd_O 3 [none, some (some (o + 1)), some (some (o + 6))])) ad _ _ _ _ _ _ _ _ _
  rw [← hL7]
  have hn7 : ∀ k, k ≠ o → L7 k = L6 k := fun k h => by rw [hL7]; exact va_up_ne _ _ h
  have hl7 : sd_loc (o + 11) L7 := by rw [hL7]; exact sd_loc_at hl6 (fun a a2 f e => by show (Sum.inr (3, sd_fv a f 0 [none, some (some (o + 1)), some (some (o + 6))]) : va_E) = Sum.inr (3, sd_fv a2 f 0 [none, some (some (o + 1)), some (some (o + 6))]); simp only [sd_fv, sd_fx]; rw [e (o + 1) (by omega), e (o + 6) (by omega)])
  have hlo : L7 o = sd_O 3 [none, some (some (o + 1)), some (some (o + 6))] := by rw [hL7]; exact va_up_self _ _ _
  clear hL7
  have hs3 : isS (o + 11) L7 dA (o + 1) := hs3.cg (by omega) (fun k h1 h2 => hn7 k (by omega))
  have hs6 : isS (o + 11) L7 dA (o + 6) := hs6.cg (by omega) (fun k h1 h2 => hn7 k (by omega))
  exact x_vret d_N_init_31 rfl (fun H h => ⟨ad6, L7, (fun k hk => ((hq6 k (by omega)).trans ((hq5 k (by omega)).trans ((hq3 k (by omega)).trans (hq2 k (by omega)))))), hA6, hl7, (fun k hk => ((hn7 k (by omega)).trans ((hk6 k (by omega)).trans ((hu5.2 k (by omega)).trans ((hn4 k (by omega)).trans ((hk3 k (by omega)).trans (hu2.2 k (by omega)))))))), ⟨by omega, hlo, hs3, hs6⟩, h⟩) ⟨rfl, hw⟩
end
theorem q606 : (.methodLink "SettingsDesk$Schema" 3 ⟨"java/lang/Object", "<init>", "()V"⟩ : Cond) ∈ sdB0 := sd_tb1 35 rfl rfl
theorem q607 : (.fieldLink "SettingsDesk$Schema" 9 "SettingsDesk$Schema" "isReady" "Z" : Cond) ∈ sdB0 := sd_tb1 104 rfl rfl
theorem q608 : (.classLink "SettingsDesk$Schema" 23 "SettingsDesk$Leaf" : Cond) ∈ sdB0 := sd_tb1 36 rfl rfl
theorem q609 : (.arrayOver (.object "SettingsDesk$Leaf") : Cond) ∈ sdB0 := sd_tb1 37 rfl rfl
theorem q610 : (.classLink "SettingsDesk$Schema" 32 "SettingsDesk$Rule" : Cond) ∈ sdB0 := sd_tb1 38 rfl rfl
theorem q611 : (.arrayOver (.object "SettingsDesk$Rule") : Cond) ∈ sdB0 := sd_tb1 39 rfl rfl
theorem q612 : (.instantiable "SettingsDesk$Leaf" 7 : Cond) ∈ sdB0 := sd_tb1 40 rfl rfl
theorem q613 : (.code ⟨"SettingsDesk$Leaf", "<init>", "()V"⟩ prog_4_method_1_code 1 none : Cond) ∈ sdB0 := sd_tb1 43 rfl rfl
theorem q614 : (.instanceMethod ⟨"SettingsDesk$Leaf", "<init>", "()V"⟩ : Cond) ∈ sdB0 := sd_tb1 42 rfl rfl
theorem q615 : (.instantiable "SettingsDesk$Rule" 5 : Cond) ∈ sdB0 := sd_tb1 78 rfl rfl
theorem q616 : (.initialized "SettingsDesk$Rule" : Cond) ∈ sdB0 := sd_tb1 4 rfl rfl
theorem q617 : (.code ⟨"SettingsDesk$Rule", "<init>", "()V"⟩ prog_6_method_1_code 1 none : Cond) ∈ sdB0 := sd_tb1 81 rfl rfl
theorem q618 : (.instanceMethod ⟨"SettingsDesk$Rule", "<init>", "()V"⟩ : Cond) ∈ sdB0 := sd_tb1 80 rfl rfl
abbrev y_C_init : MethodName := ⟨"SettingsDesk$Schema", "<init>", "()V"⟩
theorem d_C_init_0 : decode prog_7_method_1_code 0 = .ok (.aload_n 0, 1) := by decide +kernel
theorem d_C_init_1 : decode prog_7_method_1_code 1 = .ok (.invokespecial 3, 3) := by decide +kernel
theorem d_C_init_4 : decode prog_7_method_1_code 4 = .ok (.aload_n 0, 1) := by decide +kernel
theorem d_C_init_5 : decode prog_7_method_1_code 5 = .ok (.iconst 0, 1) := by decide +kernel
theorem d_C_init_6 : decode prog_7_method_1_code 6 = .ok (.putfield 9, 3) := by decide +kernel
theorem d_C_init_9 : decode prog_7_method_1_code 9 = .ok (.aload_n 0, 1) := by decide +kernel
theorem d_C_init_10 : decode prog_7_method_1_code 10 = .ok (.iconst 1, 1) := by decide +kernel
theorem d_C_init_11 : decode prog_7_method_1_code 11 = .ok (.putfield 15, 3) := by decide +kernel
theorem d_C_init_14 : decode prog_7_method_1_code 14 = .ok (.aload_n 0, 1) := by decide +kernel
theorem d_C_init_15 : decode prog_7_method_1_code 15 = .ok (.iconst 4, 1) := by decide +kernel
theorem d_C_init_16 : decode prog_7_method_1_code 16 = .ok (.newarray .int, 2) := by decide +kernel
theorem d_C_init_18 : decode prog_7_method_1_code 18 = .ok (.putfield 19, 3) := by decide +kernel
theorem d_C_init_21 : decode prog_7_method_1_code 21 = .ok (.aload_n 0, 1) := by decide +kernel
theorem d_C_init_22 : decode prog_7_method_1_code 22 = .ok (.bipush (16), 2) := by decide +kernel
theorem d_C_init_24 : decode prog_7_method_1_code 24 = .ok (.anewarray 23, 3) := by decide +kernel
theorem d_C_init_27 : decode prog_7_method_1_code 27 = .ok (.putfield 25, 3) := by decide +kernel
theorem d_C_init_30 : decode prog_7_method_1_code 30 = .ok (.aload_n 0, 1) := by decide +kernel
theorem d_C_init_31 : decode prog_7_method_1_code 31 = .ok (.iconst 0, 1) := by decide +kernel
theorem d_C_init_32 : decode prog_7_method_1_code 32 = .ok (.putfield 29, 3) := by decide +kernel
theorem d_C_init_35 : decode prog_7_method_1_code 35 = .ok (.aload_n 0, 1) := by decide +kernel
theorem d_C_init_36 : decode prog_7_method_1_code 36 = .ok (.iconst 4, 1) := by decide +kernel
theorem d_C_init_37 : decode prog_7_method_1_code 37 = .ok (.anewarray 32, 3) := by decide +kernel
theorem d_C_init_40 : decode prog_7_method_1_code 40 = .ok (.putfield 34, 3) := by decide +kernel
theorem d_C_init_43 : decode prog_7_method_1_code 43 = .ok (.iconst 0, 1) := by decide +kernel
theorem d_C_init_44 : decode prog_7_method_1_code 44 = .ok (.istore_n 1, 1) := by decide +kernel
theorem d_C_init_45 : decode prog_7_method_1_code 45 = .ok (.iload_n 1, 1) := by decide +kernel
theorem d_C_init_46 : decode prog_7_method_1_code 46 = .ok (.bipush (16), 2) := by decide +kernel
theorem d_C_init_48 : decode prog_7_method_1_code 48 = .ok (.if_icmp .ge (22), 3) := by decide +kernel
theorem d_C_init_51 : decode prog_7_method_1_code 51 = .ok (.aload_n 0, 1) := by decide +kernel
theorem d_C_init_52 : decode prog_7_method_1_code 52 = .ok (.getfield 25, 3) := by decide +kernel
theorem d_C_init_55 : decode prog_7_method_1_code 55 = .ok (.iload_n 1, 1) := by decide +kernel
theorem d_C_init_56 : decode prog_7_method_1_code 56 = .ok (.new 23, 3) := by decide +kernel
theorem d_C_init_59 : decode prog_7_method_1_code 59 = .ok (.dup, 1) := by decide +kernel
theorem d_C_init_60 : decode prog_7_method_1_code 60 = .ok (.invokespecial 38, 3) := by decide +kernel
theorem d_C_init_63 : decode prog_7_method_1_code 63 = .ok (.aastore, 1) := by decide +kernel
theorem d_C_init_64 : decode prog_7_method_1_code 64 = .ok (.iinc 1 (1), 3) := by decide +kernel
theorem d_C_init_67 : decode prog_7_method_1_code 67 = .ok (.goto (-22), 3) := by decide +kernel
theorem d_C_init_70 : decode prog_7_method_1_code 70 = .ok (.iconst 0, 1) := by decide +kernel
theorem d_C_init_71 : decode prog_7_method_1_code 71 = .ok (.istore_n 1, 1) := by decide +kernel
theorem d_C_init_72 : decode prog_7_method_1_code 72 = .ok (.iload_n 1, 1) := by decide +kernel
theorem d_C_init_73 : decode prog_7_method_1_code 73 = .ok (.iconst 4, 1) := by decide +kernel
theorem d_C_init_74 : decode prog_7_method_1_code 74 = .ok (.if_icmp .ge (22), 3) := by decide +kernel
theorem d_C_init_77 : decode prog_7_method_1_code 77 = .ok (.aload_n 0, 1) := by decide +kernel
theorem d_C_init_78 : decode prog_7_method_1_code 78 = .ok (.getfield 34, 3) := by decide +kernel
theorem d_C_init_81 : decode prog_7_method_1_code 81 = .ok (.iload_n 1, 1) := by decide +kernel
theorem d_C_init_82 : decode prog_7_method_1_code 82 = .ok (.new 32, 3) := by decide +kernel
theorem d_C_init_85 : decode prog_7_method_1_code 85 = .ok (.dup, 1) := by decide +kernel
theorem d_C_init_86 : decode prog_7_method_1_code 86 = .ok (.invokespecial 39, 3) := by decide +kernel
theorem d_C_init_89 : decode prog_7_method_1_code 89 = .ok (.aastore, 1) := by decide +kernel
theorem d_C_init_90 : decode prog_7_method_1_code 90 = .ok (.iinc 1 (1), 3) := by decide +kernel
theorem d_C_init_93 : decode prog_7_method_1_code 93 = .ok (.goto (-21), 3) := by decide +kernel
theorem d_C_init_96 : decode prog_7_method_1_code 96 = .ok (.return_, 1) := by decide +kernel
def Y_C_init : sdY := ("SettingsDesk$Schema", prog_7_method_1_code, 2, none, .code y_C_init prog_7_method_1_code 2 none :: sdB0, { frames := 2, cells := 23, slots := 156, locals := 32 }, 23, 156)
section
variable {l : Launch} {D : va_G} {dA : Nat → ClassId} {b n : Nat} {ad : Nat → Nat} {L : Nat → sdL} {sc : Option (Nat × Nat × (Nat → Int32))}
def w_C_init (M : sdM) (Q : sdM → Prop) : Prop := sdB (0 : Int32) ∧ ∀ M1 : sdM, M1 = sd_s M 1 0 (0 : Int32) → ∀ M2 : sdM, M2 = sd_s M1 1 1 (1 : Int32) → ∀ M3 : sdM, M3 = va_up M2 2 (fun _ => 0) → ∀ M5 : sdM, M5 = va_up M3 3 (fun _ => 0) → ∀ M7 : sdM, M7 = sd_s M5 1 4 (0 : Int32) → ∀ M8 : sdM, M8 = va_up M7 4 (fun _ => 0) → ∀ M10 : sdM, M10 = va_up M8 5 (fun _ => 0) → w_F_init 5 M10 (fun M11 => ∀ M13 : sdM, M13 = va_up M11 6 (fun _ => 0) → w_F_init 6 M13 (fun M14 => ∀ M16 : sdM, M16 = va_up M14 7 (fun _ => 0) → w_F_init 7 M16 (fun M17 => ∀ M19 : sdM, M19 = va_up M17 8 (fun _ => 0) → w_F_init 8 M19 (fun M20 => ∀ M22 : sdM, M22 = va_up M20 9 (fun _ => 0) → w_F_init 9 M22 (fun M23 => ∀ M25 : sdM, M25 = va_up M23 10 (fun _ => 0) → w_F_init 10 M25 (fun M26 => ∀ M28 : sdM, M28 = va_up M26 11 (fun _ => 0) → w_F_init 11 M28 (fun M29 => ∀ M31 : sdM, M31 = va_up M29 12 (fun _ => 0) → w_F_init 12 M31 (fun M32 => ∀ M34 : sdM, M34 = va_up M32 13 (fun _ => 0) → w_F_init 13 M34 (fun M35 => ∀ M37 : sdM, M37 = va_up M35 14 (fun _ => 0) → w_F_init 14 M37 (fun M38 => ∀ M40 : sdM, M40 = va_up M38 15 (fun _ => 0) → w_F_init 15 M40 (fun M41 => ∀ M43 : sdM, M43 = va_up M41 16 (fun _ => 0) → w_F_init 16 M43 (fun M44 => ∀ M46 : sdM, M46 = va_up M44 17 (fun _ => 0) → w_F_init 17 M46 (fun M47 => ∀ M49 : sdM, M49 = va_up M47 18 (fun _ => 0) → w_F_init 18 M49 (fun M50 => ∀ M52 : sdM, M52 = va_up M50 19 (fun _ => 0) → w_F_init 19 M52 (fun M53 => ∀ M55 : sdM, M55 = va_up M53 20 (fun _ => 0) → w_F_init 20 M55 (fun M56 => ∀ M58 : sdM, M58 = va_up M56 21 (fun _ => 0) → w_R_init 21 M58 (fun M59 => ∀ M61 : sdM, M61 = va_up M59 22 (fun _ => 0) → w_R_init 22 M61 (fun M62 => ∀ M64 : sdM, M64 = va_up M62 23 (fun _ => 0) → w_R_init 23 M64 (fun M65 => ∀ M67 : sdM, M67 = va_up M65 24 (fun _ => 0) → w_R_init 24 M67 (fun M68 => Q M68))))))))))))))))))))
set_option maxHeartbeats 4000000 in
set_option maxRecDepth 100000 in
theorem c_C_init (hA : sd_ad b 2 ad) (hT : l.stackTraces = false) (hloc : sd_loc 2 L) (hlo : L 1 = sd_O 1 [none, none, some none, some none, none, some none]) {Q : sdM → Prop} {M : sdM} (hw : w_C_init M Q) : sd_CnF l (sdE0 sc) y_C_init Y_C_init.2.2.2.2.1 Y_C_init.2.2.2.2.2.1 23 156 D (sd_tys dA) b 2 ad L M [.ref 1] (fun M' H => ∃ (ad2 : Nat → Nat) (L2 : Nat → sdL), (∀ k, k < 2 → ad2 k = ad k) ∧ sd_ad b 25 ad2 ∧ sd_loc 25 L2 ∧ (∀ k, k < 1 → L2 k = L k) ∧ isC 25 L2 dA ∧ sd_H D (sdE0 sc).1 25 ad2 L2 M' H) (sd_qv Q) sd_xf := by
  refine sd_enterF (Y := Y_C_init) rfl rfl rfl (Nat.le_of_ble_eq_true rfl) ?_
  show sdW l (sdE0 sc) Y_C_init D (sd_tys dA) b 2 ad L ad _ _ _ 0 [(0, .ref 1)] [] M 23 156
  unfold w_C_init at hw
  refine x_aload_n 0 0 d_C_init_0 rfl rfl ?_
  refine x_objInit d_C_init_1 (List.mem_cons_of_mem _ q606) (List.mem_cons_of_mem _ q64) (List.mem_cons_of_mem _ q65) (by decide) (Nat.le_of_ble_eq_true rfl) ?_
  refine x_aload_n 0 0 d_C_init_4 rfl rfl ?_
  refine x_iconst (v := 0) d_C_init_5 (by decide) ?_
  obtain ⟨hb1, hw⟩ := hw
  refine x_puti 0 (ty := .boolean) hA d_C_init_6 (by omega) hlo rfl rfl (by decide) lay_C (List.mem_cons_of_mem _ q607) rfl ty_C ty_C_ok nm_C rfl (by decide +kernel) (sdB_n hb1) (sdB_f hb1) (fun M1 e1 => ?_)
  have hw := hw M1 e1
  clear e1
  refine x_aload_n 0 0 d_C_init_9 rfl rfl ?_
  refine x_iconst (v := 1) d_C_init_10 (by decide) ?_
  refine x_puti 1 (ty := .int) hA d_C_init_11 (by omega) hlo rfl rfl (by decide) lay_C (List.mem_cons_of_mem _ q72) rfl ty_C ty_C_ok nm_C rfl (by decide +kernel) rfl rfl (fun M2 e2 => ?_)
  have hw := hw M2 e2
  clear e2
  refine x_aload_n 0 0 d_C_init_14 rfl rfl ?_
  refine x_iconst (v := 4) d_C_init_15 (by decide) ?_
  refine x_newI (rc := 22) (rs := 152) (n := 2) (t0 := 0) (len := 4) hA hloc (List.forall_mem_cons.mpr ⟨(sd_bel_r (by omega)), fun _ h => absurd h List.not_mem_nil⟩) (List.forall_mem_cons.mpr ⟨(sd_bel_r (by omega)), fun _ h => absurd h List.not_mem_nil⟩) d_C_init_16 rfl (by decide) (List.mem_cons_of_mem _ q598) rfl (by decide) (by decide) (by decide) rfl rfl (fun ad3 M3 hA3 hl3 hu3 hq3 e3 => ?_)
  have hw := hw M3 e3
  clear e3
  have hy3 : va_up L 2 (sd_I (dA 0) 4) 2 = (sd_I (dA 0) 4) := va_up_self _ _ _
  generalize va_up L 2 (sd_I (dA 0) 4) = L3 at hl3 hu3 hy3 ⊢
  have hlo : L3 1 = sd_O 1 [none, none, some none, some none, none, some none] := (hu3.2 1 (by omega)).trans hlo
  refine x_putr 2 2 (ty := .array .int) hA3 (fun _ _ _ _ _ _ h => h.2.2.2.2 y_C_init _ _ _ _ rfl) d_C_init_18 (by omega) hlo (Nat.le_of_ble_eq_true rfl) rfl (by decide) lay_C (List.mem_cons_of_mem _ q79) rfl ty_C ty_C_ok nm_C rfl rfl (by decide +kernel) rfl rfl ?_
  obtain ⟨L4, hL4⟩ : ∃ z, z = va_up L3 1 (sd_O 1 [none, none, some (some 2), some none, none, some none]) := ⟨_, rfl⟩
  show sdW l (sdE0 sc) Y_C_init D (sd_tys dA) b _ _ (va_up L3 1 (sd_O 1 [none, none, some (some 2), some none, none, some none])) ad _ _ _ _ _ _ _ _ _
  rw [← hL4]
  have hn4 : ∀ k, k ≠ 1 → L4 k = L3 k := fun k h => by rw [hL4]; exact va_up_ne _ _ h
  have hl4 : sd_loc 3 L4 := by rw [hL4]; exact sd_loc_at hl3 (fun a a2 f e => by show (Sum.inr (1, sd_fv a f 0 [none, none, some (some 2), some none, none, some none]) : va_E) = Sum.inr (1, sd_fv a2 f 0 [none, none, some (some 2), some none, none, some none]); simp only [sd_fv, sd_fx]; rw [e 2 (by omega)])
  have hlo : L4 1 = sd_O 1 [none, none, some (some 2), some none, none, some none] := by rw [hL4]; exact va_up_self _ _ _
  clear hL4
  have hy3 : L4 2 = (sd_I (dA 0) 4) := (hn4 2 (by omega)).trans hy3
  refine x_aload_n 0 0 d_C_init_21 rfl rfl ?_
  refine x_bipush (v := 16) d_C_init_22 (by decide) ?_
  refine x_newQ (rc := 21) (rs := 136) (n := 3) (t0 := 3) (len := 16) hA3 hl4 (List.forall_mem_cons.mpr ⟨(sd_bel_r (by omega)), fun _ h => absurd h List.not_mem_nil⟩) (List.forall_mem_cons.mpr ⟨(sd_bel_r (by omega)), fun _ h => absurd h List.not_mem_nil⟩) d_C_init_24 (List.mem_cons_of_mem _ q608) (List.mem_cons_of_mem _ q609) rfl (by decide) (by decide) (by decide) rfl rfl (fun ad5 M5 hA5 hl5 hu5 hq5 e5 => ?_)
  have hw := hw M5 e5
  clear e5
  have hy5 : va_up L4 3 (sd_P (dA 3) 16 (fun _ => none)) 3 = (sd_P (dA 3) 16 (fun _ => none)) := va_up_self _ _ _
  generalize va_up L4 3 (sd_P (dA 3) 16 (fun _ => none)) = L5 at hl5 hu5 hy5 ⊢
  have hlo : L5 1 = sd_O 1 [none, none, some (some 2), some none, none, some none] := (hu5.2 1 (by omega)).trans hlo
  have hy3 : L5 2 = (sd_I (dA 0) 4) := (hu5.2 2 (by omega)).trans hy3
  refine x_putr 3 3 (ty := .array (.object "SettingsDesk$Leaf")) hA5 (fun _ _ _ _ _ _ h => h.2.2.2.2 y_C_init _ _ _ _ rfl) d_C_init_27 (by omega) hlo (Nat.le_of_ble_eq_true rfl) rfl (by decide) lay_C (List.mem_cons_of_mem _ q78) rfl ty_C ty_C_ok nm_C rfl rfl (by decide +kernel) rfl rfl ?_
  obtain ⟨L6, hL6⟩ : ∃ z, z = va_up L5 1 (sd_O 1 [none, none, some (some 2), some (some 3), none, some none]) := ⟨_, rfl⟩
  show sdW l (sdE0 sc) Y_C_init D (sd_tys dA) b _ _ (va_up L5 1 (sd_O 1 [none, none, some (some 2), some (some 3), none, some none])) ad _ _ _ _ _ _ _ _ _
  rw [← hL6]
  have hn6 : ∀ k, k ≠ 1 → L6 k = L5 k := fun k h => by rw [hL6]; exact va_up_ne _ _ h
  have hl6 : sd_loc 4 L6 := by rw [hL6]; exact sd_loc_at hl5 (fun a a2 f e => by show (Sum.inr (1, sd_fv a f 0 [none, none, some (some 2), some (some 3), none, some none]) : va_E) = Sum.inr (1, sd_fv a2 f 0 [none, none, some (some 2), some (some 3), none, some none]); simp only [sd_fv, sd_fx]; rw [e 2 (by omega), e 3 (by omega)])
  have hlo : L6 1 = sd_O 1 [none, none, some (some 2), some (some 3), none, some none] := by rw [hL6]; exact va_up_self _ _ _
  clear hL6
  have hy3 : L6 2 = (sd_I (dA 0) 4) := (hn6 2 (by omega)).trans hy3
  have hy5 : L6 3 = (sd_P (dA 3) 16 (fun _ => none)) := (hn6 3 (by omega)).trans hy5
  refine x_aload_n 0 0 d_C_init_30 rfl rfl ?_
  refine x_iconst (v := 0) d_C_init_31 (by decide) ?_
  refine x_puti 4 (ty := .int) hA5 d_C_init_32 (by omega) hlo rfl rfl (by decide) lay_C (List.mem_cons_of_mem _ q93) rfl ty_C ty_C_ok nm_C rfl (by decide +kernel) rfl rfl (fun M7 e7 => ?_)
  have hw := hw M7 e7
  clear e7
  refine x_aload_n 0 0 d_C_init_35 rfl rfl ?_
  refine x_iconst (v := 4) d_C_init_36 (by decide) ?_
  refine x_newQ (rc := 20) (rs := 132) (n := 4) (t0 := 4) (len := 4) hA5 hl6 (List.forall_mem_cons.mpr ⟨(sd_bel_r (by omega)), fun _ h => absurd h List.not_mem_nil⟩) (List.forall_mem_cons.mpr ⟨(sd_bel_r (by omega)), fun _ h => absurd h List.not_mem_nil⟩) d_C_init_37 (List.mem_cons_of_mem _ q610) (List.mem_cons_of_mem _ q611) rfl (by decide) (by decide) (by decide) rfl rfl (fun ad8 M8 hA8 hl8 hu8 hq8 e8 => ?_)
  have hw := hw M8 e8
  clear e8
  have hy8 : va_up L6 4 (sd_P (dA 4) 4 (fun _ => none)) 4 = (sd_P (dA 4) 4 (fun _ => none)) := va_up_self _ _ _
  generalize va_up L6 4 (sd_P (dA 4) 4 (fun _ => none)) = L8 at hl8 hu8 hy8 ⊢
  have hlo : L8 1 = sd_O 1 [none, none, some (some 2), some (some 3), none, some none] := (hu8.2 1 (by omega)).trans hlo
  have hy3 : L8 2 = (sd_I (dA 0) 4) := (hu8.2 2 (by omega)).trans hy3
  have hy5 : L8 3 = (sd_P (dA 3) 16 (fun _ => none)) := (hu8.2 3 (by omega)).trans hy5
  refine x_putr 5 4 (ty := .array (.object "SettingsDesk$Rule")) hA8 (fun _ _ _ _ _ _ h => h.2.2.2.2 y_C_init _ _ _ _ rfl) d_C_init_40 (by omega) hlo (Nat.le_of_ble_eq_true rfl) rfl (by decide) lay_C (List.mem_cons_of_mem _ q92) rfl ty_C ty_C_ok nm_C rfl rfl (by decide +kernel) rfl rfl ?_
  obtain ⟨L9, hL9⟩ : ∃ z, z = va_up L8 1 (sd_O 1 [none, none, some (some 2), some (some 3), none, some (some 4)]) := ⟨_, rfl⟩
  show sdW l (sdE0 sc) Y_C_init D (sd_tys dA) b _ _ (va_up L8 1 (sd_O 1 [none, none, some (some 2), some (some 3), none, some (some 4)])) ad _ _ _ _ _ _ _ _ _
  rw [← hL9]
  have hn9 : ∀ k, k ≠ 1 → L9 k = L8 k := fun k h => by rw [hL9]; exact va_up_ne _ _ h
  have hl9 : sd_loc 5 L9 := by rw [hL9]; exact sd_loc_at hl8 (fun a a2 f e => by show (Sum.inr (1, sd_fv a f 0 [none, none, some (some 2), some (some 3), none, some (some 4)]) : va_E) = Sum.inr (1, sd_fv a2 f 0 [none, none, some (some 2), some (some 3), none, some (some 4)]); simp only [sd_fv, sd_fx]; rw [e 2 (by omega), e 3 (by omega), e 4 (by omega)])
  have hlo : L9 1 = sd_O 1 [none, none, some (some 2), some (some 3), none, some (some 4)] := by rw [hL9]; exact va_up_self _ _ _
  clear hL9
  have hy3 : L9 2 = (sd_I (dA 0) 4) := (hn9 2 (by omega)).trans hy3
  have hy5 : L9 3 = (sd_P (dA 3) 16 (fun _ => none)) := (hn9 3 (by omega)).trans hy5
  have hy8 : L9 4 = (sd_P (dA 4) 4 (fun _ => none)) := (hn9 4 (by omega)).trans hy8
  refine x_iconst (v := 0) d_C_init_43 (by decide) ?_
  refine x_istore_n 1 [(1, .int 0), (0, .ref 1)] d_C_init_44 rfl (by decide) rfl ?_
  refine x_iload_n 1 0 d_C_init_45 rfl rfl ?_
  refine x_bipush (v := 16) d_C_init_46 (by decide) ?_
  refine x_icmp_ge 70 d_C_init_48 rfl (fun hc => absurd hc (by decide)) (fun _ => ?_)
  refine x_aload_n 0 1 d_C_init_51 rfl rfl ?_
  refine x_getr 3 3 d_C_init_52 (by omega) hlo rfl rfl (by decide) lay_C (List.mem_cons_of_mem _ q78) rfl ?_
  refine x_iload_n 1 0 d_C_init_55 rfl rfl ?_
  refine x_new (rc := 19) (rs := 125) (n := 5) [none, none, none, none, none, none, none] hA8 hl9 (List.forall_mem_cons.mpr ⟨sd_bel_i, List.forall_mem_cons.mpr ⟨(sd_bel_r (by omega)), fun _ h => absurd h List.not_mem_nil⟩⟩) (List.forall_mem_cons.mpr ⟨sd_bel_i, List.forall_mem_cons.mpr ⟨(sd_bel_r (by omega)), fun _ h => absurd h List.not_mem_nil⟩⟩) d_C_init_56 (ci := 5) (N := 7) (C := "SettingsDesk$Leaf") (T := T_F) rfl ty_F ty_F_ok lay_F (List.mem_cons_of_mem _ q608) (List.mem_cons_of_mem _ q612) (List.mem_cons_of_mem _ q335) (sd_nr rfl) (by decide +kernel) rfl rfl (fun ad10 L10 M10 hA10 hl10 hu10 hy10 hq10 e10 => ?_)
  have hw := hw M10 e10
  clear e10
  have hlo : L10 1 = sd_O 1 [none, none, some (some 2), some (some 3), none, some (some 4)] := (hu10.2 1 (by omega)).trans hlo
  have hy3 : L10 2 = (sd_I (dA 0) 4) := (hu10.2 2 (by omega)).trans hy3
  have hy5 : L10 3 = (sd_P (dA 3) 16 (fun _ => none)) := (hu10.2 3 (by omega)).trans hy5
  have hy8 : L10 4 = (sd_P (dA 4) 4 (fun _ => none)) := (hu10.2 4 (by omega)).trans hy8
  refine x_dup d_C_init_59 rfl ?_
  refine x_callIv (As := []) (t := 5) (rest := [.ref 5, .int 0, .ref 3]) (rc := 19) (rs := 125) (L2 := L10) (na := 0) (host := "SettingsDesk") (c_F_init hA10 hT ⟨by omega, hy10⟩ hw) (sd_goodB q613) ⟨_, rfl⟩ (List.mem_cons_of_mem _ q335) (List.mem_cons_of_mem _ q614) (Or.inr (List.mem_of_getElem? (i := 0) rfl)) ⟨rfl, by decide, by decide, by decide +kernel⟩ ⟨rfl, rfl, rfl, rfl⟩ ⟨by decide, by decide⟩ d_C_init_60 rfl rfl (Nat.le_of_ble_eq_true rfl) (fun M11 hw => ?_)
  have hfF : ∀ j, j < 1 → isF 6 L10 (5 + j) := fun j hj => by obtain rfl : j = 0 := by omega; exact ⟨by omega, hy10⟩
  refine x_aast (t0 := 3) (u := 5) hA10 d_C_init_63 (by omega) hy5 (by omega) (hfF 0 (by decide)).2 rfl rfl (vp_in_nI (n := 0) (N := 16) (by decide) (by decide)) ?_
  obtain ⟨L12, hL12⟩ : ∃ z, z = va_up L10 3 (sd_P (dA 3) 16 (va_up (fun _ => none) 0 (some 5))) := ⟨_, rfl⟩
  show sdW l (sdE0 sc) Y_C_init D (sd_tys dA) b _ _ (va_up L10 3 (sd_P (dA 3) 16 (va_up (fun _ => none) 0 (some 5)))) ad _ _ _ _ _ _ _ _ _
  rw [← hL12]
  have hn12 : ∀ k, k ≠ 3 → L12 k = L10 k := fun k h => by rw [hL12]; exact va_up_ne _ _ h
  have hy12 : L12 3 = (sd_P (dA 3) 16 (va_up (fun _ => none) 0 (some 5))) := by rw [hL12]; exact va_up_self _ _ _
  have hl12 : sd_loc 6 L12 := by rw [hL12]; exact sd_loc_at hl10 (sd_P_loc (sd_Pl_up sd_Pl_none (by omega)))
  clear hL12
  have hlo : L12 1 = sd_O 1 [none, none, some (some 2), some (some 3), none, some (some 4)] := (hn12 1 (by omega)).trans hlo
  have hy3 : L12 2 = (sd_I (dA 0) 4) := (hn12 2 (by omega)).trans hy3
  have hy8 : L12 4 = (sd_P (dA 4) 4 (fun _ => none)) := (hn12 4 (by omega)).trans hy8
  have hfF : ∀ j, j < 1 → isF 6 L12 (5 + j) := fun j hj => ⟨Nat.lt_of_lt_of_le (hfF j hj).1 (by omega), (hn12 _ (by omega)).trans (hfF j hj).2⟩
  refine x_iinc 1 0 [(1, .int 1), (0, .ref 1)] d_C_init_64 rfl (by decide) (by decide) rfl ?_
  refine x_goto 45 d_C_init_67 rfl ?_
  refine x_iload_n 1 0 d_C_init_45 rfl rfl ?_
  refine x_bipush (v := 16) d_C_init_46 (by decide) ?_
  refine x_icmp_ge 70 d_C_init_48 rfl (fun hc => absurd hc (by decide)) (fun _ => ?_)
  refine x_aload_n 0 1 d_C_init_51 rfl rfl ?_
  refine x_getr 3 3 d_C_init_52 (by omega) hlo rfl rfl (by decide) lay_C (List.mem_cons_of_mem _ q78) rfl ?_
  refine x_iload_n 1 0 d_C_init_55 rfl rfl ?_
  refine x_new (rc := 18) (rs := 118) (n := 6) [none, none, none, none, none, none, none] hA10 hl12 (List.forall_mem_cons.mpr ⟨sd_bel_i, List.forall_mem_cons.mpr ⟨(sd_bel_r (by omega)), fun _ h => absurd h List.not_mem_nil⟩⟩) (List.forall_mem_cons.mpr ⟨sd_bel_i, List.forall_mem_cons.mpr ⟨(sd_bel_r (by omega)), fun _ h => absurd h List.not_mem_nil⟩⟩) d_C_init_56 (ci := 5) (N := 7) (C := "SettingsDesk$Leaf") (T := T_F) rfl ty_F ty_F_ok lay_F (List.mem_cons_of_mem _ q608) (List.mem_cons_of_mem _ q612) (List.mem_cons_of_mem _ q335) (sd_nr rfl) (by decide +kernel) rfl rfl (fun ad13 L13 M13 hA13 hl13 hu13 hy13 hq13 e13 => ?_)
  have hw := hw M13 e13
  clear e13
  have hlo : L13 1 = sd_O 1 [none, none, some (some 2), some (some 3), none, some (some 4)] := (hu13.2 1 (by omega)).trans hlo
  have hy3 : L13 2 = (sd_I (dA 0) 4) := (hu13.2 2 (by omega)).trans hy3
  have hy8 : L13 4 = (sd_P (dA 4) 4 (fun _ => none)) := (hu13.2 4 (by omega)).trans hy8
  have hfF : ∀ j, j < 1 → isF 7 L13 (5 + j) := fun j hj => ⟨Nat.lt_of_lt_of_le (hfF j hj).1 (by omega), (hu13.2 _ (by omega)).trans (hfF j hj).2⟩
  have hy12 : L13 3 = (sd_P (dA 3) 16 (va_up (fun _ => none) 0 (some 5))) := (hu13.2 3 (by omega)).trans hy12
  refine x_dup d_C_init_59 rfl ?_
  refine x_callIv (As := []) (t := 6) (rest := [.ref 6, .int 1, .ref 3]) (rc := 18) (rs := 118) (L2 := L13) (na := 0) (host := "SettingsDesk") (c_F_init hA13 hT ⟨by omega, hy13⟩ hw) (sd_goodB q613) ⟨_, rfl⟩ (List.mem_cons_of_mem _ q335) (List.mem_cons_of_mem _ q614) (Or.inr (List.mem_of_getElem? (i := 0) rfl)) ⟨rfl, by decide, by decide, by decide +kernel⟩ ⟨rfl, rfl, rfl, rfl⟩ ⟨by decide, by decide⟩ d_C_init_60 rfl rfl (Nat.le_of_ble_eq_true rfl) (fun M14 hw => ?_)
  have hfF : ∀ j, j < 2 → isF 7 L13 (5 + j) := fun j hj => by
    by_cases h9 : j = 1
    · subst h9; exact ⟨by omega, hy13⟩
    · exact hfF j (by omega)
  refine x_aast (t0 := 3) (u := 6) hA13 d_C_init_63 (by omega) hy12 (by omega) (hfF 1 (by decide)).2 rfl rfl (vp_in_nI (n := 1) (N := 16) (by decide) (by decide)) ?_
  obtain ⟨L15, hL15⟩ : ∃ z, z = va_up L13 3 (sd_P (dA 3) 16 (va_up (va_up (fun _ => none) 0 (some 5)) 1 (some 6))) := ⟨_, rfl⟩
  show sdW l (sdE0 sc) Y_C_init D (sd_tys dA) b _ _ (va_up L13 3 (sd_P (dA 3) 16 (va_up (va_up (fun _ => none) 0 (some 5)) 1 (some 6)))) ad _ _ _ _ _ _ _ _ _
  rw [← hL15]
  have hn15 : ∀ k, k ≠ 3 → L15 k = L13 k := fun k h => by rw [hL15]; exact va_up_ne _ _ h
  have hy15 : L15 3 = (sd_P (dA 3) 16 (va_up (va_up (fun _ => none) 0 (some 5)) 1 (some 6))) := by rw [hL15]; exact va_up_self _ _ _
  have hl15 : sd_loc 7 L15 := by rw [hL15]; exact sd_loc_at hl13 (sd_P_loc (sd_Pl_up (sd_Pl_up sd_Pl_none (by omega)) (by omega)))
  clear hL15
  have hlo : L15 1 = sd_O 1 [none, none, some (some 2), some (some 3), none, some (some 4)] := (hn15 1 (by omega)).trans hlo
  have hy3 : L15 2 = (sd_I (dA 0) 4) := (hn15 2 (by omega)).trans hy3
  have hy8 : L15 4 = (sd_P (dA 4) 4 (fun _ => none)) := (hn15 4 (by omega)).trans hy8
  have hfF : ∀ j, j < 2 → isF 7 L15 (5 + j) := fun j hj => ⟨Nat.lt_of_lt_of_le (hfF j hj).1 (by omega), (hn15 _ (by omega)).trans (hfF j hj).2⟩
  refine x_iinc 1 0 [(1, .int 2), (0, .ref 1)] d_C_init_64 rfl (by decide) (by decide) rfl ?_
  refine x_goto 45 d_C_init_67 rfl ?_
  refine x_iload_n 1 0 d_C_init_45 rfl rfl ?_
  refine x_bipush (v := 16) d_C_init_46 (by decide) ?_
  refine x_icmp_ge 70 d_C_init_48 rfl (fun hc => absurd hc (by decide)) (fun _ => ?_)
  refine x_aload_n 0 1 d_C_init_51 rfl rfl ?_
  refine x_getr 3 3 d_C_init_52 (by omega) hlo rfl rfl (by decide) lay_C (List.mem_cons_of_mem _ q78) rfl ?_
  refine x_iload_n 1 0 d_C_init_55 rfl rfl ?_
  refine x_new (rc := 17) (rs := 111) (n := 7) [none, none, none, none, none, none, none] hA13 hl15 (List.forall_mem_cons.mpr ⟨sd_bel_i, List.forall_mem_cons.mpr ⟨(sd_bel_r (by omega)), fun _ h => absurd h List.not_mem_nil⟩⟩) (List.forall_mem_cons.mpr ⟨sd_bel_i, List.forall_mem_cons.mpr ⟨(sd_bel_r (by omega)), fun _ h => absurd h List.not_mem_nil⟩⟩) d_C_init_56 (ci := 5) (N := 7) (C := "SettingsDesk$Leaf") (T := T_F) rfl ty_F ty_F_ok lay_F (List.mem_cons_of_mem _ q608) (List.mem_cons_of_mem _ q612) (List.mem_cons_of_mem _ q335) (sd_nr rfl) (by decide +kernel) rfl rfl (fun ad16 L16 M16 hA16 hl16 hu16 hy16 hq16 e16 => ?_)
  have hw := hw M16 e16
  clear e16
  have hlo : L16 1 = sd_O 1 [none, none, some (some 2), some (some 3), none, some (some 4)] := (hu16.2 1 (by omega)).trans hlo
  have hy3 : L16 2 = (sd_I (dA 0) 4) := (hu16.2 2 (by omega)).trans hy3
  have hy8 : L16 4 = (sd_P (dA 4) 4 (fun _ => none)) := (hu16.2 4 (by omega)).trans hy8
  have hfF : ∀ j, j < 2 → isF 8 L16 (5 + j) := fun j hj => ⟨Nat.lt_of_lt_of_le (hfF j hj).1 (by omega), (hu16.2 _ (by omega)).trans (hfF j hj).2⟩
  have hy15 : L16 3 = (sd_P (dA 3) 16 (va_up (va_up (fun _ => none) 0 (some 5)) 1 (some 6))) := (hu16.2 3 (by omega)).trans hy15
  refine x_dup d_C_init_59 rfl ?_
  refine x_callIv (As := []) (t := 7) (rest := [.ref 7, .int 2, .ref 3]) (rc := 17) (rs := 111) (L2 := L16) (na := 0) (host := "SettingsDesk") (c_F_init hA16 hT ⟨by omega, hy16⟩ hw) (sd_goodB q613) ⟨_, rfl⟩ (List.mem_cons_of_mem _ q335) (List.mem_cons_of_mem _ q614) (Or.inr (List.mem_of_getElem? (i := 0) rfl)) ⟨rfl, by decide, by decide, by decide +kernel⟩ ⟨rfl, rfl, rfl, rfl⟩ ⟨by decide, by decide⟩ d_C_init_60 rfl rfl (Nat.le_of_ble_eq_true rfl) (fun M17 hw => ?_)
  have hfF : ∀ j, j < 3 → isF 8 L16 (5 + j) := fun j hj => by
    by_cases h9 : j = 2
    · subst h9; exact ⟨by omega, hy16⟩
    · exact hfF j (by omega)
  refine x_aast (t0 := 3) (u := 7) hA16 d_C_init_63 (by omega) hy15 (by omega) (hfF 2 (by decide)).2 rfl rfl (vp_in_nI (n := 2) (N := 16) (by decide) (by decide)) ?_
  obtain ⟨L18, hL18⟩ : ∃ z, z = va_up L16 3 (sd_P (dA 3) 16 (va_up (va_up (va_up (fun _ => none) 0 (some 5)) 1 (some 6)) 2 (some 7))) := ⟨_, rfl⟩
  show sdW l (sdE0 sc) Y_C_init D (sd_tys dA) b _ _ (va_up L16 3 (sd_P (dA 3) 16 (va_up (va_up (va_up (fun _ => none) 0 (some 5)) 1 (some 6)) 2 (some 7)))) ad _ _ _ _ _ _ _ _ _
  rw [← hL18]
  have hn18 : ∀ k, k ≠ 3 → L18 k = L16 k := fun k h => by rw [hL18]; exact va_up_ne _ _ h
  have hy18 : L18 3 = (sd_P (dA 3) 16 (va_up (va_up (va_up (fun _ => none) 0 (some 5)) 1 (some 6)) 2 (some 7))) := by rw [hL18]; exact va_up_self _ _ _
  have hl18 : sd_loc 8 L18 := by rw [hL18]; exact sd_loc_at hl16 (sd_P_loc (sd_Pl_up (sd_Pl_up (sd_Pl_up sd_Pl_none (by omega)) (by omega)) (by omega)))
  clear hL18
  have hlo : L18 1 = sd_O 1 [none, none, some (some 2), some (some 3), none, some (some 4)] := (hn18 1 (by omega)).trans hlo
  have hy3 : L18 2 = (sd_I (dA 0) 4) := (hn18 2 (by omega)).trans hy3
  have hy8 : L18 4 = (sd_P (dA 4) 4 (fun _ => none)) := (hn18 4 (by omega)).trans hy8
  have hfF : ∀ j, j < 3 → isF 8 L18 (5 + j) := fun j hj => ⟨Nat.lt_of_lt_of_le (hfF j hj).1 (by omega), (hn18 _ (by omega)).trans (hfF j hj).2⟩
  refine x_iinc 1 0 [(1, .int 3), (0, .ref 1)] d_C_init_64 rfl (by decide) (by decide) rfl ?_
  refine x_goto 45 d_C_init_67 rfl ?_
  refine x_iload_n 1 0 d_C_init_45 rfl rfl ?_
  refine x_bipush (v := 16) d_C_init_46 (by decide) ?_
  refine x_icmp_ge 70 d_C_init_48 rfl (fun hc => absurd hc (by decide)) (fun _ => ?_)
  refine x_aload_n 0 1 d_C_init_51 rfl rfl ?_
  refine x_getr 3 3 d_C_init_52 (by omega) hlo rfl rfl (by decide) lay_C (List.mem_cons_of_mem _ q78) rfl ?_
  refine x_iload_n 1 0 d_C_init_55 rfl rfl ?_
  refine x_new (rc := 16) (rs := 104) (n := 8) [none, none, none, none, none, none, none] hA16 hl18 (List.forall_mem_cons.mpr ⟨sd_bel_i, List.forall_mem_cons.mpr ⟨(sd_bel_r (by omega)), fun _ h => absurd h List.not_mem_nil⟩⟩) (List.forall_mem_cons.mpr ⟨sd_bel_i, List.forall_mem_cons.mpr ⟨(sd_bel_r (by omega)), fun _ h => absurd h List.not_mem_nil⟩⟩) d_C_init_56 (ci := 5) (N := 7) (C := "SettingsDesk$Leaf") (T := T_F) rfl ty_F ty_F_ok lay_F (List.mem_cons_of_mem _ q608) (List.mem_cons_of_mem _ q612) (List.mem_cons_of_mem _ q335) (sd_nr rfl) (by decide +kernel) rfl rfl (fun ad19 L19 M19 hA19 hl19 hu19 hy19 hq19 e19 => ?_)
  have hw := hw M19 e19
  clear e19
  have hlo : L19 1 = sd_O 1 [none, none, some (some 2), some (some 3), none, some (some 4)] := (hu19.2 1 (by omega)).trans hlo
  have hy3 : L19 2 = (sd_I (dA 0) 4) := (hu19.2 2 (by omega)).trans hy3
  have hy8 : L19 4 = (sd_P (dA 4) 4 (fun _ => none)) := (hu19.2 4 (by omega)).trans hy8
  have hfF : ∀ j, j < 3 → isF 9 L19 (5 + j) := fun j hj => ⟨Nat.lt_of_lt_of_le (hfF j hj).1 (by omega), (hu19.2 _ (by omega)).trans (hfF j hj).2⟩
  have hy18 : L19 3 = (sd_P (dA 3) 16 (va_up (va_up (va_up (fun _ => none) 0 (some 5)) 1 (some 6)) 2 (some 7))) := (hu19.2 3 (by omega)).trans hy18
  refine x_dup d_C_init_59 rfl ?_
  refine x_callIv (As := []) (t := 8) (rest := [.ref 8, .int 3, .ref 3]) (rc := 16) (rs := 104) (L2 := L19) (na := 0) (host := "SettingsDesk") (c_F_init hA19 hT ⟨by omega, hy19⟩ hw) (sd_goodB q613) ⟨_, rfl⟩ (List.mem_cons_of_mem _ q335) (List.mem_cons_of_mem _ q614) (Or.inr (List.mem_of_getElem? (i := 0) rfl)) ⟨rfl, by decide, by decide, by decide +kernel⟩ ⟨rfl, rfl, rfl, rfl⟩ ⟨by decide, by decide⟩ d_C_init_60 rfl rfl (Nat.le_of_ble_eq_true rfl) (fun M20 hw => ?_)
  have hfF : ∀ j, j < 4 → isF 9 L19 (5 + j) := fun j hj => by
    by_cases h9 : j = 3
    · subst h9; exact ⟨by omega, hy19⟩
    · exact hfF j (by omega)
  refine x_aast (t0 := 3) (u := 8) hA19 d_C_init_63 (by omega) hy18 (by omega) (hfF 3 (by decide)).2 rfl rfl (vp_in_nI (n := 3) (N := 16) (by decide) (by decide)) ?_
  obtain ⟨L21, hL21⟩ : ∃ z, z = va_up L19 3 (sd_P (dA 3) 16 (va_up (va_up (va_up (va_up (fun _ => none) 0 (some 5)) 1 (some 6)) 2 (some 7)) 3 (some 8))) := ⟨_, rfl⟩
  show sdW l (sdE0 sc) Y_C_init D (sd_tys dA) b _ _ (va_up L19 3 (sd_P (dA 3) 16 (va_up (va_up (va_up (va_up (fun _ => none) 0 (some 5)) 1 (some 6)) 2 (some 7)) 3 (some 8)))) ad _ _ _ _ _ _ _ _ _
  rw [← hL21]
  have hn21 : ∀ k, k ≠ 3 → L21 k = L19 k := fun k h => by rw [hL21]; exact va_up_ne _ _ h
  have hy21 : L21 3 = (sd_P (dA 3) 16 (va_up (va_up (va_up (va_up (fun _ => none) 0 (some 5)) 1 (some 6)) 2 (some 7)) 3 (some 8))) := by rw [hL21]; exact va_up_self _ _ _
  have hl21 : sd_loc 9 L21 := by rw [hL21]; exact sd_loc_at hl19 (sd_P_loc (sd_Pl_up (sd_Pl_up (sd_Pl_up (sd_Pl_up sd_Pl_none (by omega)) (by omega)) (by omega)) (by omega)))
  clear hL21
  have hlo : L21 1 = sd_O 1 [none, none, some (some 2), some (some 3), none, some (some 4)] := (hn21 1 (by omega)).trans hlo
  have hy3 : L21 2 = (sd_I (dA 0) 4) := (hn21 2 (by omega)).trans hy3
  have hy8 : L21 4 = (sd_P (dA 4) 4 (fun _ => none)) := (hn21 4 (by omega)).trans hy8
  have hfF : ∀ j, j < 4 → isF 9 L21 (5 + j) := fun j hj => ⟨Nat.lt_of_lt_of_le (hfF j hj).1 (by omega), (hn21 _ (by omega)).trans (hfF j hj).2⟩
  refine x_iinc 1 0 [(1, .int 4), (0, .ref 1)] d_C_init_64 rfl (by decide) (by decide) rfl ?_
  refine x_goto 45 d_C_init_67 rfl ?_
  refine x_iload_n 1 0 d_C_init_45 rfl rfl ?_
  refine x_bipush (v := 16) d_C_init_46 (by decide) ?_
  refine x_icmp_ge 70 d_C_init_48 rfl (fun hc => absurd hc (by decide)) (fun _ => ?_)
  refine x_aload_n 0 1 d_C_init_51 rfl rfl ?_
  refine x_getr 3 3 d_C_init_52 (by omega) hlo rfl rfl (by decide) lay_C (List.mem_cons_of_mem _ q78) rfl ?_
  refine x_iload_n 1 0 d_C_init_55 rfl rfl ?_
  refine x_new (rc := 15) (rs := 97) (n := 9) [none, none, none, none, none, none, none] hA19 hl21 (List.forall_mem_cons.mpr ⟨sd_bel_i, List.forall_mem_cons.mpr ⟨(sd_bel_r (by omega)), fun _ h => absurd h List.not_mem_nil⟩⟩) (List.forall_mem_cons.mpr ⟨sd_bel_i, List.forall_mem_cons.mpr ⟨(sd_bel_r (by omega)), fun _ h => absurd h List.not_mem_nil⟩⟩) d_C_init_56 (ci := 5) (N := 7) (C := "SettingsDesk$Leaf") (T := T_F) rfl ty_F ty_F_ok lay_F (List.mem_cons_of_mem _ q608) (List.mem_cons_of_mem _ q612) (List.mem_cons_of_mem _ q335) (sd_nr rfl) (by decide +kernel) rfl rfl (fun ad22 L22 M22 hA22 hl22 hu22 hy22 hq22 e22 => ?_)
  have hw := hw M22 e22
  clear e22
  have hlo : L22 1 = sd_O 1 [none, none, some (some 2), some (some 3), none, some (some 4)] := (hu22.2 1 (by omega)).trans hlo
  have hy3 : L22 2 = (sd_I (dA 0) 4) := (hu22.2 2 (by omega)).trans hy3
  have hy8 : L22 4 = (sd_P (dA 4) 4 (fun _ => none)) := (hu22.2 4 (by omega)).trans hy8
  have hfF : ∀ j, j < 4 → isF 10 L22 (5 + j) := fun j hj => ⟨Nat.lt_of_lt_of_le (hfF j hj).1 (by omega), (hu22.2 _ (by omega)).trans (hfF j hj).2⟩
  have hy21 : L22 3 = (sd_P (dA 3) 16 (va_up (va_up (va_up (va_up (fun _ => none) 0 (some 5)) 1 (some 6)) 2 (some 7)) 3 (some 8))) := (hu22.2 3 (by omega)).trans hy21
  refine x_dup d_C_init_59 rfl ?_
  refine x_callIv (As := []) (t := 9) (rest := [.ref 9, .int 4, .ref 3]) (rc := 15) (rs := 97) (L2 := L22) (na := 0) (host := "SettingsDesk") (c_F_init hA22 hT ⟨by omega, hy22⟩ hw) (sd_goodB q613) ⟨_, rfl⟩ (List.mem_cons_of_mem _ q335) (List.mem_cons_of_mem _ q614) (Or.inr (List.mem_of_getElem? (i := 0) rfl)) ⟨rfl, by decide, by decide, by decide +kernel⟩ ⟨rfl, rfl, rfl, rfl⟩ ⟨by decide, by decide⟩ d_C_init_60 rfl rfl (Nat.le_of_ble_eq_true rfl) (fun M23 hw => ?_)
  have hfF : ∀ j, j < 5 → isF 10 L22 (5 + j) := fun j hj => by
    by_cases h9 : j = 4
    · subst h9; exact ⟨by omega, hy22⟩
    · exact hfF j (by omega)
  refine x_aast (t0 := 3) (u := 9) hA22 d_C_init_63 (by omega) hy21 (by omega) (hfF 4 (by decide)).2 rfl rfl (vp_in_nI (n := 4) (N := 16) (by decide) (by decide)) ?_
  obtain ⟨L24, hL24⟩ : ∃ z, z = va_up L22 3 (sd_P (dA 3) 16 (va_up (va_up (va_up (va_up (va_up (fun _ => none) 0 (some 5)) 1 (some 6)) 2 (some 7)) 3 (some 8)) 4 (some 9))) := ⟨_, rfl⟩
  show sdW l (sdE0 sc) Y_C_init D (sd_tys dA) b _ _ (va_up L22 3 (sd_P (dA 3) 16 (va_up (va_up (va_up (va_up (va_up (fun _ => none) 0 (some 5)) 1 (some 6)) 2 (some 7)) 3 (some 8)) 4 (some 9)))) ad _ _ _ _ _ _ _ _ _
  rw [← hL24]
  have hn24 : ∀ k, k ≠ 3 → L24 k = L22 k := fun k h => by rw [hL24]; exact va_up_ne _ _ h
  have hy24 : L24 3 = (sd_P (dA 3) 16 (va_up (va_up (va_up (va_up (va_up (fun _ => none) 0 (some 5)) 1 (some 6)) 2 (some 7)) 3 (some 8)) 4 (some 9))) := by rw [hL24]; exact va_up_self _ _ _
  have hl24 : sd_loc 10 L24 := by rw [hL24]; exact sd_loc_at hl22 (sd_P_loc (sd_Pl_up (sd_Pl_up (sd_Pl_up (sd_Pl_up (sd_Pl_up sd_Pl_none (by omega)) (by omega)) (by omega)) (by omega)) (by omega)))
  clear hL24
  have hlo : L24 1 = sd_O 1 [none, none, some (some 2), some (some 3), none, some (some 4)] := (hn24 1 (by omega)).trans hlo
  have hy3 : L24 2 = (sd_I (dA 0) 4) := (hn24 2 (by omega)).trans hy3
  have hy8 : L24 4 = (sd_P (dA 4) 4 (fun _ => none)) := (hn24 4 (by omega)).trans hy8
  have hfF : ∀ j, j < 5 → isF 10 L24 (5 + j) := fun j hj => ⟨Nat.lt_of_lt_of_le (hfF j hj).1 (by omega), (hn24 _ (by omega)).trans (hfF j hj).2⟩
  refine x_iinc 1 0 [(1, .int 5), (0, .ref 1)] d_C_init_64 rfl (by decide) (by decide) rfl ?_
  refine x_goto 45 d_C_init_67 rfl ?_
  refine x_iload_n 1 0 d_C_init_45 rfl rfl ?_
  refine x_bipush (v := 16) d_C_init_46 (by decide) ?_
  refine x_icmp_ge 70 d_C_init_48 rfl (fun hc => absurd hc (by decide)) (fun _ => ?_)
  refine x_aload_n 0 1 d_C_init_51 rfl rfl ?_
  refine x_getr 3 3 d_C_init_52 (by omega) hlo rfl rfl (by decide) lay_C (List.mem_cons_of_mem _ q78) rfl ?_
  refine x_iload_n 1 0 d_C_init_55 rfl rfl ?_
  refine x_new (rc := 14) (rs := 90) (n := 10) [none, none, none, none, none, none, none] hA22 hl24 (List.forall_mem_cons.mpr ⟨sd_bel_i, List.forall_mem_cons.mpr ⟨(sd_bel_r (by omega)), fun _ h => absurd h List.not_mem_nil⟩⟩) (List.forall_mem_cons.mpr ⟨sd_bel_i, List.forall_mem_cons.mpr ⟨(sd_bel_r (by omega)), fun _ h => absurd h List.not_mem_nil⟩⟩) d_C_init_56 (ci := 5) (N := 7) (C := "SettingsDesk$Leaf") (T := T_F) rfl ty_F ty_F_ok lay_F (List.mem_cons_of_mem _ q608) (List.mem_cons_of_mem _ q612) (List.mem_cons_of_mem _ q335) (sd_nr rfl) (by decide +kernel) rfl rfl (fun ad25 L25 M25 hA25 hl25 hu25 hy25 hq25 e25 => ?_)
  have hw := hw M25 e25
  clear e25
  have hlo : L25 1 = sd_O 1 [none, none, some (some 2), some (some 3), none, some (some 4)] := (hu25.2 1 (by omega)).trans hlo
  have hy3 : L25 2 = (sd_I (dA 0) 4) := (hu25.2 2 (by omega)).trans hy3
  have hy8 : L25 4 = (sd_P (dA 4) 4 (fun _ => none)) := (hu25.2 4 (by omega)).trans hy8
  have hfF : ∀ j, j < 5 → isF 11 L25 (5 + j) := fun j hj => ⟨Nat.lt_of_lt_of_le (hfF j hj).1 (by omega), (hu25.2 _ (by omega)).trans (hfF j hj).2⟩
  have hy24 : L25 3 = (sd_P (dA 3) 16 (va_up (va_up (va_up (va_up (va_up (fun _ => none) 0 (some 5)) 1 (some 6)) 2 (some 7)) 3 (some 8)) 4 (some 9))) := (hu25.2 3 (by omega)).trans hy24
  refine x_dup d_C_init_59 rfl ?_
  refine x_callIv (As := []) (t := 10) (rest := [.ref 10, .int 5, .ref 3]) (rc := 14) (rs := 90) (L2 := L25) (na := 0) (host := "SettingsDesk") (c_F_init hA25 hT ⟨by omega, hy25⟩ hw) (sd_goodB q613) ⟨_, rfl⟩ (List.mem_cons_of_mem _ q335) (List.mem_cons_of_mem _ q614) (Or.inr (List.mem_of_getElem? (i := 0) rfl)) ⟨rfl, by decide, by decide, by decide +kernel⟩ ⟨rfl, rfl, rfl, rfl⟩ ⟨by decide, by decide⟩ d_C_init_60 rfl rfl (Nat.le_of_ble_eq_true rfl) (fun M26 hw => ?_)
  have hfF : ∀ j, j < 6 → isF 11 L25 (5 + j) := fun j hj => by
    by_cases h9 : j = 5
    · subst h9; exact ⟨by omega, hy25⟩
    · exact hfF j (by omega)
  refine x_aast (t0 := 3) (u := 10) hA25 d_C_init_63 (by omega) hy24 (by omega) (hfF 5 (by decide)).2 rfl rfl (vp_in_nI (n := 5) (N := 16) (by decide) (by decide)) ?_
  obtain ⟨L27, hL27⟩ : ∃ z, z = va_up L25 3 (sd_P (dA 3) 16 (va_up (va_up (va_up (va_up (va_up (va_up (fun _ => none) 0 (some 5)) 1 (some 6)) 2 (some 7)) 3 (some 8)) 4 (some 9)) 5 (some 10))) := ⟨_, rfl⟩
  show sdW l (sdE0 sc) Y_C_init D (sd_tys dA) b _ _ (va_up L25 3 (sd_P (dA 3) 16 (va_up (va_up (va_up (va_up (va_up (va_up (fun _ => none) 0 (some 5)) 1 (some 6)) 2 (some 7)) 3 (some 8)) 4 (some 9)) 5 (some 10)))) ad _ _ _ _ _ _ _ _ _
  rw [← hL27]
  have hn27 : ∀ k, k ≠ 3 → L27 k = L25 k := fun k h => by rw [hL27]; exact va_up_ne _ _ h
  have hy27 : L27 3 = (sd_P (dA 3) 16 (va_up (va_up (va_up (va_up (va_up (va_up (fun _ => none) 0 (some 5)) 1 (some 6)) 2 (some 7)) 3 (some 8)) 4 (some 9)) 5 (some 10))) := by rw [hL27]; exact va_up_self _ _ _
  have hl27 : sd_loc 11 L27 := by rw [hL27]; exact sd_loc_at hl25 (sd_P_loc (sd_Pl_up (sd_Pl_up (sd_Pl_up (sd_Pl_up (sd_Pl_up (sd_Pl_up sd_Pl_none (by omega)) (by omega)) (by omega)) (by omega)) (by omega)) (by omega)))
  clear hL27
  have hlo : L27 1 = sd_O 1 [none, none, some (some 2), some (some 3), none, some (some 4)] := (hn27 1 (by omega)).trans hlo
  have hy3 : L27 2 = (sd_I (dA 0) 4) := (hn27 2 (by omega)).trans hy3
  have hy8 : L27 4 = (sd_P (dA 4) 4 (fun _ => none)) := (hn27 4 (by omega)).trans hy8
  have hfF : ∀ j, j < 6 → isF 11 L27 (5 + j) := fun j hj => ⟨Nat.lt_of_lt_of_le (hfF j hj).1 (by omega), (hn27 _ (by omega)).trans (hfF j hj).2⟩
  refine x_iinc 1 0 [(1, .int 6), (0, .ref 1)] d_C_init_64 rfl (by decide) (by decide) rfl ?_
  refine x_goto 45 d_C_init_67 rfl ?_
  refine x_iload_n 1 0 d_C_init_45 rfl rfl ?_
  refine x_bipush (v := 16) d_C_init_46 (by decide) ?_
  refine x_icmp_ge 70 d_C_init_48 rfl (fun hc => absurd hc (by decide)) (fun _ => ?_)
  refine x_aload_n 0 1 d_C_init_51 rfl rfl ?_
  refine x_getr 3 3 d_C_init_52 (by omega) hlo rfl rfl (by decide) lay_C (List.mem_cons_of_mem _ q78) rfl ?_
  refine x_iload_n 1 0 d_C_init_55 rfl rfl ?_
  refine x_new (rc := 13) (rs := 83) (n := 11) [none, none, none, none, none, none, none] hA25 hl27 (List.forall_mem_cons.mpr ⟨sd_bel_i, List.forall_mem_cons.mpr ⟨(sd_bel_r (by omega)), fun _ h => absurd h List.not_mem_nil⟩⟩) (List.forall_mem_cons.mpr ⟨sd_bel_i, List.forall_mem_cons.mpr ⟨(sd_bel_r (by omega)), fun _ h => absurd h List.not_mem_nil⟩⟩) d_C_init_56 (ci := 5) (N := 7) (C := "SettingsDesk$Leaf") (T := T_F) rfl ty_F ty_F_ok lay_F (List.mem_cons_of_mem _ q608) (List.mem_cons_of_mem _ q612) (List.mem_cons_of_mem _ q335) (sd_nr rfl) (by decide +kernel) rfl rfl (fun ad28 L28 M28 hA28 hl28 hu28 hy28 hq28 e28 => ?_)
  have hw := hw M28 e28
  clear e28
  have hlo : L28 1 = sd_O 1 [none, none, some (some 2), some (some 3), none, some (some 4)] := (hu28.2 1 (by omega)).trans hlo
  have hy3 : L28 2 = (sd_I (dA 0) 4) := (hu28.2 2 (by omega)).trans hy3
  have hy8 : L28 4 = (sd_P (dA 4) 4 (fun _ => none)) := (hu28.2 4 (by omega)).trans hy8
  have hfF : ∀ j, j < 6 → isF 12 L28 (5 + j) := fun j hj => ⟨Nat.lt_of_lt_of_le (hfF j hj).1 (by omega), (hu28.2 _ (by omega)).trans (hfF j hj).2⟩
  have hy27 : L28 3 = (sd_P (dA 3) 16 (va_up (va_up (va_up (va_up (va_up (va_up (fun _ => none) 0 (some 5)) 1 (some 6)) 2 (some 7)) 3 (some 8)) 4 (some 9)) 5 (some 10))) := (hu28.2 3 (by omega)).trans hy27
  refine x_dup d_C_init_59 rfl ?_
  refine x_callIv (As := []) (t := 11) (rest := [.ref 11, .int 6, .ref 3]) (rc := 13) (rs := 83) (L2 := L28) (na := 0) (host := "SettingsDesk") (c_F_init hA28 hT ⟨by omega, hy28⟩ hw) (sd_goodB q613) ⟨_, rfl⟩ (List.mem_cons_of_mem _ q335) (List.mem_cons_of_mem _ q614) (Or.inr (List.mem_of_getElem? (i := 0) rfl)) ⟨rfl, by decide, by decide, by decide +kernel⟩ ⟨rfl, rfl, rfl, rfl⟩ ⟨by decide, by decide⟩ d_C_init_60 rfl rfl (Nat.le_of_ble_eq_true rfl) (fun M29 hw => ?_)
  have hfF : ∀ j, j < 7 → isF 12 L28 (5 + j) := fun j hj => by
    by_cases h9 : j = 6
    · subst h9; exact ⟨by omega, hy28⟩
    · exact hfF j (by omega)
  refine x_aast (t0 := 3) (u := 11) hA28 d_C_init_63 (by omega) hy27 (by omega) (hfF 6 (by decide)).2 rfl rfl (vp_in_nI (n := 6) (N := 16) (by decide) (by decide)) ?_
  obtain ⟨L30, hL30⟩ : ∃ z, z = va_up L28 3 (sd_P (dA 3) 16 (va_up (va_up (va_up (va_up (va_up (va_up (va_up (fun _ => none) 0 (some 5)) 1 (some 6)) 2 (some 7)) 3 (some 8)) 4 (some 9)) 5 (some 10)) 6 (some 11))) := ⟨_, rfl⟩
  show sdW l (sdE0 sc) Y_C_init D (sd_tys dA) b _ _ (va_up L28 3 (sd_P (dA 3) 16 (va_up (va_up (va_up (va_up (va_up (va_up (va_up (fun _ => none) 0 (some 5)) 1 (some 6)) 2 (some 7)) 3 (some 8)) 4 (some 9)) 5 (some 10)) 6 (some 11)))) ad _ _ _ _ _ _ _ _ _
  rw [← hL30]
  have hn30 : ∀ k, k ≠ 3 → L30 k = L28 k := fun k h => by rw [hL30]; exact va_up_ne _ _ h
  have hy30 : L30 3 = (sd_P (dA 3) 16 (va_up (va_up (va_up (va_up (va_up (va_up (va_up (fun _ => none) 0 (some 5)) 1 (some 6)) 2 (some 7)) 3 (some 8)) 4 (some 9)) 5 (some 10)) 6 (some 11))) := by rw [hL30]; exact va_up_self _ _ _
  have hl30 : sd_loc 12 L30 := by rw [hL30]; exact sd_loc_at hl28 (sd_P_loc (sd_Pl_up (sd_Pl_up (sd_Pl_up (sd_Pl_up (sd_Pl_up (sd_Pl_up (sd_Pl_up sd_Pl_none (by omega)) (by omega)) (by omega)) (by omega)) (by omega)) (by omega)) (by omega)))
  clear hL30
  have hlo : L30 1 = sd_O 1 [none, none, some (some 2), some (some 3), none, some (some 4)] := (hn30 1 (by omega)).trans hlo
  have hy3 : L30 2 = (sd_I (dA 0) 4) := (hn30 2 (by omega)).trans hy3
  have hy8 : L30 4 = (sd_P (dA 4) 4 (fun _ => none)) := (hn30 4 (by omega)).trans hy8
  have hfF : ∀ j, j < 7 → isF 12 L30 (5 + j) := fun j hj => ⟨Nat.lt_of_lt_of_le (hfF j hj).1 (by omega), (hn30 _ (by omega)).trans (hfF j hj).2⟩
  refine x_iinc 1 0 [(1, .int 7), (0, .ref 1)] d_C_init_64 rfl (by decide) (by decide) rfl ?_
  refine x_goto 45 d_C_init_67 rfl ?_
  refine x_iload_n 1 0 d_C_init_45 rfl rfl ?_
  refine x_bipush (v := 16) d_C_init_46 (by decide) ?_
  refine x_icmp_ge 70 d_C_init_48 rfl (fun hc => absurd hc (by decide)) (fun _ => ?_)
  refine x_aload_n 0 1 d_C_init_51 rfl rfl ?_
  refine x_getr 3 3 d_C_init_52 (by omega) hlo rfl rfl (by decide) lay_C (List.mem_cons_of_mem _ q78) rfl ?_
  refine x_iload_n 1 0 d_C_init_55 rfl rfl ?_
  refine x_new (rc := 12) (rs := 76) (n := 12) [none, none, none, none, none, none, none] hA28 hl30 (List.forall_mem_cons.mpr ⟨sd_bel_i, List.forall_mem_cons.mpr ⟨(sd_bel_r (by omega)), fun _ h => absurd h List.not_mem_nil⟩⟩) (List.forall_mem_cons.mpr ⟨sd_bel_i, List.forall_mem_cons.mpr ⟨(sd_bel_r (by omega)), fun _ h => absurd h List.not_mem_nil⟩⟩) d_C_init_56 (ci := 5) (N := 7) (C := "SettingsDesk$Leaf") (T := T_F) rfl ty_F ty_F_ok lay_F (List.mem_cons_of_mem _ q608) (List.mem_cons_of_mem _ q612) (List.mem_cons_of_mem _ q335) (sd_nr rfl) (by decide +kernel) rfl rfl (fun ad31 L31 M31 hA31 hl31 hu31 hy31 hq31 e31 => ?_)
  have hw := hw M31 e31
  clear e31
  have hlo : L31 1 = sd_O 1 [none, none, some (some 2), some (some 3), none, some (some 4)] := (hu31.2 1 (by omega)).trans hlo
  have hy3 : L31 2 = (sd_I (dA 0) 4) := (hu31.2 2 (by omega)).trans hy3
  have hy8 : L31 4 = (sd_P (dA 4) 4 (fun _ => none)) := (hu31.2 4 (by omega)).trans hy8
  have hfF : ∀ j, j < 7 → isF 13 L31 (5 + j) := fun j hj => ⟨Nat.lt_of_lt_of_le (hfF j hj).1 (by omega), (hu31.2 _ (by omega)).trans (hfF j hj).2⟩
  have hy30 : L31 3 = (sd_P (dA 3) 16 (va_up (va_up (va_up (va_up (va_up (va_up (va_up (fun _ => none) 0 (some 5)) 1 (some 6)) 2 (some 7)) 3 (some 8)) 4 (some 9)) 5 (some 10)) 6 (some 11))) := (hu31.2 3 (by omega)).trans hy30
  refine x_dup d_C_init_59 rfl ?_
  refine x_callIv (As := []) (t := 12) (rest := [.ref 12, .int 7, .ref 3]) (rc := 12) (rs := 76) (L2 := L31) (na := 0) (host := "SettingsDesk") (c_F_init hA31 hT ⟨by omega, hy31⟩ hw) (sd_goodB q613) ⟨_, rfl⟩ (List.mem_cons_of_mem _ q335) (List.mem_cons_of_mem _ q614) (Or.inr (List.mem_of_getElem? (i := 0) rfl)) ⟨rfl, by decide, by decide, by decide +kernel⟩ ⟨rfl, rfl, rfl, rfl⟩ ⟨by decide, by decide⟩ d_C_init_60 rfl rfl (Nat.le_of_ble_eq_true rfl) (fun M32 hw => ?_)
  have hfF : ∀ j, j < 8 → isF 13 L31 (5 + j) := fun j hj => by
    by_cases h9 : j = 7
    · subst h9; exact ⟨by omega, hy31⟩
    · exact hfF j (by omega)
  refine x_aast (t0 := 3) (u := 12) hA31 d_C_init_63 (by omega) hy30 (by omega) (hfF 7 (by decide)).2 rfl rfl (vp_in_nI (n := 7) (N := 16) (by decide) (by decide)) ?_
  obtain ⟨L33, hL33⟩ : ∃ z, z = va_up L31 3 (sd_P (dA 3) 16 (va_up (va_up (va_up (va_up (va_up (va_up (va_up (va_up (fun _ => none) 0 (some 5)) 1 (some 6)) 2 (some 7)) 3 (some 8)) 4 (some 9)) 5 (some 10)) 6 (some 11)) 7 (some 12))) := ⟨_, rfl⟩
  show sdW l (sdE0 sc) Y_C_init D (sd_tys dA) b _ _ (va_up L31 3 (sd_P (dA 3) 16 (va_up (va_up (va_up (va_up (va_up (va_up (va_up (va_up (fun _ => none) 0 (some 5)) 1 (some 6)) 2 (some 7)) 3 (some 8)) 4 (some 9)) 5 (some 10)) 6 (some 11)) 7 (some 12)))) ad _ _ _ _ _ _ _ _ _
  rw [← hL33]
  have hn33 : ∀ k, k ≠ 3 → L33 k = L31 k := fun k h => by rw [hL33]; exact va_up_ne _ _ h
  have hy33 : L33 3 = (sd_P (dA 3) 16 (va_up (va_up (va_up (va_up (va_up (va_up (va_up (va_up (fun _ => none) 0 (some 5)) 1 (some 6)) 2 (some 7)) 3 (some 8)) 4 (some 9)) 5 (some 10)) 6 (some 11)) 7 (some 12))) := by rw [hL33]; exact va_up_self _ _ _
  have hl33 : sd_loc 13 L33 := by rw [hL33]; exact sd_loc_at hl31 (sd_P_loc (sd_Pl_up (sd_Pl_up (sd_Pl_up (sd_Pl_up (sd_Pl_up (sd_Pl_up (sd_Pl_up (sd_Pl_up sd_Pl_none (by omega)) (by omega)) (by omega)) (by omega)) (by omega)) (by omega)) (by omega)) (by omega)))
  clear hL33
  have hlo : L33 1 = sd_O 1 [none, none, some (some 2), some (some 3), none, some (some 4)] := (hn33 1 (by omega)).trans hlo
  have hy3 : L33 2 = (sd_I (dA 0) 4) := (hn33 2 (by omega)).trans hy3
  have hy8 : L33 4 = (sd_P (dA 4) 4 (fun _ => none)) := (hn33 4 (by omega)).trans hy8
  have hfF : ∀ j, j < 8 → isF 13 L33 (5 + j) := fun j hj => ⟨Nat.lt_of_lt_of_le (hfF j hj).1 (by omega), (hn33 _ (by omega)).trans (hfF j hj).2⟩
  refine x_iinc 1 0 [(1, .int 8), (0, .ref 1)] d_C_init_64 rfl (by decide) (by decide) rfl ?_
  refine x_goto 45 d_C_init_67 rfl ?_
  refine x_iload_n 1 0 d_C_init_45 rfl rfl ?_
  refine x_bipush (v := 16) d_C_init_46 (by decide) ?_
  refine x_icmp_ge 70 d_C_init_48 rfl (fun hc => absurd hc (by decide)) (fun _ => ?_)
  refine x_aload_n 0 1 d_C_init_51 rfl rfl ?_
  refine x_getr 3 3 d_C_init_52 (by omega) hlo rfl rfl (by decide) lay_C (List.mem_cons_of_mem _ q78) rfl ?_
  refine x_iload_n 1 0 d_C_init_55 rfl rfl ?_
  refine x_new (rc := 11) (rs := 69) (n := 13) [none, none, none, none, none, none, none] hA31 hl33 (List.forall_mem_cons.mpr ⟨sd_bel_i, List.forall_mem_cons.mpr ⟨(sd_bel_r (by omega)), fun _ h => absurd h List.not_mem_nil⟩⟩) (List.forall_mem_cons.mpr ⟨sd_bel_i, List.forall_mem_cons.mpr ⟨(sd_bel_r (by omega)), fun _ h => absurd h List.not_mem_nil⟩⟩) d_C_init_56 (ci := 5) (N := 7) (C := "SettingsDesk$Leaf") (T := T_F) rfl ty_F ty_F_ok lay_F (List.mem_cons_of_mem _ q608) (List.mem_cons_of_mem _ q612) (List.mem_cons_of_mem _ q335) (sd_nr rfl) (by decide +kernel) rfl rfl (fun ad34 L34 M34 hA34 hl34 hu34 hy34 hq34 e34 => ?_)
  have hw := hw M34 e34
  clear e34
  have hlo : L34 1 = sd_O 1 [none, none, some (some 2), some (some 3), none, some (some 4)] := (hu34.2 1 (by omega)).trans hlo
  have hy3 : L34 2 = (sd_I (dA 0) 4) := (hu34.2 2 (by omega)).trans hy3
  have hy8 : L34 4 = (sd_P (dA 4) 4 (fun _ => none)) := (hu34.2 4 (by omega)).trans hy8
  have hfF : ∀ j, j < 8 → isF 14 L34 (5 + j) := fun j hj => ⟨Nat.lt_of_lt_of_le (hfF j hj).1 (by omega), (hu34.2 _ (by omega)).trans (hfF j hj).2⟩
  have hy33 : L34 3 = (sd_P (dA 3) 16 (va_up (va_up (va_up (va_up (va_up (va_up (va_up (va_up (fun _ => none) 0 (some 5)) 1 (some 6)) 2 (some 7)) 3 (some 8)) 4 (some 9)) 5 (some 10)) 6 (some 11)) 7 (some 12))) := (hu34.2 3 (by omega)).trans hy33
  refine x_dup d_C_init_59 rfl ?_
  refine x_callIv (As := []) (t := 13) (rest := [.ref 13, .int 8, .ref 3]) (rc := 11) (rs := 69) (L2 := L34) (na := 0) (host := "SettingsDesk") (c_F_init hA34 hT ⟨by omega, hy34⟩ hw) (sd_goodB q613) ⟨_, rfl⟩ (List.mem_cons_of_mem _ q335) (List.mem_cons_of_mem _ q614) (Or.inr (List.mem_of_getElem? (i := 0) rfl)) ⟨rfl, by decide, by decide, by decide +kernel⟩ ⟨rfl, rfl, rfl, rfl⟩ ⟨by decide, by decide⟩ d_C_init_60 rfl rfl (Nat.le_of_ble_eq_true rfl) (fun M35 hw => ?_)
  have hfF : ∀ j, j < 9 → isF 14 L34 (5 + j) := fun j hj => by
    by_cases h9 : j = 8
    · subst h9; exact ⟨by omega, hy34⟩
    · exact hfF j (by omega)
  refine x_aast (t0 := 3) (u := 13) hA34 d_C_init_63 (by omega) hy33 (by omega) (hfF 8 (by decide)).2 rfl rfl (vp_in_nI (n := 8) (N := 16) (by decide) (by decide)) ?_
  obtain ⟨L36, hL36⟩ : ∃ z, z = va_up L34 3 (sd_P (dA 3) 16 (va_up (va_up (va_up (va_up (va_up (va_up (va_up (va_up (va_up (fun _ => none) 0 (some 5)) 1 (some 6)) 2 (some 7)) 3 (some 8)) 4 (some 9)) 5 (some 10)) 6 (some 11)) 7 (some 12)) 8 (some 13))) := ⟨_, rfl⟩
  show sdW l (sdE0 sc) Y_C_init D (sd_tys dA) b _ _ (va_up L34 3 (sd_P (dA 3) 16 (va_up (va_up (va_up (va_up (va_up (va_up (va_up (va_up (va_up (fun _ => none) 0 (some 5)) 1 (some 6)) 2 (some 7)) 3 (some 8)) 4 (some 9)) 5 (some 10)) 6 (some 11)) 7 (some 12)) 8 (some 13)))) ad _ _ _ _ _ _ _ _ _
  rw [← hL36]
  have hn36 : ∀ k, k ≠ 3 → L36 k = L34 k := fun k h => by rw [hL36]; exact va_up_ne _ _ h
  have hy36 : L36 3 = (sd_P (dA 3) 16 (va_up (va_up (va_up (va_up (va_up (va_up (va_up (va_up (va_up (fun _ => none) 0 (some 5)) 1 (some 6)) 2 (some 7)) 3 (some 8)) 4 (some 9)) 5 (some 10)) 6 (some 11)) 7 (some 12)) 8 (some 13))) := by rw [hL36]; exact va_up_self _ _ _
  have hl36 : sd_loc 14 L36 := by rw [hL36]; exact sd_loc_at hl34 (sd_P_loc (sd_Pl_up (sd_Pl_up (sd_Pl_up (sd_Pl_up (sd_Pl_up (sd_Pl_up (sd_Pl_up (sd_Pl_up (sd_Pl_up sd_Pl_none (by omega)) (by omega)) (by omega)) (by omega)) (by omega)) (by omega)) (by omega)) (by omega)) (by omega)))
  clear hL36
  have hlo : L36 1 = sd_O 1 [none, none, some (some 2), some (some 3), none, some (some 4)] := (hn36 1 (by omega)).trans hlo
  have hy3 : L36 2 = (sd_I (dA 0) 4) := (hn36 2 (by omega)).trans hy3
  have hy8 : L36 4 = (sd_P (dA 4) 4 (fun _ => none)) := (hn36 4 (by omega)).trans hy8
  have hfF : ∀ j, j < 9 → isF 14 L36 (5 + j) := fun j hj => ⟨Nat.lt_of_lt_of_le (hfF j hj).1 (by omega), (hn36 _ (by omega)).trans (hfF j hj).2⟩
  refine x_iinc 1 0 [(1, .int 9), (0, .ref 1)] d_C_init_64 rfl (by decide) (by decide) rfl ?_
  refine x_goto 45 d_C_init_67 rfl ?_
  refine x_iload_n 1 0 d_C_init_45 rfl rfl ?_
  refine x_bipush (v := 16) d_C_init_46 (by decide) ?_
  refine x_icmp_ge 70 d_C_init_48 rfl (fun hc => absurd hc (by decide)) (fun _ => ?_)
  refine x_aload_n 0 1 d_C_init_51 rfl rfl ?_
  refine x_getr 3 3 d_C_init_52 (by omega) hlo rfl rfl (by decide) lay_C (List.mem_cons_of_mem _ q78) rfl ?_
  refine x_iload_n 1 0 d_C_init_55 rfl rfl ?_
  refine x_new (rc := 10) (rs := 62) (n := 14) [none, none, none, none, none, none, none] hA34 hl36 (List.forall_mem_cons.mpr ⟨sd_bel_i, List.forall_mem_cons.mpr ⟨(sd_bel_r (by omega)), fun _ h => absurd h List.not_mem_nil⟩⟩) (List.forall_mem_cons.mpr ⟨sd_bel_i, List.forall_mem_cons.mpr ⟨(sd_bel_r (by omega)), fun _ h => absurd h List.not_mem_nil⟩⟩) d_C_init_56 (ci := 5) (N := 7) (C := "SettingsDesk$Leaf") (T := T_F) rfl ty_F ty_F_ok lay_F (List.mem_cons_of_mem _ q608) (List.mem_cons_of_mem _ q612) (List.mem_cons_of_mem _ q335) (sd_nr rfl) (by decide +kernel) rfl rfl (fun ad37 L37 M37 hA37 hl37 hu37 hy37 hq37 e37 => ?_)
  have hw := hw M37 e37
  clear e37
  have hlo : L37 1 = sd_O 1 [none, none, some (some 2), some (some 3), none, some (some 4)] := (hu37.2 1 (by omega)).trans hlo
  have hy3 : L37 2 = (sd_I (dA 0) 4) := (hu37.2 2 (by omega)).trans hy3
  have hy8 : L37 4 = (sd_P (dA 4) 4 (fun _ => none)) := (hu37.2 4 (by omega)).trans hy8
  have hfF : ∀ j, j < 9 → isF 15 L37 (5 + j) := fun j hj => ⟨Nat.lt_of_lt_of_le (hfF j hj).1 (by omega), (hu37.2 _ (by omega)).trans (hfF j hj).2⟩
  have hy36 : L37 3 = (sd_P (dA 3) 16 (va_up (va_up (va_up (va_up (va_up (va_up (va_up (va_up (va_up (fun _ => none) 0 (some 5)) 1 (some 6)) 2 (some 7)) 3 (some 8)) 4 (some 9)) 5 (some 10)) 6 (some 11)) 7 (some 12)) 8 (some 13))) := (hu37.2 3 (by omega)).trans hy36
  refine x_dup d_C_init_59 rfl ?_
  refine x_callIv (As := []) (t := 14) (rest := [.ref 14, .int 9, .ref 3]) (rc := 10) (rs := 62) (L2 := L37) (na := 0) (host := "SettingsDesk") (c_F_init hA37 hT ⟨by omega, hy37⟩ hw) (sd_goodB q613) ⟨_, rfl⟩ (List.mem_cons_of_mem _ q335) (List.mem_cons_of_mem _ q614) (Or.inr (List.mem_of_getElem? (i := 0) rfl)) ⟨rfl, by decide, by decide, by decide +kernel⟩ ⟨rfl, rfl, rfl, rfl⟩ ⟨by decide, by decide⟩ d_C_init_60 rfl rfl (Nat.le_of_ble_eq_true rfl) (fun M38 hw => ?_)
  have hfF : ∀ j, j < 10 → isF 15 L37 (5 + j) := fun j hj => by
    by_cases h9 : j = 9
    · subst h9; exact ⟨by omega, hy37⟩
    · exact hfF j (by omega)
  refine x_aast (t0 := 3) (u := 14) hA37 d_C_init_63 (by omega) hy36 (by omega) (hfF 9 (by decide)).2 rfl rfl (vp_in_nI (n := 9) (N := 16) (by decide) (by decide)) ?_
  obtain ⟨L39, hL39⟩ : ∃ z, z = va_up L37 3 (sd_P (dA 3) 16 (va_up (va_up (va_up (va_up (va_up (va_up (va_up (va_up (va_up (va_up (fun _ => none) 0 (some 5)) 1 (some 6)) 2 (some 7)) 3 (some 8)) 4 (some 9)) 5 (some 10)) 6 (some 11)) 7 (some 12)) 8 (some 13)) 9 (some 14))) := ⟨_, rfl⟩
  show sdW l (sdE0 sc) Y_C_init D (sd_tys dA) b _ _ (va_up L37 3 (sd_P (dA 3) 16 (va_up (va_up (va_up (va_up (va_up (va_up (va_up (va_up (va_up (va_up (fun _ => none) 0 (some 5)) 1 (some 6)) 2 (some 7)) 3 (some 8)) 4 (some 9)) 5 (some 10)) 6 (some 11)) 7 (some 12)) 8 (some 13)) 9 (some 14)))) ad _ _ _ _ _ _ _ _ _
  rw [← hL39]
  have hn39 : ∀ k, k ≠ 3 → L39 k = L37 k := fun k h => by rw [hL39]; exact va_up_ne _ _ h
  have hy39 : L39 3 = (sd_P (dA 3) 16 (va_up (va_up (va_up (va_up (va_up (va_up (va_up (va_up (va_up (va_up (fun _ => none) 0 (some 5)) 1 (some 6)) 2 (some 7)) 3 (some 8)) 4 (some 9)) 5 (some 10)) 6 (some 11)) 7 (some 12)) 8 (some 13)) 9 (some 14))) := by rw [hL39]; exact va_up_self _ _ _
  have hl39 : sd_loc 15 L39 := by rw [hL39]; exact sd_loc_at hl37 (sd_P_loc (sd_Pl_up (sd_Pl_up (sd_Pl_up (sd_Pl_up (sd_Pl_up (sd_Pl_up (sd_Pl_up (sd_Pl_up (sd_Pl_up (sd_Pl_up sd_Pl_none (by omega)) (by omega)) (by omega)) (by omega)) (by omega)) (by omega)) (by omega)) (by omega)) (by omega)) (by omega)))
  clear hL39
  have hlo : L39 1 = sd_O 1 [none, none, some (some 2), some (some 3), none, some (some 4)] := (hn39 1 (by omega)).trans hlo
  have hy3 : L39 2 = (sd_I (dA 0) 4) := (hn39 2 (by omega)).trans hy3
  have hy8 : L39 4 = (sd_P (dA 4) 4 (fun _ => none)) := (hn39 4 (by omega)).trans hy8
  have hfF : ∀ j, j < 10 → isF 15 L39 (5 + j) := fun j hj => ⟨Nat.lt_of_lt_of_le (hfF j hj).1 (by omega), (hn39 _ (by omega)).trans (hfF j hj).2⟩
  refine x_iinc 1 0 [(1, .int 10), (0, .ref 1)] d_C_init_64 rfl (by decide) (by decide) rfl ?_
  refine x_goto 45 d_C_init_67 rfl ?_
  refine x_iload_n 1 0 d_C_init_45 rfl rfl ?_
  refine x_bipush (v := 16) d_C_init_46 (by decide) ?_
  refine x_icmp_ge 70 d_C_init_48 rfl (fun hc => absurd hc (by decide)) (fun _ => ?_)
  refine x_aload_n 0 1 d_C_init_51 rfl rfl ?_
  refine x_getr 3 3 d_C_init_52 (by omega) hlo rfl rfl (by decide) lay_C (List.mem_cons_of_mem _ q78) rfl ?_
  refine x_iload_n 1 0 d_C_init_55 rfl rfl ?_
  refine x_new (rc := 9) (rs := 55) (n := 15) [none, none, none, none, none, none, none] hA37 hl39 (List.forall_mem_cons.mpr ⟨sd_bel_i, List.forall_mem_cons.mpr ⟨(sd_bel_r (by omega)), fun _ h => absurd h List.not_mem_nil⟩⟩) (List.forall_mem_cons.mpr ⟨sd_bel_i, List.forall_mem_cons.mpr ⟨(sd_bel_r (by omega)), fun _ h => absurd h List.not_mem_nil⟩⟩) d_C_init_56 (ci := 5) (N := 7) (C := "SettingsDesk$Leaf") (T := T_F) rfl ty_F ty_F_ok lay_F (List.mem_cons_of_mem _ q608) (List.mem_cons_of_mem _ q612) (List.mem_cons_of_mem _ q335) (sd_nr rfl) (by decide +kernel) rfl rfl (fun ad40 L40 M40 hA40 hl40 hu40 hy40 hq40 e40 => ?_)
  have hw := hw M40 e40
  clear e40
  have hlo : L40 1 = sd_O 1 [none, none, some (some 2), some (some 3), none, some (some 4)] := (hu40.2 1 (by omega)).trans hlo
  have hy3 : L40 2 = (sd_I (dA 0) 4) := (hu40.2 2 (by omega)).trans hy3
  have hy8 : L40 4 = (sd_P (dA 4) 4 (fun _ => none)) := (hu40.2 4 (by omega)).trans hy8
  have hfF : ∀ j, j < 10 → isF 16 L40 (5 + j) := fun j hj => ⟨Nat.lt_of_lt_of_le (hfF j hj).1 (by omega), (hu40.2 _ (by omega)).trans (hfF j hj).2⟩
  have hy39 : L40 3 = (sd_P (dA 3) 16 (va_up (va_up (va_up (va_up (va_up (va_up (va_up (va_up (va_up (va_up (fun _ => none) 0 (some 5)) 1 (some 6)) 2 (some 7)) 3 (some 8)) 4 (some 9)) 5 (some 10)) 6 (some 11)) 7 (some 12)) 8 (some 13)) 9 (some 14))) := (hu40.2 3 (by omega)).trans hy39
  refine x_dup d_C_init_59 rfl ?_
  refine x_callIv (As := []) (t := 15) (rest := [.ref 15, .int 10, .ref 3]) (rc := 9) (rs := 55) (L2 := L40) (na := 0) (host := "SettingsDesk") (c_F_init hA40 hT ⟨by omega, hy40⟩ hw) (sd_goodB q613) ⟨_, rfl⟩ (List.mem_cons_of_mem _ q335) (List.mem_cons_of_mem _ q614) (Or.inr (List.mem_of_getElem? (i := 0) rfl)) ⟨rfl, by decide, by decide, by decide +kernel⟩ ⟨rfl, rfl, rfl, rfl⟩ ⟨by decide, by decide⟩ d_C_init_60 rfl rfl (Nat.le_of_ble_eq_true rfl) (fun M41 hw => ?_)
  have hfF : ∀ j, j < 11 → isF 16 L40 (5 + j) := fun j hj => by
    by_cases h9 : j = 10
    · subst h9; exact ⟨by omega, hy40⟩
    · exact hfF j (by omega)
  refine x_aast (t0 := 3) (u := 15) hA40 d_C_init_63 (by omega) hy39 (by omega) (hfF 10 (by decide)).2 rfl rfl (vp_in_nI (n := 10) (N := 16) (by decide) (by decide)) ?_
  obtain ⟨L42, hL42⟩ : ∃ z, z = va_up L40 3 (sd_P (dA 3) 16 (va_up (va_up (va_up (va_up (va_up (va_up (va_up (va_up (va_up (va_up (va_up (fun _ => none) 0 (some 5)) 1 (some 6)) 2 (some 7)) 3 (some 8)) 4 (some 9)) 5 (some 10)) 6 (some 11)) 7 (some 12)) 8 (some 13)) 9 (some 14)) 10 (some 15))) := ⟨_, rfl⟩
  show sdW l (sdE0 sc) Y_C_init D (sd_tys dA) b _ _ (va_up L40 3 (sd_P (dA 3) 16 (va_up (va_up (va_up (va_up (va_up (va_up (va_up (va_up (va_up (va_up (va_up (fun _ => none) 0 (some 5)) 1 (some 6)) 2 (some 7)) 3 (some 8)) 4 (some 9)) 5 (some 10)) 6 (some 11)) 7 (some 12)) 8 (some 13)) 9 (some 14)) 10 (some 15)))) ad _ _ _ _ _ _ _ _ _
  rw [← hL42]
  have hn42 : ∀ k, k ≠ 3 → L42 k = L40 k := fun k h => by rw [hL42]; exact va_up_ne _ _ h
  have hy42 : L42 3 = (sd_P (dA 3) 16 (va_up (va_up (va_up (va_up (va_up (va_up (va_up (va_up (va_up (va_up (va_up (fun _ => none) 0 (some 5)) 1 (some 6)) 2 (some 7)) 3 (some 8)) 4 (some 9)) 5 (some 10)) 6 (some 11)) 7 (some 12)) 8 (some 13)) 9 (some 14)) 10 (some 15))) := by rw [hL42]; exact va_up_self _ _ _
  have hl42 : sd_loc 16 L42 := by rw [hL42]; exact sd_loc_at hl40 (sd_P_loc (sd_Pl_up (sd_Pl_up (sd_Pl_up (sd_Pl_up (sd_Pl_up (sd_Pl_up (sd_Pl_up (sd_Pl_up (sd_Pl_up (sd_Pl_up (sd_Pl_up sd_Pl_none (by omega)) (by omega)) (by omega)) (by omega)) (by omega)) (by omega)) (by omega)) (by omega)) (by omega)) (by omega)) (by omega)))
  clear hL42
  have hlo : L42 1 = sd_O 1 [none, none, some (some 2), some (some 3), none, some (some 4)] := (hn42 1 (by omega)).trans hlo
  have hy3 : L42 2 = (sd_I (dA 0) 4) := (hn42 2 (by omega)).trans hy3
  have hy8 : L42 4 = (sd_P (dA 4) 4 (fun _ => none)) := (hn42 4 (by omega)).trans hy8
  have hfF : ∀ j, j < 11 → isF 16 L42 (5 + j) := fun j hj => ⟨Nat.lt_of_lt_of_le (hfF j hj).1 (by omega), (hn42 _ (by omega)).trans (hfF j hj).2⟩
  refine x_iinc 1 0 [(1, .int 11), (0, .ref 1)] d_C_init_64 rfl (by decide) (by decide) rfl ?_
  refine x_goto 45 d_C_init_67 rfl ?_
  refine x_iload_n 1 0 d_C_init_45 rfl rfl ?_
  refine x_bipush (v := 16) d_C_init_46 (by decide) ?_
  refine x_icmp_ge 70 d_C_init_48 rfl (fun hc => absurd hc (by decide)) (fun _ => ?_)
  refine x_aload_n 0 1 d_C_init_51 rfl rfl ?_
  refine x_getr 3 3 d_C_init_52 (by omega) hlo rfl rfl (by decide) lay_C (List.mem_cons_of_mem _ q78) rfl ?_
  refine x_iload_n 1 0 d_C_init_55 rfl rfl ?_
  refine x_new (rc := 8) (rs := 48) (n := 16) [none, none, none, none, none, none, none] hA40 hl42 (List.forall_mem_cons.mpr ⟨sd_bel_i, List.forall_mem_cons.mpr ⟨(sd_bel_r (by omega)), fun _ h => absurd h List.not_mem_nil⟩⟩) (List.forall_mem_cons.mpr ⟨sd_bel_i, List.forall_mem_cons.mpr ⟨(sd_bel_r (by omega)), fun _ h => absurd h List.not_mem_nil⟩⟩) d_C_init_56 (ci := 5) (N := 7) (C := "SettingsDesk$Leaf") (T := T_F) rfl ty_F ty_F_ok lay_F (List.mem_cons_of_mem _ q608) (List.mem_cons_of_mem _ q612) (List.mem_cons_of_mem _ q335) (sd_nr rfl) (by decide +kernel) rfl rfl (fun ad43 L43 M43 hA43 hl43 hu43 hy43 hq43 e43 => ?_)
  have hw := hw M43 e43
  clear e43
  have hlo : L43 1 = sd_O 1 [none, none, some (some 2), some (some 3), none, some (some 4)] := (hu43.2 1 (by omega)).trans hlo
  have hy3 : L43 2 = (sd_I (dA 0) 4) := (hu43.2 2 (by omega)).trans hy3
  have hy8 : L43 4 = (sd_P (dA 4) 4 (fun _ => none)) := (hu43.2 4 (by omega)).trans hy8
  have hfF : ∀ j, j < 11 → isF 17 L43 (5 + j) := fun j hj => ⟨Nat.lt_of_lt_of_le (hfF j hj).1 (by omega), (hu43.2 _ (by omega)).trans (hfF j hj).2⟩
  have hy42 : L43 3 = (sd_P (dA 3) 16 (va_up (va_up (va_up (va_up (va_up (va_up (va_up (va_up (va_up (va_up (va_up (fun _ => none) 0 (some 5)) 1 (some 6)) 2 (some 7)) 3 (some 8)) 4 (some 9)) 5 (some 10)) 6 (some 11)) 7 (some 12)) 8 (some 13)) 9 (some 14)) 10 (some 15))) := (hu43.2 3 (by omega)).trans hy42
  refine x_dup d_C_init_59 rfl ?_
  refine x_callIv (As := []) (t := 16) (rest := [.ref 16, .int 11, .ref 3]) (rc := 8) (rs := 48) (L2 := L43) (na := 0) (host := "SettingsDesk") (c_F_init hA43 hT ⟨by omega, hy43⟩ hw) (sd_goodB q613) ⟨_, rfl⟩ (List.mem_cons_of_mem _ q335) (List.mem_cons_of_mem _ q614) (Or.inr (List.mem_of_getElem? (i := 0) rfl)) ⟨rfl, by decide, by decide, by decide +kernel⟩ ⟨rfl, rfl, rfl, rfl⟩ ⟨by decide, by decide⟩ d_C_init_60 rfl rfl (Nat.le_of_ble_eq_true rfl) (fun M44 hw => ?_)
  have hfF : ∀ j, j < 12 → isF 17 L43 (5 + j) := fun j hj => by
    by_cases h9 : j = 11
    · subst h9; exact ⟨by omega, hy43⟩
    · exact hfF j (by omega)
  refine x_aast (t0 := 3) (u := 16) hA43 d_C_init_63 (by omega) hy42 (by omega) (hfF 11 (by decide)).2 rfl rfl (vp_in_nI (n := 11) (N := 16) (by decide) (by decide)) ?_
  obtain ⟨L45, hL45⟩ : ∃ z, z = va_up L43 3 (sd_P (dA 3) 16 (va_up (va_up (va_up (va_up (va_up (va_up (va_up (va_up (va_up (va_up (va_up (va_up (fun _ => none) 0 (some 5)) 1 (some 6)) 2 (some 7)) 3 (some 8)) 4 (some 9)) 5 (some 10)) 6 (some 11)) 7 (some 12)) 8 (some 13)) 9 (some 14)) 10 (some 15)) 11 (some 16))) := ⟨_, rfl⟩
  show sdW l (sdE0 sc) Y_C_init D (sd_tys dA) b _ _ (va_up L43 3 (sd_P (dA 3) 16 (va_up (va_up (va_up (va_up (va_up (va_up (va_up (va_up (va_up (va_up (va_up (va_up (fun _ => none) 0 (some 5)) 1 (some 6)) 2 (some 7)) 3 (some 8)) 4 (some 9)) 5 (some 10)) 6 (some 11)) 7 (some 12)) 8 (some 13)) 9 (some 14)) 10 (some 15)) 11 (some 16)))) ad _ _ _ _ _ _ _ _ _
  rw [← hL45]
  have hn45 : ∀ k, k ≠ 3 → L45 k = L43 k := fun k h => by rw [hL45]; exact va_up_ne _ _ h
  have hy45 : L45 3 = (sd_P (dA 3) 16 (va_up (va_up (va_up (va_up (va_up (va_up (va_up (va_up (va_up (va_up (va_up (va_up (fun _ => none) 0 (some 5)) 1 (some 6)) 2 (some 7)) 3 (some 8)) 4 (some 9)) 5 (some 10)) 6 (some 11)) 7 (some 12)) 8 (some 13)) 9 (some 14)) 10 (some 15)) 11 (some 16))) := by rw [hL45]; exact va_up_self _ _ _
  have hl45 : sd_loc 17 L45 := by rw [hL45]; exact sd_loc_at hl43 (sd_P_loc (sd_Pl_up (sd_Pl_up (sd_Pl_up (sd_Pl_up (sd_Pl_up (sd_Pl_up (sd_Pl_up (sd_Pl_up (sd_Pl_up (sd_Pl_up (sd_Pl_up (sd_Pl_up sd_Pl_none (by omega)) (by omega)) (by omega)) (by omega)) (by omega)) (by omega)) (by omega)) (by omega)) (by omega)) (by omega)) (by omega)) (by omega)))
  clear hL45
  have hlo : L45 1 = sd_O 1 [none, none, some (some 2), some (some 3), none, some (some 4)] := (hn45 1 (by omega)).trans hlo
  have hy3 : L45 2 = (sd_I (dA 0) 4) := (hn45 2 (by omega)).trans hy3
  have hy8 : L45 4 = (sd_P (dA 4) 4 (fun _ => none)) := (hn45 4 (by omega)).trans hy8
  have hfF : ∀ j, j < 12 → isF 17 L45 (5 + j) := fun j hj => ⟨Nat.lt_of_lt_of_le (hfF j hj).1 (by omega), (hn45 _ (by omega)).trans (hfF j hj).2⟩
  refine x_iinc 1 0 [(1, .int 12), (0, .ref 1)] d_C_init_64 rfl (by decide) (by decide) rfl ?_
  refine x_goto 45 d_C_init_67 rfl ?_
  refine x_iload_n 1 0 d_C_init_45 rfl rfl ?_
  refine x_bipush (v := 16) d_C_init_46 (by decide) ?_
  refine x_icmp_ge 70 d_C_init_48 rfl (fun hc => absurd hc (by decide)) (fun _ => ?_)
  refine x_aload_n 0 1 d_C_init_51 rfl rfl ?_
  refine x_getr 3 3 d_C_init_52 (by omega) hlo rfl rfl (by decide) lay_C (List.mem_cons_of_mem _ q78) rfl ?_
  refine x_iload_n 1 0 d_C_init_55 rfl rfl ?_
  refine x_new (rc := 7) (rs := 41) (n := 17) [none, none, none, none, none, none, none] hA43 hl45 (List.forall_mem_cons.mpr ⟨sd_bel_i, List.forall_mem_cons.mpr ⟨(sd_bel_r (by omega)), fun _ h => absurd h List.not_mem_nil⟩⟩) (List.forall_mem_cons.mpr ⟨sd_bel_i, List.forall_mem_cons.mpr ⟨(sd_bel_r (by omega)), fun _ h => absurd h List.not_mem_nil⟩⟩) d_C_init_56 (ci := 5) (N := 7) (C := "SettingsDesk$Leaf") (T := T_F) rfl ty_F ty_F_ok lay_F (List.mem_cons_of_mem _ q608) (List.mem_cons_of_mem _ q612) (List.mem_cons_of_mem _ q335) (sd_nr rfl) (by decide +kernel) rfl rfl (fun ad46 L46 M46 hA46 hl46 hu46 hy46 hq46 e46 => ?_)
  have hw := hw M46 e46
  clear e46
  have hlo : L46 1 = sd_O 1 [none, none, some (some 2), some (some 3), none, some (some 4)] := (hu46.2 1 (by omega)).trans hlo
  have hy3 : L46 2 = (sd_I (dA 0) 4) := (hu46.2 2 (by omega)).trans hy3
  have hy8 : L46 4 = (sd_P (dA 4) 4 (fun _ => none)) := (hu46.2 4 (by omega)).trans hy8
  have hfF : ∀ j, j < 12 → isF 18 L46 (5 + j) := fun j hj => ⟨Nat.lt_of_lt_of_le (hfF j hj).1 (by omega), (hu46.2 _ (by omega)).trans (hfF j hj).2⟩
  have hy45 : L46 3 = (sd_P (dA 3) 16 (va_up (va_up (va_up (va_up (va_up (va_up (va_up (va_up (va_up (va_up (va_up (va_up (fun _ => none) 0 (some 5)) 1 (some 6)) 2 (some 7)) 3 (some 8)) 4 (some 9)) 5 (some 10)) 6 (some 11)) 7 (some 12)) 8 (some 13)) 9 (some 14)) 10 (some 15)) 11 (some 16))) := (hu46.2 3 (by omega)).trans hy45
  refine x_dup d_C_init_59 rfl ?_
  refine x_callIv (As := []) (t := 17) (rest := [.ref 17, .int 12, .ref 3]) (rc := 7) (rs := 41) (L2 := L46) (na := 0) (host := "SettingsDesk") (c_F_init hA46 hT ⟨by omega, hy46⟩ hw) (sd_goodB q613) ⟨_, rfl⟩ (List.mem_cons_of_mem _ q335) (List.mem_cons_of_mem _ q614) (Or.inr (List.mem_of_getElem? (i := 0) rfl)) ⟨rfl, by decide, by decide, by decide +kernel⟩ ⟨rfl, rfl, rfl, rfl⟩ ⟨by decide, by decide⟩ d_C_init_60 rfl rfl (Nat.le_of_ble_eq_true rfl) (fun M47 hw => ?_)
  have hfF : ∀ j, j < 13 → isF 18 L46 (5 + j) := fun j hj => by
    by_cases h9 : j = 12
    · subst h9; exact ⟨by omega, hy46⟩
    · exact hfF j (by omega)
  refine x_aast (t0 := 3) (u := 17) hA46 d_C_init_63 (by omega) hy45 (by omega) (hfF 12 (by decide)).2 rfl rfl (vp_in_nI (n := 12) (N := 16) (by decide) (by decide)) ?_
  obtain ⟨L48, hL48⟩ : ∃ z, z = va_up L46 3 (sd_P (dA 3) 16 (va_up (va_up (va_up (va_up (va_up (va_up (va_up (va_up (va_up (va_up (va_up (va_up (va_up (fun _ => none) 0 (some 5)) 1 (some 6)) 2 (some 7)) 3 (some 8)) 4 (some 9)) 5 (some 10)) 6 (some 11)) 7 (some 12)) 8 (some 13)) 9 (some 14)) 10 (some 15)) 11 (some 16)) 12 (some 17))) := ⟨_, rfl⟩
  show sdW l (sdE0 sc) Y_C_init D (sd_tys dA) b _ _ (va_up L46 3 (sd_P (dA 3) 16 (va_up (va_up (va_up (va_up (va_up (va_up (va_up (va_up (va_up (va_up (va_up (va_up (va_up (fun _ => none) 0 (some 5)) 1 (some 6)) 2 (some 7)) 3 (some 8)) 4 (some 9)) 5 (some 10)) 6 (some 11)) 7 (some 12)) 8 (some 13)) 9 (some 14)) 10 (some 15)) 11 (some 16)) 12 (some 17)))) ad _ _ _ _ _ _ _ _ _
  rw [← hL48]
  have hn48 : ∀ k, k ≠ 3 → L48 k = L46 k := fun k h => by rw [hL48]; exact va_up_ne _ _ h
  have hy48 : L48 3 = (sd_P (dA 3) 16 (va_up (va_up (va_up (va_up (va_up (va_up (va_up (va_up (va_up (va_up (va_up (va_up (va_up (fun _ => none) 0 (some 5)) 1 (some 6)) 2 (some 7)) 3 (some 8)) 4 (some 9)) 5 (some 10)) 6 (some 11)) 7 (some 12)) 8 (some 13)) 9 (some 14)) 10 (some 15)) 11 (some 16)) 12 (some 17))) := by rw [hL48]; exact va_up_self _ _ _
  have hl48 : sd_loc 18 L48 := by rw [hL48]; exact sd_loc_at hl46 (sd_P_loc (sd_Pl_up (sd_Pl_up (sd_Pl_up (sd_Pl_up (sd_Pl_up (sd_Pl_up (sd_Pl_up (sd_Pl_up (sd_Pl_up (sd_Pl_up (sd_Pl_up (sd_Pl_up (sd_Pl_up sd_Pl_none (by omega)) (by omega)) (by omega)) (by omega)) (by omega)) (by omega)) (by omega)) (by omega)) (by omega)) (by omega)) (by omega)) (by omega)) (by omega)))
  clear hL48
  have hlo : L48 1 = sd_O 1 [none, none, some (some 2), some (some 3), none, some (some 4)] := (hn48 1 (by omega)).trans hlo
  have hy3 : L48 2 = (sd_I (dA 0) 4) := (hn48 2 (by omega)).trans hy3
  have hy8 : L48 4 = (sd_P (dA 4) 4 (fun _ => none)) := (hn48 4 (by omega)).trans hy8
  have hfF : ∀ j, j < 13 → isF 18 L48 (5 + j) := fun j hj => ⟨Nat.lt_of_lt_of_le (hfF j hj).1 (by omega), (hn48 _ (by omega)).trans (hfF j hj).2⟩
  refine x_iinc 1 0 [(1, .int 13), (0, .ref 1)] d_C_init_64 rfl (by decide) (by decide) rfl ?_
  refine x_goto 45 d_C_init_67 rfl ?_
  refine x_iload_n 1 0 d_C_init_45 rfl rfl ?_
  refine x_bipush (v := 16) d_C_init_46 (by decide) ?_
  refine x_icmp_ge 70 d_C_init_48 rfl (fun hc => absurd hc (by decide)) (fun _ => ?_)
  refine x_aload_n 0 1 d_C_init_51 rfl rfl ?_
  refine x_getr 3 3 d_C_init_52 (by omega) hlo rfl rfl (by decide) lay_C (List.mem_cons_of_mem _ q78) rfl ?_
  refine x_iload_n 1 0 d_C_init_55 rfl rfl ?_
  refine x_new (rc := 6) (rs := 34) (n := 18) [none, none, none, none, none, none, none] hA46 hl48 (List.forall_mem_cons.mpr ⟨sd_bel_i, List.forall_mem_cons.mpr ⟨(sd_bel_r (by omega)), fun _ h => absurd h List.not_mem_nil⟩⟩) (List.forall_mem_cons.mpr ⟨sd_bel_i, List.forall_mem_cons.mpr ⟨(sd_bel_r (by omega)), fun _ h => absurd h List.not_mem_nil⟩⟩) d_C_init_56 (ci := 5) (N := 7) (C := "SettingsDesk$Leaf") (T := T_F) rfl ty_F ty_F_ok lay_F (List.mem_cons_of_mem _ q608) (List.mem_cons_of_mem _ q612) (List.mem_cons_of_mem _ q335) (sd_nr rfl) (by decide +kernel) rfl rfl (fun ad49 L49 M49 hA49 hl49 hu49 hy49 hq49 e49 => ?_)
  have hw := hw M49 e49
  clear e49
  have hlo : L49 1 = sd_O 1 [none, none, some (some 2), some (some 3), none, some (some 4)] := (hu49.2 1 (by omega)).trans hlo
  have hy3 : L49 2 = (sd_I (dA 0) 4) := (hu49.2 2 (by omega)).trans hy3
  have hy8 : L49 4 = (sd_P (dA 4) 4 (fun _ => none)) := (hu49.2 4 (by omega)).trans hy8
  have hfF : ∀ j, j < 13 → isF 19 L49 (5 + j) := fun j hj => ⟨Nat.lt_of_lt_of_le (hfF j hj).1 (by omega), (hu49.2 _ (by omega)).trans (hfF j hj).2⟩
  have hy48 : L49 3 = (sd_P (dA 3) 16 (va_up (va_up (va_up (va_up (va_up (va_up (va_up (va_up (va_up (va_up (va_up (va_up (va_up (fun _ => none) 0 (some 5)) 1 (some 6)) 2 (some 7)) 3 (some 8)) 4 (some 9)) 5 (some 10)) 6 (some 11)) 7 (some 12)) 8 (some 13)) 9 (some 14)) 10 (some 15)) 11 (some 16)) 12 (some 17))) := (hu49.2 3 (by omega)).trans hy48
  refine x_dup d_C_init_59 rfl ?_
  refine x_callIv (As := []) (t := 18) (rest := [.ref 18, .int 13, .ref 3]) (rc := 6) (rs := 34) (L2 := L49) (na := 0) (host := "SettingsDesk") (c_F_init hA49 hT ⟨by omega, hy49⟩ hw) (sd_goodB q613) ⟨_, rfl⟩ (List.mem_cons_of_mem _ q335) (List.mem_cons_of_mem _ q614) (Or.inr (List.mem_of_getElem? (i := 0) rfl)) ⟨rfl, by decide, by decide, by decide +kernel⟩ ⟨rfl, rfl, rfl, rfl⟩ ⟨by decide, by decide⟩ d_C_init_60 rfl rfl (Nat.le_of_ble_eq_true rfl) (fun M50 hw => ?_)
  have hfF : ∀ j, j < 14 → isF 19 L49 (5 + j) := fun j hj => by
    by_cases h9 : j = 13
    · subst h9; exact ⟨by omega, hy49⟩
    · exact hfF j (by omega)
  refine x_aast (t0 := 3) (u := 18) hA49 d_C_init_63 (by omega) hy48 (by omega) (hfF 13 (by decide)).2 rfl rfl (vp_in_nI (n := 13) (N := 16) (by decide) (by decide)) ?_
  obtain ⟨L51, hL51⟩ : ∃ z, z = va_up L49 3 (sd_P (dA 3) 16 (va_up (va_up (va_up (va_up (va_up (va_up (va_up (va_up (va_up (va_up (va_up (va_up (va_up (va_up (fun _ => none) 0 (some 5)) 1 (some 6)) 2 (some 7)) 3 (some 8)) 4 (some 9)) 5 (some 10)) 6 (some 11)) 7 (some 12)) 8 (some 13)) 9 (some 14)) 10 (some 15)) 11 (some 16)) 12 (some 17)) 13 (some 18))) := ⟨_, rfl⟩
  show sdW l (sdE0 sc) Y_C_init D (sd_tys dA) b _ _ (va_up L49 3 (sd_P (dA 3) 16 (va_up (va_up (va_up (va_up (va_up (va_up (va_up (va_up (va_up (va_up (va_up (va_up (va_up (va_up (fun _ => none) 0 (some 5)) 1 (some 6)) 2 (some 7)) 3 (some 8)) 4 (some 9)) 5 (some 10)) 6 (some 11)) 7 (some 12)) 8 (some 13)) 9 (some 14)) 10 (some 15)) 11 (some 16)) 12 (some 17)) 13 (some 18)))) ad _ _ _ _ _ _ _ _ _
  rw [← hL51]
  have hn51 : ∀ k, k ≠ 3 → L51 k = L49 k := fun k h => by rw [hL51]; exact va_up_ne _ _ h
  have hy51 : L51 3 = (sd_P (dA 3) 16 (va_up (va_up (va_up (va_up (va_up (va_up (va_up (va_up (va_up (va_up (va_up (va_up (va_up (va_up (fun _ => none) 0 (some 5)) 1 (some 6)) 2 (some 7)) 3 (some 8)) 4 (some 9)) 5 (some 10)) 6 (some 11)) 7 (some 12)) 8 (some 13)) 9 (some 14)) 10 (some 15)) 11 (some 16)) 12 (some 17)) 13 (some 18))) := by rw [hL51]; exact va_up_self _ _ _
  have hl51 : sd_loc 19 L51 := by rw [hL51]; exact sd_loc_at hl49 (sd_P_loc (sd_Pl_up (sd_Pl_up (sd_Pl_up (sd_Pl_up (sd_Pl_up (sd_Pl_up (sd_Pl_up (sd_Pl_up (sd_Pl_up (sd_Pl_up (sd_Pl_up (sd_Pl_up (sd_Pl_up (sd_Pl_up sd_Pl_none (by omega)) (by omega)) (by omega)) (by omega)) (by omega)) (by omega)) (by omega)) (by omega)) (by omega)) (by omega)) (by omega)) (by omega)) (by omega)) (by omega)))
  clear hL51
  have hlo : L51 1 = sd_O 1 [none, none, some (some 2), some (some 3), none, some (some 4)] := (hn51 1 (by omega)).trans hlo
  have hy3 : L51 2 = (sd_I (dA 0) 4) := (hn51 2 (by omega)).trans hy3
  have hy8 : L51 4 = (sd_P (dA 4) 4 (fun _ => none)) := (hn51 4 (by omega)).trans hy8
  have hfF : ∀ j, j < 14 → isF 19 L51 (5 + j) := fun j hj => ⟨Nat.lt_of_lt_of_le (hfF j hj).1 (by omega), (hn51 _ (by omega)).trans (hfF j hj).2⟩
  refine x_iinc 1 0 [(1, .int 14), (0, .ref 1)] d_C_init_64 rfl (by decide) (by decide) rfl ?_
  refine x_goto 45 d_C_init_67 rfl ?_
  refine x_iload_n 1 0 d_C_init_45 rfl rfl ?_
  refine x_bipush (v := 16) d_C_init_46 (by decide) ?_
  refine x_icmp_ge 70 d_C_init_48 rfl (fun hc => absurd hc (by decide)) (fun _ => ?_)
  refine x_aload_n 0 1 d_C_init_51 rfl rfl ?_
  refine x_getr 3 3 d_C_init_52 (by omega) hlo rfl rfl (by decide) lay_C (List.mem_cons_of_mem _ q78) rfl ?_
  refine x_iload_n 1 0 d_C_init_55 rfl rfl ?_
  refine x_new (rc := 5) (rs := 27) (n := 19) [none, none, none, none, none, none, none] hA49 hl51 (List.forall_mem_cons.mpr ⟨sd_bel_i, List.forall_mem_cons.mpr ⟨(sd_bel_r (by omega)), fun _ h => absurd h List.not_mem_nil⟩⟩) (List.forall_mem_cons.mpr ⟨sd_bel_i, List.forall_mem_cons.mpr ⟨(sd_bel_r (by omega)), fun _ h => absurd h List.not_mem_nil⟩⟩) d_C_init_56 (ci := 5) (N := 7) (C := "SettingsDesk$Leaf") (T := T_F) rfl ty_F ty_F_ok lay_F (List.mem_cons_of_mem _ q608) (List.mem_cons_of_mem _ q612) (List.mem_cons_of_mem _ q335) (sd_nr rfl) (by decide +kernel) rfl rfl (fun ad52 L52 M52 hA52 hl52 hu52 hy52 hq52 e52 => ?_)
  have hw := hw M52 e52
  clear e52
  have hlo : L52 1 = sd_O 1 [none, none, some (some 2), some (some 3), none, some (some 4)] := (hu52.2 1 (by omega)).trans hlo
  have hy3 : L52 2 = (sd_I (dA 0) 4) := (hu52.2 2 (by omega)).trans hy3
  have hy8 : L52 4 = (sd_P (dA 4) 4 (fun _ => none)) := (hu52.2 4 (by omega)).trans hy8
  have hfF : ∀ j, j < 14 → isF 20 L52 (5 + j) := fun j hj => ⟨Nat.lt_of_lt_of_le (hfF j hj).1 (by omega), (hu52.2 _ (by omega)).trans (hfF j hj).2⟩
  have hy51 : L52 3 = (sd_P (dA 3) 16 (va_up (va_up (va_up (va_up (va_up (va_up (va_up (va_up (va_up (va_up (va_up (va_up (va_up (va_up (fun _ => none) 0 (some 5)) 1 (some 6)) 2 (some 7)) 3 (some 8)) 4 (some 9)) 5 (some 10)) 6 (some 11)) 7 (some 12)) 8 (some 13)) 9 (some 14)) 10 (some 15)) 11 (some 16)) 12 (some 17)) 13 (some 18))) := (hu52.2 3 (by omega)).trans hy51
  refine x_dup d_C_init_59 rfl ?_
  refine x_callIv (As := []) (t := 19) (rest := [.ref 19, .int 14, .ref 3]) (rc := 5) (rs := 27) (L2 := L52) (na := 0) (host := "SettingsDesk") (c_F_init hA52 hT ⟨by omega, hy52⟩ hw) (sd_goodB q613) ⟨_, rfl⟩ (List.mem_cons_of_mem _ q335) (List.mem_cons_of_mem _ q614) (Or.inr (List.mem_of_getElem? (i := 0) rfl)) ⟨rfl, by decide, by decide, by decide +kernel⟩ ⟨rfl, rfl, rfl, rfl⟩ ⟨by decide, by decide⟩ d_C_init_60 rfl rfl (Nat.le_of_ble_eq_true rfl) (fun M53 hw => ?_)
  have hfF : ∀ j, j < 15 → isF 20 L52 (5 + j) := fun j hj => by
    by_cases h9 : j = 14
    · subst h9; exact ⟨by omega, hy52⟩
    · exact hfF j (by omega)
  refine x_aast (t0 := 3) (u := 19) hA52 d_C_init_63 (by omega) hy51 (by omega) (hfF 14 (by decide)).2 rfl rfl (vp_in_nI (n := 14) (N := 16) (by decide) (by decide)) ?_
  obtain ⟨L54, hL54⟩ : ∃ z, z = va_up L52 3 (sd_P (dA 3) 16 (va_up (va_up (va_up (va_up (va_up (va_up (va_up (va_up (va_up (va_up (va_up (va_up (va_up (va_up (va_up (fun _ => none) 0 (some 5)) 1 (some 6)) 2 (some 7)) 3 (some 8)) 4 (some 9)) 5 (some 10)) 6 (some 11)) 7 (some 12)) 8 (some 13)) 9 (some 14)) 10 (some 15)) 11 (some 16)) 12 (some 17)) 13 (some 18)) 14 (some 19))) := ⟨_, rfl⟩
  show sdW l (sdE0 sc) Y_C_init D (sd_tys dA) b _ _ (va_up L52 3 (sd_P (dA 3) 16 (va_up (va_up (va_up (va_up (va_up (va_up (va_up (va_up (va_up (va_up (va_up (va_up (va_up (va_up (va_up (fun _ => none) 0 (some 5)) 1 (some 6)) 2 (some 7)) 3 (some 8)) 4 (some 9)) 5 (some 10)) 6 (some 11)) 7 (some 12)) 8 (some 13)) 9 (some 14)) 10 (some 15)) 11 (some 16)) 12 (some 17)) 13 (some 18)) 14 (some 19)))) ad _ _ _ _ _ _ _ _ _
  rw [← hL54]
  have hn54 : ∀ k, k ≠ 3 → L54 k = L52 k := fun k h => by rw [hL54]; exact va_up_ne _ _ h
  have hy54 : L54 3 = (sd_P (dA 3) 16 (va_up (va_up (va_up (va_up (va_up (va_up (va_up (va_up (va_up (va_up (va_up (va_up (va_up (va_up (va_up (fun _ => none) 0 (some 5)) 1 (some 6)) 2 (some 7)) 3 (some 8)) 4 (some 9)) 5 (some 10)) 6 (some 11)) 7 (some 12)) 8 (some 13)) 9 (some 14)) 10 (some 15)) 11 (some 16)) 12 (some 17)) 13 (some 18)) 14 (some 19))) := by rw [hL54]; exact va_up_self _ _ _
  have hl54 : sd_loc 20 L54 := by rw [hL54]; exact sd_loc_at hl52 (sd_P_loc (sd_Pl_up (sd_Pl_up (sd_Pl_up (sd_Pl_up (sd_Pl_up (sd_Pl_up (sd_Pl_up (sd_Pl_up (sd_Pl_up (sd_Pl_up (sd_Pl_up (sd_Pl_up (sd_Pl_up (sd_Pl_up (sd_Pl_up sd_Pl_none (by omega)) (by omega)) (by omega)) (by omega)) (by omega)) (by omega)) (by omega)) (by omega)) (by omega)) (by omega)) (by omega)) (by omega)) (by omega)) (by omega)) (by omega)))
  clear hL54
  have hlo : L54 1 = sd_O 1 [none, none, some (some 2), some (some 3), none, some (some 4)] := (hn54 1 (by omega)).trans hlo
  have hy3 : L54 2 = (sd_I (dA 0) 4) := (hn54 2 (by omega)).trans hy3
  have hy8 : L54 4 = (sd_P (dA 4) 4 (fun _ => none)) := (hn54 4 (by omega)).trans hy8
  have hfF : ∀ j, j < 15 → isF 20 L54 (5 + j) := fun j hj => ⟨Nat.lt_of_lt_of_le (hfF j hj).1 (by omega), (hn54 _ (by omega)).trans (hfF j hj).2⟩
  refine x_iinc 1 0 [(1, .int 15), (0, .ref 1)] d_C_init_64 rfl (by decide) (by decide) rfl ?_
  refine x_goto 45 d_C_init_67 rfl ?_
  refine x_iload_n 1 0 d_C_init_45 rfl rfl ?_
  refine x_bipush (v := 16) d_C_init_46 (by decide) ?_
  refine x_icmp_ge 70 d_C_init_48 rfl (fun hc => absurd hc (by decide)) (fun _ => ?_)
  refine x_aload_n 0 1 d_C_init_51 rfl rfl ?_
  refine x_getr 3 3 d_C_init_52 (by omega) hlo rfl rfl (by decide) lay_C (List.mem_cons_of_mem _ q78) rfl ?_
  refine x_iload_n 1 0 d_C_init_55 rfl rfl ?_
  refine x_new (rc := 4) (rs := 20) (n := 20) [none, none, none, none, none, none, none] hA52 hl54 (List.forall_mem_cons.mpr ⟨sd_bel_i, List.forall_mem_cons.mpr ⟨(sd_bel_r (by omega)), fun _ h => absurd h List.not_mem_nil⟩⟩) (List.forall_mem_cons.mpr ⟨sd_bel_i, List.forall_mem_cons.mpr ⟨(sd_bel_r (by omega)), fun _ h => absurd h List.not_mem_nil⟩⟩) d_C_init_56 (ci := 5) (N := 7) (C := "SettingsDesk$Leaf") (T := T_F) rfl ty_F ty_F_ok lay_F (List.mem_cons_of_mem _ q608) (List.mem_cons_of_mem _ q612) (List.mem_cons_of_mem _ q335) (sd_nr rfl) (by decide +kernel) rfl rfl (fun ad55 L55 M55 hA55 hl55 hu55 hy55 hq55 e55 => ?_)
  have hw := hw M55 e55
  clear e55
  have hlo : L55 1 = sd_O 1 [none, none, some (some 2), some (some 3), none, some (some 4)] := (hu55.2 1 (by omega)).trans hlo
  have hy3 : L55 2 = (sd_I (dA 0) 4) := (hu55.2 2 (by omega)).trans hy3
  have hy8 : L55 4 = (sd_P (dA 4) 4 (fun _ => none)) := (hu55.2 4 (by omega)).trans hy8
  have hfF : ∀ j, j < 15 → isF 21 L55 (5 + j) := fun j hj => ⟨Nat.lt_of_lt_of_le (hfF j hj).1 (by omega), (hu55.2 _ (by omega)).trans (hfF j hj).2⟩
  have hy54 : L55 3 = (sd_P (dA 3) 16 (va_up (va_up (va_up (va_up (va_up (va_up (va_up (va_up (va_up (va_up (va_up (va_up (va_up (va_up (va_up (fun _ => none) 0 (some 5)) 1 (some 6)) 2 (some 7)) 3 (some 8)) 4 (some 9)) 5 (some 10)) 6 (some 11)) 7 (some 12)) 8 (some 13)) 9 (some 14)) 10 (some 15)) 11 (some 16)) 12 (some 17)) 13 (some 18)) 14 (some 19))) := (hu55.2 3 (by omega)).trans hy54
  refine x_dup d_C_init_59 rfl ?_
  refine x_callIv (As := []) (t := 20) (rest := [.ref 20, .int 15, .ref 3]) (rc := 4) (rs := 20) (L2 := L55) (na := 0) (host := "SettingsDesk") (c_F_init hA55 hT ⟨by omega, hy55⟩ hw) (sd_goodB q613) ⟨_, rfl⟩ (List.mem_cons_of_mem _ q335) (List.mem_cons_of_mem _ q614) (Or.inr (List.mem_of_getElem? (i := 0) rfl)) ⟨rfl, by decide, by decide, by decide +kernel⟩ ⟨rfl, rfl, rfl, rfl⟩ ⟨by decide, by decide⟩ d_C_init_60 rfl rfl (Nat.le_of_ble_eq_true rfl) (fun M56 hw => ?_)
  have hfF : ∀ j, j < 16 → isF 21 L55 (5 + j) := fun j hj => by
    by_cases h9 : j = 15
    · subst h9; exact ⟨by omega, hy55⟩
    · exact hfF j (by omega)
  refine x_aast (t0 := 3) (u := 20) hA55 d_C_init_63 (by omega) hy54 (by omega) (hfF 15 (by decide)).2 rfl rfl (vp_in_nI (n := 15) (N := 16) (by decide) (by decide)) ?_
  obtain ⟨L57, hL57⟩ : ∃ z, z = va_up L55 3 (sd_P (dA 3) 16 (va_up (va_up (va_up (va_up (va_up (va_up (va_up (va_up (va_up (va_up (va_up (va_up (va_up (va_up (va_up (va_up (fun _ => none) 0 (some 5)) 1 (some 6)) 2 (some 7)) 3 (some 8)) 4 (some 9)) 5 (some 10)) 6 (some 11)) 7 (some 12)) 8 (some 13)) 9 (some 14)) 10 (some 15)) 11 (some 16)) 12 (some 17)) 13 (some 18)) 14 (some 19)) 15 (some 20))) := ⟨_, rfl⟩
  show sdW l (sdE0 sc) Y_C_init D (sd_tys dA) b _ _ (va_up L55 3 (sd_P (dA 3) 16 (va_up (va_up (va_up (va_up (va_up (va_up (va_up (va_up (va_up (va_up (va_up (va_up (va_up (va_up (va_up (va_up (fun _ => none) 0 (some 5)) 1 (some 6)) 2 (some 7)) 3 (some 8)) 4 (some 9)) 5 (some 10)) 6 (some 11)) 7 (some 12)) 8 (some 13)) 9 (some 14)) 10 (some 15)) 11 (some 16)) 12 (some 17)) 13 (some 18)) 14 (some 19)) 15 (some 20)))) ad _ _ _ _ _ _ _ _ _
  rw [← hL57]
  have hn57 : ∀ k, k ≠ 3 → L57 k = L55 k := fun k h => by rw [hL57]; exact va_up_ne _ _ h
  have hy57 : L57 3 = (sd_P (dA 3) 16 (va_up (va_up (va_up (va_up (va_up (va_up (va_up (va_up (va_up (va_up (va_up (va_up (va_up (va_up (va_up (va_up (fun _ => none) 0 (some 5)) 1 (some 6)) 2 (some 7)) 3 (some 8)) 4 (some 9)) 5 (some 10)) 6 (some 11)) 7 (some 12)) 8 (some 13)) 9 (some 14)) 10 (some 15)) 11 (some 16)) 12 (some 17)) 13 (some 18)) 14 (some 19)) 15 (some 20))) := by rw [hL57]; exact va_up_self _ _ _
  have hl57 : sd_loc 21 L57 := by rw [hL57]; exact sd_loc_at hl55 (sd_P_loc (sd_Pl_up (sd_Pl_up (sd_Pl_up (sd_Pl_up (sd_Pl_up (sd_Pl_up (sd_Pl_up (sd_Pl_up (sd_Pl_up (sd_Pl_up (sd_Pl_up (sd_Pl_up (sd_Pl_up (sd_Pl_up (sd_Pl_up (sd_Pl_up sd_Pl_none (by omega)) (by omega)) (by omega)) (by omega)) (by omega)) (by omega)) (by omega)) (by omega)) (by omega)) (by omega)) (by omega)) (by omega)) (by omega)) (by omega)) (by omega)) (by omega)))
  clear hL57
  have hlo : L57 1 = sd_O 1 [none, none, some (some 2), some (some 3), none, some (some 4)] := (hn57 1 (by omega)).trans hlo
  have hy3 : L57 2 = (sd_I (dA 0) 4) := (hn57 2 (by omega)).trans hy3
  have hy8 : L57 4 = (sd_P (dA 4) 4 (fun _ => none)) := (hn57 4 (by omega)).trans hy8
  have hfF : ∀ j, j < 16 → isF 21 L57 (5 + j) := fun j hj => ⟨Nat.lt_of_lt_of_le (hfF j hj).1 (by omega), (hn57 _ (by omega)).trans (hfF j hj).2⟩
  refine x_iinc 1 0 [(1, .int 16), (0, .ref 1)] d_C_init_64 rfl (by decide) (by decide) rfl ?_
  refine x_goto 45 d_C_init_67 rfl ?_
  refine x_iload_n 1 0 d_C_init_45 rfl rfl ?_
  refine x_bipush (v := 16) d_C_init_46 (by decide) ?_
  refine x_icmp_ge 70 d_C_init_48 rfl (fun _ => ?_) (fun hc => absurd (by decide) hc)
  refine x_iconst (v := 0) d_C_init_70 (by decide) ?_
  refine x_istore_n 1 [(1, .int 0), (0, .ref 1)] d_C_init_71 rfl (by decide) rfl ?_
  refine x_iload_n 1 0 d_C_init_72 rfl rfl ?_
  refine x_iconst (v := 4) d_C_init_73 (by decide) ?_
  refine x_icmp_ge 96 d_C_init_74 rfl (fun hc => absurd hc (by decide)) (fun _ => ?_)
  refine x_aload_n 0 1 d_C_init_77 rfl rfl ?_
  refine x_getr 5 4 d_C_init_78 (by omega) hlo rfl rfl (by decide) lay_C (List.mem_cons_of_mem _ q92) rfl ?_
  refine x_iload_n 1 0 d_C_init_81 rfl rfl ?_
  refine x_new (rc := 3) (rs := 15) (n := 21) [none, none, none, none, none] hA55 hl57 (List.forall_mem_cons.mpr ⟨sd_bel_i, List.forall_mem_cons.mpr ⟨(sd_bel_r (by omega)), fun _ h => absurd h List.not_mem_nil⟩⟩) (List.forall_mem_cons.mpr ⟨sd_bel_i, List.forall_mem_cons.mpr ⟨(sd_bel_r (by omega)), fun _ h => absurd h List.not_mem_nil⟩⟩) d_C_init_82 (ci := 6) (N := 5) (C := "SettingsDesk$Rule") (T := T_R) rfl ty_R ty_R_ok lay_R (List.mem_cons_of_mem _ q610) (List.mem_cons_of_mem _ q615) (List.mem_cons_of_mem _ q616) (sd_nr rfl) (by decide +kernel) rfl rfl (fun ad58 L58 M58 hA58 hl58 hu58 hy58 hq58 e58 => ?_)
  have hw := hw M58 e58
  clear e58
  have hlo : L58 1 = sd_O 1 [none, none, some (some 2), some (some 3), none, some (some 4)] := (hu58.2 1 (by omega)).trans hlo
  have hy3 : L58 2 = (sd_I (dA 0) 4) := (hu58.2 2 (by omega)).trans hy3
  have hy8 : L58 4 = (sd_P (dA 4) 4 (fun _ => none)) := (hu58.2 4 (by omega)).trans hy8
  have hfF : ∀ j, j < 16 → isF 22 L58 (5 + j) := fun j hj => ⟨Nat.lt_of_lt_of_le (hfF j hj).1 (by omega), (hu58.2 _ (by omega)).trans (hfF j hj).2⟩
  have hy57 : L58 3 = (sd_P (dA 3) 16 (va_up (va_up (va_up (va_up (va_up (va_up (va_up (va_up (va_up (va_up (va_up (va_up (va_up (va_up (va_up (va_up (fun _ => none) 0 (some 5)) 1 (some 6)) 2 (some 7)) 3 (some 8)) 4 (some 9)) 5 (some 10)) 6 (some 11)) 7 (some 12)) 8 (some 13)) 9 (some 14)) 10 (some 15)) 11 (some 16)) 12 (some 17)) 13 (some 18)) 14 (some 19)) 15 (some 20))) := (hu58.2 3 (by omega)).trans hy57
  refine x_dup d_C_init_85 rfl ?_
  refine x_callIv (As := []) (t := 21) (rest := [.ref 21, .int 0, .ref 4]) (rc := 3) (rs := 15) (L2 := L58) (na := 0) (host := "SettingsDesk") (c_R_init hA58 hT ⟨by omega, hy58⟩ hw) (sd_goodB q617) ⟨_, rfl⟩ (List.mem_cons_of_mem _ q616) (List.mem_cons_of_mem _ q618) (Or.inr (List.mem_of_getElem? (i := 1) rfl)) ⟨rfl, by decide, by decide, by decide +kernel⟩ ⟨rfl, rfl, rfl, rfl⟩ ⟨by decide, by decide⟩ d_C_init_86 rfl rfl (Nat.le_of_ble_eq_true rfl) (fun M59 hw => ?_)
  have hfR : ∀ j, j < 1 → isR 22 L58 (21 + j) := fun j hj => by obtain rfl : j = 0 := by omega; exact ⟨by omega, hy58⟩
  refine x_aast (t0 := 4) (u := 21) hA58 d_C_init_89 (by omega) hy8 (by omega) (hfR 0 (by decide)).2 rfl rfl (vp_in_nI (n := 0) (N := 4) (by decide) (by decide)) ?_
  obtain ⟨L60, hL60⟩ : ∃ z, z = va_up L58 4 (sd_P (dA 4) 4 (va_up (fun _ => none) 0 (some 21))) := ⟨_, rfl⟩
  show sdW l (sdE0 sc) Y_C_init D (sd_tys dA) b _ _ (va_up L58 4 (sd_P (dA 4) 4 (va_up (fun _ => none) 0 (some 21)))) ad _ _ _ _ _ _ _ _ _
  rw [← hL60]
  have hn60 : ∀ k, k ≠ 4 → L60 k = L58 k := fun k h => by rw [hL60]; exact va_up_ne _ _ h
  have hy60 : L60 4 = (sd_P (dA 4) 4 (va_up (fun _ => none) 0 (some 21))) := by rw [hL60]; exact va_up_self _ _ _
  have hl60 : sd_loc 22 L60 := by rw [hL60]; exact sd_loc_at hl58 (sd_P_loc (sd_Pl_up sd_Pl_none (by omega)))
  clear hL60
  have hlo : L60 1 = sd_O 1 [none, none, some (some 2), some (some 3), none, some (some 4)] := (hn60 1 (by omega)).trans hlo
  have hy3 : L60 2 = (sd_I (dA 0) 4) := (hn60 2 (by omega)).trans hy3
  have hfF : ∀ j, j < 16 → isF 22 L60 (5 + j) := fun j hj => ⟨Nat.lt_of_lt_of_le (hfF j hj).1 (by omega), (hn60 _ (by omega)).trans (hfF j hj).2⟩
  have hy57 : L60 3 = (sd_P (dA 3) 16 (va_up (va_up (va_up (va_up (va_up (va_up (va_up (va_up (va_up (va_up (va_up (va_up (va_up (va_up (va_up (va_up (fun _ => none) 0 (some 5)) 1 (some 6)) 2 (some 7)) 3 (some 8)) 4 (some 9)) 5 (some 10)) 6 (some 11)) 7 (some 12)) 8 (some 13)) 9 (some 14)) 10 (some 15)) 11 (some 16)) 12 (some 17)) 13 (some 18)) 14 (some 19)) 15 (some 20))) := (hn60 3 (by omega)).trans hy57
  have hfR : ∀ j, j < 1 → isR 22 L60 (21 + j) := fun j hj => ⟨Nat.lt_of_lt_of_le (hfR j hj).1 (by omega), (hn60 _ (by omega)).trans (hfR j hj).2⟩
  refine x_iinc 1 0 [(1, .int 1), (0, .ref 1)] d_C_init_90 rfl (by decide) (by decide) rfl ?_
  refine x_goto 72 d_C_init_93 rfl ?_
  refine x_iload_n 1 0 d_C_init_72 rfl rfl ?_
  refine x_iconst (v := 4) d_C_init_73 (by decide) ?_
  refine x_icmp_ge 96 d_C_init_74 rfl (fun hc => absurd hc (by decide)) (fun _ => ?_)
  refine x_aload_n 0 1 d_C_init_77 rfl rfl ?_
  refine x_getr 5 4 d_C_init_78 (by omega) hlo rfl rfl (by decide) lay_C (List.mem_cons_of_mem _ q92) rfl ?_
  refine x_iload_n 1 0 d_C_init_81 rfl rfl ?_
  refine x_new (rc := 2) (rs := 10) (n := 22) [none, none, none, none, none] hA58 hl60 (List.forall_mem_cons.mpr ⟨sd_bel_i, List.forall_mem_cons.mpr ⟨(sd_bel_r (by omega)), fun _ h => absurd h List.not_mem_nil⟩⟩) (List.forall_mem_cons.mpr ⟨sd_bel_i, List.forall_mem_cons.mpr ⟨(sd_bel_r (by omega)), fun _ h => absurd h List.not_mem_nil⟩⟩) d_C_init_82 (ci := 6) (N := 5) (C := "SettingsDesk$Rule") (T := T_R) rfl ty_R ty_R_ok lay_R (List.mem_cons_of_mem _ q610) (List.mem_cons_of_mem _ q615) (List.mem_cons_of_mem _ q616) (sd_nr rfl) (by decide +kernel) rfl rfl (fun ad61 L61 M61 hA61 hl61 hu61 hy61 hq61 e61 => ?_)
  have hw := hw M61 e61
  clear e61
  have hlo : L61 1 = sd_O 1 [none, none, some (some 2), some (some 3), none, some (some 4)] := (hu61.2 1 (by omega)).trans hlo
  have hy3 : L61 2 = (sd_I (dA 0) 4) := (hu61.2 2 (by omega)).trans hy3
  have hfF : ∀ j, j < 16 → isF 23 L61 (5 + j) := fun j hj => ⟨Nat.lt_of_lt_of_le (hfF j hj).1 (by omega), (hu61.2 _ (by omega)).trans (hfF j hj).2⟩
  have hy57 : L61 3 = (sd_P (dA 3) 16 (va_up (va_up (va_up (va_up (va_up (va_up (va_up (va_up (va_up (va_up (va_up (va_up (va_up (va_up (va_up (va_up (fun _ => none) 0 (some 5)) 1 (some 6)) 2 (some 7)) 3 (some 8)) 4 (some 9)) 5 (some 10)) 6 (some 11)) 7 (some 12)) 8 (some 13)) 9 (some 14)) 10 (some 15)) 11 (some 16)) 12 (some 17)) 13 (some 18)) 14 (some 19)) 15 (some 20))) := (hu61.2 3 (by omega)).trans hy57
  have hfR : ∀ j, j < 1 → isR 23 L61 (21 + j) := fun j hj => ⟨Nat.lt_of_lt_of_le (hfR j hj).1 (by omega), (hu61.2 _ (by omega)).trans (hfR j hj).2⟩
  have hy60 : L61 4 = (sd_P (dA 4) 4 (va_up (fun _ => none) 0 (some 21))) := (hu61.2 4 (by omega)).trans hy60
  refine x_dup d_C_init_85 rfl ?_
  refine x_callIv (As := []) (t := 22) (rest := [.ref 22, .int 1, .ref 4]) (rc := 2) (rs := 10) (L2 := L61) (na := 0) (host := "SettingsDesk") (c_R_init hA61 hT ⟨by omega, hy61⟩ hw) (sd_goodB q617) ⟨_, rfl⟩ (List.mem_cons_of_mem _ q616) (List.mem_cons_of_mem _ q618) (Or.inr (List.mem_of_getElem? (i := 1) rfl)) ⟨rfl, by decide, by decide, by decide +kernel⟩ ⟨rfl, rfl, rfl, rfl⟩ ⟨by decide, by decide⟩ d_C_init_86 rfl rfl (Nat.le_of_ble_eq_true rfl) (fun M62 hw => ?_)
  have hfR : ∀ j, j < 2 → isR 23 L61 (21 + j) := fun j hj => by
    by_cases h9 : j = 1
    · subst h9; exact ⟨by omega, hy61⟩
    · exact hfR j (by omega)
  refine x_aast (t0 := 4) (u := 22) hA61 d_C_init_89 (by omega) hy60 (by omega) (hfR 1 (by decide)).2 rfl rfl (vp_in_nI (n := 1) (N := 4) (by decide) (by decide)) ?_
  obtain ⟨L63, hL63⟩ : ∃ z, z = va_up L61 4 (sd_P (dA 4) 4 (va_up (va_up (fun _ => none) 0 (some 21)) 1 (some 22))) := ⟨_, rfl⟩
  show sdW l (sdE0 sc) Y_C_init D (sd_tys dA) b _ _ (va_up L61 4 (sd_P (dA 4) 4 (va_up (va_up (fun _ => none) 0 (some 21)) 1 (some 22)))) ad _ _ _ _ _ _ _ _ _
  rw [← hL63]
  have hn63 : ∀ k, k ≠ 4 → L63 k = L61 k := fun k h => by rw [hL63]; exact va_up_ne _ _ h
  have hy63 : L63 4 = (sd_P (dA 4) 4 (va_up (va_up (fun _ => none) 0 (some 21)) 1 (some 22))) := by rw [hL63]; exact va_up_self _ _ _
  have hl63 : sd_loc 23 L63 := by rw [hL63]; exact sd_loc_at hl61 (sd_P_loc (sd_Pl_up (sd_Pl_up sd_Pl_none (by omega)) (by omega)))
  clear hL63
  have hlo : L63 1 = sd_O 1 [none, none, some (some 2), some (some 3), none, some (some 4)] := (hn63 1 (by omega)).trans hlo
  have hy3 : L63 2 = (sd_I (dA 0) 4) := (hn63 2 (by omega)).trans hy3
  have hfF : ∀ j, j < 16 → isF 23 L63 (5 + j) := fun j hj => ⟨Nat.lt_of_lt_of_le (hfF j hj).1 (by omega), (hn63 _ (by omega)).trans (hfF j hj).2⟩
  have hy57 : L63 3 = (sd_P (dA 3) 16 (va_up (va_up (va_up (va_up (va_up (va_up (va_up (va_up (va_up (va_up (va_up (va_up (va_up (va_up (va_up (va_up (fun _ => none) 0 (some 5)) 1 (some 6)) 2 (some 7)) 3 (some 8)) 4 (some 9)) 5 (some 10)) 6 (some 11)) 7 (some 12)) 8 (some 13)) 9 (some 14)) 10 (some 15)) 11 (some 16)) 12 (some 17)) 13 (some 18)) 14 (some 19)) 15 (some 20))) := (hn63 3 (by omega)).trans hy57
  have hfR : ∀ j, j < 2 → isR 23 L63 (21 + j) := fun j hj => ⟨Nat.lt_of_lt_of_le (hfR j hj).1 (by omega), (hn63 _ (by omega)).trans (hfR j hj).2⟩
  refine x_iinc 1 0 [(1, .int 2), (0, .ref 1)] d_C_init_90 rfl (by decide) (by decide) rfl ?_
  refine x_goto 72 d_C_init_93 rfl ?_
  refine x_iload_n 1 0 d_C_init_72 rfl rfl ?_
  refine x_iconst (v := 4) d_C_init_73 (by decide) ?_
  refine x_icmp_ge 96 d_C_init_74 rfl (fun hc => absurd hc (by decide)) (fun _ => ?_)
  refine x_aload_n 0 1 d_C_init_77 rfl rfl ?_
  refine x_getr 5 4 d_C_init_78 (by omega) hlo rfl rfl (by decide) lay_C (List.mem_cons_of_mem _ q92) rfl ?_
  refine x_iload_n 1 0 d_C_init_81 rfl rfl ?_
  refine x_new (rc := 1) (rs := 5) (n := 23) [none, none, none, none, none] hA61 hl63 (List.forall_mem_cons.mpr ⟨sd_bel_i, List.forall_mem_cons.mpr ⟨(sd_bel_r (by omega)), fun _ h => absurd h List.not_mem_nil⟩⟩) (List.forall_mem_cons.mpr ⟨sd_bel_i, List.forall_mem_cons.mpr ⟨(sd_bel_r (by omega)), fun _ h => absurd h List.not_mem_nil⟩⟩) d_C_init_82 (ci := 6) (N := 5) (C := "SettingsDesk$Rule") (T := T_R) rfl ty_R ty_R_ok lay_R (List.mem_cons_of_mem _ q610) (List.mem_cons_of_mem _ q615) (List.mem_cons_of_mem _ q616) (sd_nr rfl) (by decide +kernel) rfl rfl (fun ad64 L64 M64 hA64 hl64 hu64 hy64 hq64 e64 => ?_)
  have hw := hw M64 e64
  clear e64
  have hlo : L64 1 = sd_O 1 [none, none, some (some 2), some (some 3), none, some (some 4)] := (hu64.2 1 (by omega)).trans hlo
  have hy3 : L64 2 = (sd_I (dA 0) 4) := (hu64.2 2 (by omega)).trans hy3
  have hfF : ∀ j, j < 16 → isF 24 L64 (5 + j) := fun j hj => ⟨Nat.lt_of_lt_of_le (hfF j hj).1 (by omega), (hu64.2 _ (by omega)).trans (hfF j hj).2⟩
  have hy57 : L64 3 = (sd_P (dA 3) 16 (va_up (va_up (va_up (va_up (va_up (va_up (va_up (va_up (va_up (va_up (va_up (va_up (va_up (va_up (va_up (va_up (fun _ => none) 0 (some 5)) 1 (some 6)) 2 (some 7)) 3 (some 8)) 4 (some 9)) 5 (some 10)) 6 (some 11)) 7 (some 12)) 8 (some 13)) 9 (some 14)) 10 (some 15)) 11 (some 16)) 12 (some 17)) 13 (some 18)) 14 (some 19)) 15 (some 20))) := (hu64.2 3 (by omega)).trans hy57
  have hfR : ∀ j, j < 2 → isR 24 L64 (21 + j) := fun j hj => ⟨Nat.lt_of_lt_of_le (hfR j hj).1 (by omega), (hu64.2 _ (by omega)).trans (hfR j hj).2⟩
  have hy63 : L64 4 = (sd_P (dA 4) 4 (va_up (va_up (fun _ => none) 0 (some 21)) 1 (some 22))) := (hu64.2 4 (by omega)).trans hy63
  refine x_dup d_C_init_85 rfl ?_
  refine x_callIv (As := []) (t := 23) (rest := [.ref 23, .int 2, .ref 4]) (rc := 1) (rs := 5) (L2 := L64) (na := 0) (host := "SettingsDesk") (c_R_init hA64 hT ⟨by omega, hy64⟩ hw) (sd_goodB q617) ⟨_, rfl⟩ (List.mem_cons_of_mem _ q616) (List.mem_cons_of_mem _ q618) (Or.inr (List.mem_of_getElem? (i := 1) rfl)) ⟨rfl, by decide, by decide, by decide +kernel⟩ ⟨rfl, rfl, rfl, rfl⟩ ⟨by decide, by decide⟩ d_C_init_86 rfl rfl (Nat.le_of_ble_eq_true rfl) (fun M65 hw => ?_)
  have hfR : ∀ j, j < 3 → isR 24 L64 (21 + j) := fun j hj => by
    by_cases h9 : j = 2
    · subst h9; exact ⟨by omega, hy64⟩
    · exact hfR j (by omega)
  refine x_aast (t0 := 4) (u := 23) hA64 d_C_init_89 (by omega) hy63 (by omega) (hfR 2 (by decide)).2 rfl rfl (vp_in_nI (n := 2) (N := 4) (by decide) (by decide)) ?_
  obtain ⟨L66, hL66⟩ : ∃ z, z = va_up L64 4 (sd_P (dA 4) 4 (va_up (va_up (va_up (fun _ => none) 0 (some 21)) 1 (some 22)) 2 (some 23))) := ⟨_, rfl⟩
  show sdW l (sdE0 sc) Y_C_init D (sd_tys dA) b _ _ (va_up L64 4 (sd_P (dA 4) 4 (va_up (va_up (va_up (fun _ => none) 0 (some 21)) 1 (some 22)) 2 (some 23)))) ad _ _ _ _ _ _ _ _ _
  rw [← hL66]
  have hn66 : ∀ k, k ≠ 4 → L66 k = L64 k := fun k h => by rw [hL66]; exact va_up_ne _ _ h
  have hy66 : L66 4 = (sd_P (dA 4) 4 (va_up (va_up (va_up (fun _ => none) 0 (some 21)) 1 (some 22)) 2 (some 23))) := by rw [hL66]; exact va_up_self _ _ _
  have hl66 : sd_loc 24 L66 := by rw [hL66]; exact sd_loc_at hl64 (sd_P_loc (sd_Pl_up (sd_Pl_up (sd_Pl_up sd_Pl_none (by omega)) (by omega)) (by omega)))
  clear hL66
  have hlo : L66 1 = sd_O 1 [none, none, some (some 2), some (some 3), none, some (some 4)] := (hn66 1 (by omega)).trans hlo
  have hy3 : L66 2 = (sd_I (dA 0) 4) := (hn66 2 (by omega)).trans hy3
  have hfF : ∀ j, j < 16 → isF 24 L66 (5 + j) := fun j hj => ⟨Nat.lt_of_lt_of_le (hfF j hj).1 (by omega), (hn66 _ (by omega)).trans (hfF j hj).2⟩
  have hy57 : L66 3 = (sd_P (dA 3) 16 (va_up (va_up (va_up (va_up (va_up (va_up (va_up (va_up (va_up (va_up (va_up (va_up (va_up (va_up (va_up (va_up (fun _ => none) 0 (some 5)) 1 (some 6)) 2 (some 7)) 3 (some 8)) 4 (some 9)) 5 (some 10)) 6 (some 11)) 7 (some 12)) 8 (some 13)) 9 (some 14)) 10 (some 15)) 11 (some 16)) 12 (some 17)) 13 (some 18)) 14 (some 19)) 15 (some 20))) := (hn66 3 (by omega)).trans hy57
  have hfR : ∀ j, j < 3 → isR 24 L66 (21 + j) := fun j hj => ⟨Nat.lt_of_lt_of_le (hfR j hj).1 (by omega), (hn66 _ (by omega)).trans (hfR j hj).2⟩
  refine x_iinc 1 0 [(1, .int 3), (0, .ref 1)] d_C_init_90 rfl (by decide) (by decide) rfl ?_
  refine x_goto 72 d_C_init_93 rfl ?_
  refine x_iload_n 1 0 d_C_init_72 rfl rfl ?_
  refine x_iconst (v := 4) d_C_init_73 (by decide) ?_
  refine x_icmp_ge 96 d_C_init_74 rfl (fun hc => absurd hc (by decide)) (fun _ => ?_)
  refine x_aload_n 0 1 d_C_init_77 rfl rfl ?_
  refine x_getr 5 4 d_C_init_78 (by omega) hlo rfl rfl (by decide) lay_C (List.mem_cons_of_mem _ q92) rfl ?_
  refine x_iload_n 1 0 d_C_init_81 rfl rfl ?_
  refine x_new (rc := 0) (rs := 0) (n := 24) [none, none, none, none, none] hA64 hl66 (List.forall_mem_cons.mpr ⟨sd_bel_i, List.forall_mem_cons.mpr ⟨(sd_bel_r (by omega)), fun _ h => absurd h List.not_mem_nil⟩⟩) (List.forall_mem_cons.mpr ⟨sd_bel_i, List.forall_mem_cons.mpr ⟨(sd_bel_r (by omega)), fun _ h => absurd h List.not_mem_nil⟩⟩) d_C_init_82 (ci := 6) (N := 5) (C := "SettingsDesk$Rule") (T := T_R) rfl ty_R ty_R_ok lay_R (List.mem_cons_of_mem _ q610) (List.mem_cons_of_mem _ q615) (List.mem_cons_of_mem _ q616) (sd_nr rfl) (by decide +kernel) rfl rfl (fun ad67 L67 M67 hA67 hl67 hu67 hy67 hq67 e67 => ?_)
  have hw := hw M67 e67
  clear e67
  have hlo : L67 1 = sd_O 1 [none, none, some (some 2), some (some 3), none, some (some 4)] := (hu67.2 1 (by omega)).trans hlo
  have hy3 : L67 2 = (sd_I (dA 0) 4) := (hu67.2 2 (by omega)).trans hy3
  have hfF : ∀ j, j < 16 → isF 25 L67 (5 + j) := fun j hj => ⟨Nat.lt_of_lt_of_le (hfF j hj).1 (by omega), (hu67.2 _ (by omega)).trans (hfF j hj).2⟩
  have hy57 : L67 3 = (sd_P (dA 3) 16 (va_up (va_up (va_up (va_up (va_up (va_up (va_up (va_up (va_up (va_up (va_up (va_up (va_up (va_up (va_up (va_up (fun _ => none) 0 (some 5)) 1 (some 6)) 2 (some 7)) 3 (some 8)) 4 (some 9)) 5 (some 10)) 6 (some 11)) 7 (some 12)) 8 (some 13)) 9 (some 14)) 10 (some 15)) 11 (some 16)) 12 (some 17)) 13 (some 18)) 14 (some 19)) 15 (some 20))) := (hu67.2 3 (by omega)).trans hy57
  have hfR : ∀ j, j < 3 → isR 25 L67 (21 + j) := fun j hj => ⟨Nat.lt_of_lt_of_le (hfR j hj).1 (by omega), (hu67.2 _ (by omega)).trans (hfR j hj).2⟩
  have hy66 : L67 4 = (sd_P (dA 4) 4 (va_up (va_up (va_up (fun _ => none) 0 (some 21)) 1 (some 22)) 2 (some 23))) := (hu67.2 4 (by omega)).trans hy66
  refine x_dup d_C_init_85 rfl ?_
  refine x_callIv (As := []) (t := 24) (rest := [.ref 24, .int 3, .ref 4]) (rc := 0) (rs := 0) (L2 := L67) (na := 0) (host := "SettingsDesk") (c_R_init hA67 hT ⟨by omega, hy67⟩ hw) (sd_goodB q617) ⟨_, rfl⟩ (List.mem_cons_of_mem _ q616) (List.mem_cons_of_mem _ q618) (Or.inr (List.mem_of_getElem? (i := 1) rfl)) ⟨rfl, by decide, by decide, by decide +kernel⟩ ⟨rfl, rfl, rfl, rfl⟩ ⟨by decide, by decide⟩ d_C_init_86 rfl rfl (Nat.le_of_ble_eq_true rfl) (fun M68 hw => ?_)
  have hfR : ∀ j, j < 4 → isR 25 L67 (21 + j) := fun j hj => by
    by_cases h9 : j = 3
    · subst h9; exact ⟨by omega, hy67⟩
    · exact hfR j (by omega)
  refine x_aast (t0 := 4) (u := 24) hA67 d_C_init_89 (by omega) hy66 (by omega) (hfR 3 (by decide)).2 rfl rfl (vp_in_nI (n := 3) (N := 4) (by decide) (by decide)) ?_
  obtain ⟨L69, hL69⟩ : ∃ z, z = va_up L67 4 (sd_P (dA 4) 4 (va_up (va_up (va_up (va_up (fun _ => none) 0 (some 21)) 1 (some 22)) 2 (some 23)) 3 (some 24))) := ⟨_, rfl⟩
  show sdW l (sdE0 sc) Y_C_init D (sd_tys dA) b _ _ (va_up L67 4 (sd_P (dA 4) 4 (va_up (va_up (va_up (va_up (fun _ => none) 0 (some 21)) 1 (some 22)) 2 (some 23)) 3 (some 24)))) ad _ _ _ _ _ _ _ _ _
  rw [← hL69]
  have hn69 : ∀ k, k ≠ 4 → L69 k = L67 k := fun k h => by rw [hL69]; exact va_up_ne _ _ h
  have hy69 : L69 4 = (sd_P (dA 4) 4 (va_up (va_up (va_up (va_up (fun _ => none) 0 (some 21)) 1 (some 22)) 2 (some 23)) 3 (some 24))) := by rw [hL69]; exact va_up_self _ _ _
  have hl69 : sd_loc 25 L69 := by rw [hL69]; exact sd_loc_at hl67 (sd_P_loc (sd_Pl_up (sd_Pl_up (sd_Pl_up (sd_Pl_up sd_Pl_none (by omega)) (by omega)) (by omega)) (by omega)))
  clear hL69
  have hlo : L69 1 = sd_O 1 [none, none, some (some 2), some (some 3), none, some (some 4)] := (hn69 1 (by omega)).trans hlo
  have hy3 : L69 2 = (sd_I (dA 0) 4) := (hn69 2 (by omega)).trans hy3
  have hfF : ∀ j, j < 16 → isF 25 L69 (5 + j) := fun j hj => ⟨Nat.lt_of_lt_of_le (hfF j hj).1 (by omega), (hn69 _ (by omega)).trans (hfF j hj).2⟩
  have hy57 : L69 3 = (sd_P (dA 3) 16 (va_up (va_up (va_up (va_up (va_up (va_up (va_up (va_up (va_up (va_up (va_up (va_up (va_up (va_up (va_up (va_up (fun _ => none) 0 (some 5)) 1 (some 6)) 2 (some 7)) 3 (some 8)) 4 (some 9)) 5 (some 10)) 6 (some 11)) 7 (some 12)) 8 (some 13)) 9 (some 14)) 10 (some 15)) 11 (some 16)) 12 (some 17)) 13 (some 18)) 14 (some 19)) 15 (some 20))) := (hn69 3 (by omega)).trans hy57
  have hfR : ∀ j, j < 4 → isR 25 L69 (21 + j) := fun j hj => ⟨Nat.lt_of_lt_of_le (hfR j hj).1 (by omega), (hn69 _ (by omega)).trans (hfR j hj).2⟩
  refine x_iinc 1 0 [(1, .int 4), (0, .ref 1)] d_C_init_90 rfl (by decide) (by decide) rfl ?_
  refine x_goto 72 d_C_init_93 rfl ?_
  refine x_iload_n 1 0 d_C_init_72 rfl rfl ?_
  refine x_iconst (v := 4) d_C_init_73 (by decide) ?_
  refine x_icmp_ge 96 d_C_init_74 rfl (fun _ => ?_) (fun hc => absurd (by decide) hc)
  obtain ⟨L70, hL70⟩ : ∃ z, z = (va_up (va_up L69 3 (sd_Q (dA 3) 16 (fun j => 5 + j))) 4 (sd_Q (dA 4) 4 (fun j => 21 + j))) := ⟨_, rfl⟩
  have hn70 : ∀ k, k ≠ 3 → k ≠ 4 → L70 k = L69 k := fun k h h2 => by rw [hL70, va_up_ne _ _ h2, va_up_ne _ _ h]
  have hz1 : L70 3 = (sd_Q (dA 3) 16 (fun j => 5 + j)) := by rw [hL70, va_up_ne _ _ (by decide), va_up_self]
  have hz2 : L70 4 = (sd_Q (dA 4) 4 (fun j => 21 + j)) := by rw [hL70, va_up_self]
  have hl70 : sd_loc 25 L70 := by rw [hL70]; exact sd_loc_at (sd_loc_at hl69 (sd_Q_loc (fun j hj => by omega))) (sd_Q_loc (fun j hj => by omega))
  have hH70 : ∀ (M : sdM) (H : Heap), sd_H D (sdE0 sc).1 25 ad67 L69 M H → sd_H D (sdE0 sc).1 25 ad67 L70 M H := fun M H h => by
    rw [hL70]
    refine sd_H_at (sd_H_at h (fun _ hv => ?_)) (fun _ hv => ?_)
    · rw [hy57] at hv; exact sd_full (by decide) hv
    · rw [va_up_ne _ _ (by decide), hy69] at hv; exact sd_full (by decide) hv
  clear hL70
  have hlo : L70 1 = sd_O 1 [none, none, some (some 2), some (some 3), none, some (some 4)] := (hn70 1 (by omega) (by omega)).trans hlo
  have hy3 : L70 2 = (sd_I (dA 0) 4) := (hn70 2 (by omega) (by omega)).trans hy3
  have hfF : ∀ j, j < 16 → isF 25 L70 (5 + j) := fun j hj => ⟨Nat.lt_of_lt_of_le (hfF j hj).1 (by omega), (hn70 _ (by omega) (by omega)).trans (hfF j hj).2⟩
  have hfR : ∀ j, j < 4 → isR 25 L70 (21 + j) := fun j hj => ⟨Nat.lt_of_lt_of_le (hfR j hj).1 (by omega), (hn70 _ (by omega) (by omega)).trans (hfR j hj).2⟩
  exact x_vret d_C_init_96 rfl (fun H h => ⟨ad67, L70, (fun k hk => ((hq67 k (by omega)).trans ((hq64 k (by omega)).trans ((hq61 k (by omega)).trans ((hq58 k (by omega)).trans ((hq55 k (by omega)).trans ((hq52 k (by omega)).trans ((hq49 k (by omega)).trans ((hq46 k (by omega)).trans ((hq43 k (by omega)).trans ((hq40 k (by omega)).trans ((hq37 k (by omega)).trans ((hq34 k (by omega)).trans ((hq31 k (by omega)).trans ((hq28 k (by omega)).trans ((hq25 k (by omega)).trans ((hq22 k (by omega)).trans ((hq19 k (by omega)).trans ((hq16 k (by omega)).trans ((hq13 k (by omega)).trans ((hq10 k (by omega)).trans ((hq8 k (by omega)).trans ((hq5 k (by omega)).trans (hq3 k (by omega))))))))))))))))))))))))), hA67, hl70, (fun k hk => ((hn70 k (by omega) (by omega)).trans ((hn69 k (by omega)).trans ((hu67.2 k (by omega)).trans ((hn66 k (by omega)).trans ((hu64.2 k (by omega)).trans ((hn63 k (by omega)).trans ((hu61.2 k (by omega)).trans ((hn60 k (by omega)).trans ((hu58.2 k (by omega)).trans ((hn57 k (by omega)).trans ((hu55.2 k (by omega)).trans ((hn54 k (by omega)).trans ((hu52.2 k (by omega)).trans ((hn51 k (by omega)).trans ((hu49.2 k (by omega)).trans ((hn48 k (by omega)).trans ((hu46.2 k (by omega)).trans ((hn45 k (by omega)).trans ((hu43.2 k (by omega)).trans ((hn42 k (by omega)).trans ((hu40.2 k (by omega)).trans ((hn39 k (by omega)).trans ((hu37.2 k (by omega)).trans ((hn36 k (by omega)).trans ((hu34.2 k (by omega)).trans ((hn33 k (by omega)).trans ((hu31.2 k (by omega)).trans ((hn30 k (by omega)).trans ((hu28.2 k (by omega)).trans ((hn27 k (by omega)).trans ((hu25.2 k (by omega)).trans ((hn24 k (by omega)).trans ((hu22.2 k (by omega)).trans ((hn21 k (by omega)).trans ((hu19.2 k (by omega)).trans ((hn18 k (by omega)).trans ((hu16.2 k (by omega)).trans ((hn15 k (by omega)).trans ((hu13.2 k (by omega)).trans ((hn12 k (by omega)).trans ((hu10.2 k (by omega)).trans ((hn9 k (by omega)).trans ((hu8.2 k (by omega)).trans ((hn6 k (by omega)).trans ((hu5.2 k (by omega)).trans ((hn4 k (by omega)).trans (hu3.2 k (by omega))))))))))))))))))))))))))))))))))))))))))))))))), ⟨by omega, hlo, ⟨by omega, hy3⟩, ⟨by omega, hz1⟩, ⟨by omega, hz2⟩, hfF, hfR⟩, hH70 _ H h⟩) ⟨rfl, hw⟩
end
theorem q619 : (.methodLink "SettingsDesk" 3 ⟨"java/lang/Object", "<init>", "()V"⟩ : Cond) ∈ sdB0 := sd_tb1 27 rfl rfl
theorem q620 : (.classLink "SettingsDesk" 9 "SettingsDesk$Schema" : Cond) ∈ sdB0 := sd_tb1 30 rfl rfl
theorem q621 : (.instantiable "SettingsDesk$Schema" 6 : Cond) ∈ sdB0 := sd_tb1 31 rfl rfl
theorem q622 : (.code ⟨"SettingsDesk$Schema", "<init>", "()V"⟩ prog_7_method_1_code 2 none : Cond) ∈ sdB0 := sd_tb1 34 rfl rfl
theorem q623 : (.instanceMethod ⟨"SettingsDesk$Schema", "<init>", "()V"⟩ : Cond) ∈ sdB0 := sd_tb1 33 rfl rfl
theorem q624 : (.methodLink "SettingsDesk" 11 ⟨"SettingsDesk$Schema", "<init>", "()V"⟩ : Cond) ∈ sdB0 := sd_tb1 32 rfl rfl
theorem q625 : (.classLink "SettingsDesk" 16 "SettingsDesk$Settings" : Cond) ∈ sdB0 := sd_tb1 131 rfl rfl
theorem q626 : (.methodLink "SettingsDesk" 18 ⟨"SettingsDesk$Settings", "<init>", "()V"⟩ : Cond) ∈ sdB0 := sd_tb1 133 rfl rfl
theorem q627 : (.arrayOver (.object "SettingsDesk$Settings") : Cond) ∈ sdB0 := sd_tb1 153 rfl rfl
theorem q628 : (.classLink "SettingsDesk" 33 "SettingsDesk$Session" : Cond) ∈ sdB0 := sd_tb1 154 rfl rfl
theorem q629 : (.arrayOver (.object "SettingsDesk$Session") : Cond) ∈ sdB0 := sd_tb1 155 rfl rfl
theorem q630 : (.instantiable "SettingsDesk$Session" 3 : Cond) ∈ sdB0 := sd_tb1 179 rfl rfl
theorem q631 : (.code ⟨"SettingsDesk$Session", "<init>", "()V"⟩ prog_8_method_1_code 1 none : Cond) ∈ sdB0 := sd_tb1 182 rfl rfl
theorem q632 : (.instanceMethod ⟨"SettingsDesk$Session", "<init>", "()V"⟩ : Cond) ∈ sdB0 := sd_tb1 181 rfl rfl
abbrev y_D_init : MethodName := ⟨"SettingsDesk", "<init>", "()V"⟩
theorem d_D_init_0 : decode prog_1_method_1_code 0 = .ok (.aload_n 0, 1) := by decide +kernel
theorem d_D_init_1 : decode prog_1_method_1_code 1 = .ok (.invokespecial 3, 3) := by decide +kernel
theorem d_D_init_4 : decode prog_1_method_1_code 4 = .ok (.aload_n 0, 1) := by decide +kernel
theorem d_D_init_5 : decode prog_1_method_1_code 5 = .ok (.new 9, 3) := by decide +kernel
theorem d_D_init_8 : decode prog_1_method_1_code 8 = .ok (.dup, 1) := by decide +kernel
theorem d_D_init_9 : decode prog_1_method_1_code 9 = .ok (.invokespecial 11, 3) := by decide +kernel
theorem d_D_init_12 : decode prog_1_method_1_code 12 = .ok (.putfield 12, 3) := by decide +kernel
theorem d_D_init_15 : decode prog_1_method_1_code 15 = .ok (.aload_n 0, 1) := by decide +kernel
theorem d_D_init_16 : decode prog_1_method_1_code 16 = .ok (.new 16, 3) := by decide +kernel
theorem d_D_init_19 : decode prog_1_method_1_code 19 = .ok (.dup, 1) := by decide +kernel
theorem d_D_init_20 : decode prog_1_method_1_code 20 = .ok (.invokespecial 18, 3) := by decide +kernel
theorem d_D_init_23 : decode prog_1_method_1_code 23 = .ok (.putfield 19, 3) := by decide +kernel
theorem d_D_init_26 : decode prog_1_method_1_code 26 = .ok (.aload_n 0, 1) := by decide +kernel
theorem d_D_init_27 : decode prog_1_method_1_code 27 = .ok (.new 16, 3) := by decide +kernel
theorem d_D_init_30 : decode prog_1_method_1_code 30 = .ok (.dup, 1) := by decide +kernel
theorem d_D_init_31 : decode prog_1_method_1_code 31 = .ok (.invokespecial 18, 3) := by decide +kernel
theorem d_D_init_34 : decode prog_1_method_1_code 34 = .ok (.putfield 23, 3) := by decide +kernel
theorem d_D_init_37 : decode prog_1_method_1_code 37 = .ok (.aload_n 0, 1) := by decide +kernel
theorem d_D_init_38 : decode prog_1_method_1_code 38 = .ok (.new 16, 3) := by decide +kernel
theorem d_D_init_41 : decode prog_1_method_1_code 41 = .ok (.dup, 1) := by decide +kernel
theorem d_D_init_42 : decode prog_1_method_1_code 42 = .ok (.invokespecial 18, 3) := by decide +kernel
theorem d_D_init_45 : decode prog_1_method_1_code 45 = .ok (.putfield 26, 3) := by decide +kernel
theorem d_D_init_48 : decode prog_1_method_1_code 48 = .ok (.aload_n 0, 1) := by decide +kernel
theorem d_D_init_49 : decode prog_1_method_1_code 49 = .ok (.bipush (8), 2) := by decide +kernel
theorem d_D_init_51 : decode prog_1_method_1_code 51 = .ok (.anewarray 16, 3) := by decide +kernel
theorem d_D_init_54 : decode prog_1_method_1_code 54 = .ok (.putfield 29, 3) := by decide +kernel
theorem d_D_init_57 : decode prog_1_method_1_code 57 = .ok (.aload_n 0, 1) := by decide +kernel
theorem d_D_init_58 : decode prog_1_method_1_code 58 = .ok (.iconst 3, 1) := by decide +kernel
theorem d_D_init_59 : decode prog_1_method_1_code 59 = .ok (.anewarray 33, 3) := by decide +kernel
theorem d_D_init_62 : decode prog_1_method_1_code 62 = .ok (.putfield 35, 3) := by decide +kernel
theorem d_D_init_65 : decode prog_1_method_1_code 65 = .ok (.aload_n 0, 1) := by decide +kernel
theorem d_D_init_66 : decode prog_1_method_1_code 66 = .ok (.new 39, 3) := by decide +kernel
theorem d_D_init_69 : decode prog_1_method_1_code 69 = .ok (.dup, 1) := by decide +kernel
theorem d_D_init_70 : decode prog_1_method_1_code 70 = .ok (.invokespecial 41, 3) := by decide +kernel
theorem d_D_init_73 : decode prog_1_method_1_code 73 = .ok (.putfield 42, 3) := by decide +kernel
theorem d_D_init_76 : decode prog_1_method_1_code 76 = .ok (.aload_n 0, 1) := by decide +kernel
theorem d_D_init_77 : decode prog_1_method_1_code 77 = .ok (.iconst 0, 1) := by decide +kernel
theorem d_D_init_78 : decode prog_1_method_1_code 78 = .ok (.putfield 46, 3) := by decide +kernel
theorem d_D_init_81 : decode prog_1_method_1_code 81 = .ok (.aload_n 0, 1) := by decide +kernel
theorem d_D_init_82 : decode prog_1_method_1_code 82 = .ok (.iconst 0, 1) := by decide +kernel
theorem d_D_init_83 : decode prog_1_method_1_code 83 = .ok (.putfield 50, 3) := by decide +kernel
theorem d_D_init_86 : decode prog_1_method_1_code 86 = .ok (.aload_n 0, 1) := by decide +kernel
theorem d_D_init_87 : decode prog_1_method_1_code 87 = .ok (.iconst (-1), 1) := by decide +kernel
theorem d_D_init_88 : decode prog_1_method_1_code 88 = .ok (.putfield 53, 3) := by decide +kernel
theorem d_D_init_91 : decode prog_1_method_1_code 91 = .ok (.aload_n 0, 1) := by decide +kernel
theorem d_D_init_92 : decode prog_1_method_1_code 92 = .ok (.iconst 0, 1) := by decide +kernel
theorem d_D_init_93 : decode prog_1_method_1_code 93 = .ok (.putfield 56, 3) := by decide +kernel
theorem d_D_init_96 : decode prog_1_method_1_code 96 = .ok (.aload_n 0, 1) := by decide +kernel
theorem d_D_init_97 : decode prog_1_method_1_code 97 = .ok (.iconst (-1), 1) := by decide +kernel
theorem d_D_init_98 : decode prog_1_method_1_code 98 = .ok (.putfield 60, 3) := by decide +kernel
theorem d_D_init_101 : decode prog_1_method_1_code 101 = .ok (.iconst 0, 1) := by decide +kernel
theorem d_D_init_102 : decode prog_1_method_1_code 102 = .ok (.istore_n 1, 1) := by decide +kernel
theorem d_D_init_103 : decode prog_1_method_1_code 103 = .ok (.iload_n 1, 1) := by decide +kernel
theorem d_D_init_104 : decode prog_1_method_1_code 104 = .ok (.bipush (8), 2) := by decide +kernel
theorem d_D_init_106 : decode prog_1_method_1_code 106 = .ok (.if_icmp .ge (22), 3) := by decide +kernel
theorem d_D_init_109 : decode prog_1_method_1_code 109 = .ok (.aload_n 0, 1) := by decide +kernel
theorem d_D_init_110 : decode prog_1_method_1_code 110 = .ok (.getfield 29, 3) := by decide +kernel
theorem d_D_init_113 : decode prog_1_method_1_code 113 = .ok (.iload_n 1, 1) := by decide +kernel
theorem d_D_init_114 : decode prog_1_method_1_code 114 = .ok (.new 16, 3) := by decide +kernel
theorem d_D_init_117 : decode prog_1_method_1_code 117 = .ok (.dup, 1) := by decide +kernel
theorem d_D_init_118 : decode prog_1_method_1_code 118 = .ok (.invokespecial 18, 3) := by decide +kernel
theorem d_D_init_121 : decode prog_1_method_1_code 121 = .ok (.aastore, 1) := by decide +kernel
theorem d_D_init_122 : decode prog_1_method_1_code 122 = .ok (.iinc 1 (1), 3) := by decide +kernel
theorem d_D_init_125 : decode prog_1_method_1_code 125 = .ok (.goto (-22), 3) := by decide +kernel
theorem d_D_init_128 : decode prog_1_method_1_code 128 = .ok (.iconst 0, 1) := by decide +kernel
theorem d_D_init_129 : decode prog_1_method_1_code 129 = .ok (.istore_n 1, 1) := by decide +kernel
theorem d_D_init_130 : decode prog_1_method_1_code 130 = .ok (.iload_n 1, 1) := by decide +kernel
theorem d_D_init_131 : decode prog_1_method_1_code 131 = .ok (.iconst 3, 1) := by decide +kernel
theorem d_D_init_132 : decode prog_1_method_1_code 132 = .ok (.if_icmp .ge (22), 3) := by decide +kernel
theorem d_D_init_135 : decode prog_1_method_1_code 135 = .ok (.aload_n 0, 1) := by decide +kernel
theorem d_D_init_136 : decode prog_1_method_1_code 136 = .ok (.getfield 35, 3) := by decide +kernel
theorem d_D_init_139 : decode prog_1_method_1_code 139 = .ok (.iload_n 1, 1) := by decide +kernel
theorem d_D_init_140 : decode prog_1_method_1_code 140 = .ok (.new 33, 3) := by decide +kernel
theorem d_D_init_143 : decode prog_1_method_1_code 143 = .ok (.dup, 1) := by decide +kernel
theorem d_D_init_144 : decode prog_1_method_1_code 144 = .ok (.invokespecial 63, 3) := by decide +kernel
theorem d_D_init_147 : decode prog_1_method_1_code 147 = .ok (.aastore, 1) := by decide +kernel
theorem d_D_init_148 : decode prog_1_method_1_code 148 = .ok (.iinc 1 (1), 3) := by decide +kernel
theorem d_D_init_151 : decode prog_1_method_1_code 151 = .ok (.goto (-21), 3) := by decide +kernel
theorem d_D_init_154 : decode prog_1_method_1_code 154 = .ok (.return_, 1) := by decide +kernel
def Y_D_init : sdY := ("SettingsDesk", prog_1_method_1_code, 2, none, .code y_D_init prog_1_method_1_code 2 none :: sdB0, { frames := 3, cells := 115, slots := 5218, locals := 53 }, 115, 5218)
section
variable {l : Launch} {D : va_G} {dA : Nat → ClassId} {b n : Nat} {ad : Nat → Nat} {L : Nat → sdL} {sc : Option (Nat × Nat × (Nat → Int32))}
def w_D_init (M : sdM) (Q : sdM → Prop) : Prop := ∀ M1 : sdM, M1 = va_up M 1 (fun _ => 0) → w_C_init M1 (fun M2 => ∀ M4 : sdM, M4 = va_up M2 25 (fun _ => 0) → w_S_init 25 M4 (fun M5 => ∀ M7 : sdM, M7 = va_up M5 30 (fun _ => 0) → w_S_init 30 M7 (fun M8 => ∀ M10 : sdM, M10 = va_up M8 35 (fun _ => 0) → w_S_init 35 M10 (fun M11 => ∀ M13 : sdM, M13 = va_up M11 40 (fun _ => 0) → ∀ M15 : sdM, M15 = va_up M13 41 (fun _ => 0) → ∀ M17 : sdM, M17 = va_up M15 42 (fun _ => 0) → w_T_init 42 M17 (fun M18 => ∀ M20 : sdM, M20 = sd_s M18 0 7 (0 : Int32) → ∀ M21 : sdM, M21 = sd_s M20 0 8 (0 : Int32) → ∀ M22 : sdM, M22 = sd_s M21 0 9 (-1 : Int32) → sdB (0 : Int32) ∧ ∀ M23 : sdM, M23 = sd_s M22 0 10 (0 : Int32) → ∀ M24 : sdM, M24 = sd_s M23 0 11 (-1 : Int32) → ∀ M25 : sdM, M25 = va_up M24 43 (fun _ => 0) → w_S_init 43 M25 (fun M26 => ∀ M28 : sdM, M28 = va_up M26 48 (fun _ => 0) → w_S_init 48 M28 (fun M29 => ∀ M31 : sdM, M31 = va_up M29 53 (fun _ => 0) → w_S_init 53 M31 (fun M32 => ∀ M34 : sdM, M34 = va_up M32 58 (fun _ => 0) → w_S_init 58 M34 (fun M35 => ∀ M37 : sdM, M37 = va_up M35 63 (fun _ => 0) → w_S_init 63 M37 (fun M38 => ∀ M40 : sdM, M40 = va_up M38 68 (fun _ => 0) → w_S_init 68 M40 (fun M41 => ∀ M43 : sdM, M43 = va_up M41 73 (fun _ => 0) → w_S_init 73 M43 (fun M44 => ∀ M46 : sdM, M46 = va_up M44 78 (fun _ => 0) → w_S_init 78 M46 (fun M47 => ∀ M49 : sdM, M49 = va_up M47 83 (fun _ => 0) → w_N_init 83 M49 (fun M50 => ∀ M52 : sdM, M52 = va_up M50 94 (fun _ => 0) → w_N_init 94 M52 (fun M53 => ∀ M55 : sdM, M55 = va_up M53 105 (fun _ => 0) → w_N_init 105 M55 (fun M56 => Q M56))))))))))))))))
set_option maxHeartbeats 4000000 in
set_option maxRecDepth 100000 in
theorem c_D_init (hA : sd_ad b 1 ad) (hT : l.stackTraces = false) (hloc : sd_loc 1 L) (hlo : L 0 = sd_O 0 [some none, some none, some none, some none, some none, some none, some none, none, none, none, none, none]) {Q : sdM → Prop} {M : sdM} (hw : w_D_init M Q) : sd_CnF l (sdE0 sc) y_D_init Y_D_init.2.2.2.2.1 Y_D_init.2.2.2.2.2.1 115 5218 D (sd_tys dA) b 1 ad L M [.ref 0] (fun M' H => ∃ (ad2 : Nat → Nat) (L2 : Nat → sdL), (∀ k, k < 1 → ad2 k = ad k) ∧ sd_ad b 116 ad2 ∧ sd_loc 116 L2 ∧ isD 116 L2 dA ∧ sd_H D (sdE0 sc).1 116 ad2 L2 M' H) (sd_qv Q) sd_xf := by
  refine sd_enterF (Y := Y_D_init) rfl rfl rfl (Nat.le_of_ble_eq_true rfl) ?_
  show sdW l (sdE0 sc) Y_D_init D (sd_tys dA) b 1 ad L ad _ _ _ 0 [(0, .ref 0)] [] M 115 5218
  unfold w_D_init at hw
  refine x_aload_n 0 0 d_D_init_0 rfl rfl ?_
  refine x_objInit d_D_init_1 (List.mem_cons_of_mem _ q619) (List.mem_cons_of_mem _ q64) (List.mem_cons_of_mem _ q65) (by decide) (Nat.le_of_ble_eq_true rfl) ?_
  refine x_aload_n 0 0 d_D_init_4 rfl rfl ?_
  refine x_new (rc := 114) (rs := 5212) (n := 1) [none, none, some none, some none, none, some none] hA hloc (List.forall_mem_cons.mpr ⟨(sd_bel_r (by omega)), fun _ h => absurd h List.not_mem_nil⟩) (List.forall_mem_cons.mpr ⟨(sd_bel_r (by omega)), fun _ h => absurd h List.not_mem_nil⟩) d_D_init_5 (ci := 1) (N := 6) (C := "SettingsDesk$Schema") (T := T_C) rfl ty_C ty_C_ok lay_C (List.mem_cons_of_mem _ q620) (List.mem_cons_of_mem _ q621) (List.mem_cons_of_mem _ q77) (sd_nr rfl) (by decide +kernel) rfl rfl (fun ad1 L1 M1 hA1 hl1 hu1 hy1 hq1 e1 => ?_)
  have hw := hw M1 e1
  clear e1
  have hlo : L1 0 = sd_O 0 [some none, some none, some none, some none, some none, some none, some none, none, none, none, none, none] := (hu1.2 0 (by omega)).trans hlo
  refine x_dup d_D_init_8 rfl ?_
  refine x_callIg (As := []) (t := 1) (rest := [.ref 1, .ref 0]) (rc := 91) (rs := 5056) (na := 0) (host := "SettingsDesk") (c_C_init hA1 hT hl1 hy1 hw) (sd_goodB q622) ⟨_, rfl⟩ (List.mem_cons_of_mem _ q77) (List.mem_cons_of_mem _ q623) (Or.inl (List.mem_cons_of_mem _ q624)) ⟨rfl, by decide, by decide, by decide +kernel⟩ ⟨rfl, rfl, rfl, rfl⟩ ⟨by decide, by decide⟩ d_D_init_9 rfl rfl (Nat.le_of_ble_eq_true rfl) (fun _ _ h => h) (fun v M2 H2 hq9 hF9 => ?_)
  obtain ⟨ad2, L2, hq2, hA2, hl2, hk2, hs2, hH2⟩ := hF9
  refine ⟨hq9.1, 25, ad2, L2, hH2, sd_l_ext hq2 (List.forall_mem_cons.mpr ⟨(sd_bel_r (by omega)), fun _ h => absurd h List.not_mem_nil⟩), sd_map_ext hq2 (List.forall_mem_cons.mpr ⟨(sd_bel_r (by omega)), List.forall_mem_cons.mpr ⟨(sd_bel_r (by omega)), fun _ h => absurd h List.not_mem_nil⟩⟩), ?_⟩
  have hw := hq9.2
  clear hq9
  clear hH2
  have hlo : L2 0 = sd_O 0 [some none, some none, some none, some none, some none, some none, some none, none, none, none, none, none] := (hk2 0 (by omega)).trans hlo
  refine x_putr 0 1 (ty := .object "SettingsDesk$Schema") hA2 (fun _ _ _ _ _ _ h => h.2.2.2.2 y_D_init _ _ _ _ rfl) d_D_init_12 (by omega) hlo (Nat.le_of_ble_eq_true rfl) rfl (by decide) lay_D (List.mem_cons_of_mem _ q281) rfl ty_D ty_D_ok nm_D rfl rfl (by decide +kernel) rfl rfl ?_
  obtain ⟨L3, hL3⟩ : ∃ z, z = va_up L2 0 (sd_O 0 [some (some 1), some none, some none, some none, some none, some none, some none, none, none, none, none, none]) := ⟨_, rfl⟩
  show sdW l (sdE0 sc) Y_D_init D (sd_tys dA) b _ _ (va_up L2 0 (sd_O 0 [some (some 1), some none, some none, some none, some none, some none, some none, none, none, none, none, none])) ad _ _ _ _ _ _ _ _ _
  rw [← hL3]
  have hn3 : ∀ k, k ≠ 0 → L3 k = L2 k := fun k h => by rw [hL3]; exact va_up_ne _ _ h
  have hl3 : sd_loc 25 L3 := by rw [hL3]; exact sd_loc_at hl2 (fun a a2 f e => by show (Sum.inr (0, sd_fv a f 0 [some (some 1), some none, some none, some none, some none, some none, some none, none, none, none, none, none]) : va_E) = Sum.inr (0, sd_fv a2 f 0 [some (some 1), some none, some none, some none, some none, some none, some none, none, none, none, none, none]); simp only [sd_fv, sd_fx]; rw [e 1 (by omega)])
  have hlo : L3 0 = sd_O 0 [some (some 1), some none, some none, some none, some none, some none, some none, none, none, none, none, none] := by rw [hL3]; exact va_up_self _ _ _
  clear hL3
  have hs2 : isC 25 L3 dA := hs2.cg (by omega) (fun k h1 h2 => hn3 k (by omega))
  refine x_aload_n 0 0 d_D_init_15 rfl rfl ?_
  refine x_new (rc := 90) (rs := 5052) (n := 25) [some none, some none, some none, some none] hA2 hl3 (List.forall_mem_cons.mpr ⟨(sd_bel_r (by omega)), fun _ h => absurd h List.not_mem_nil⟩) (List.forall_mem_cons.mpr ⟨(sd_bel_r (by omega)), fun _ h => absurd h List.not_mem_nil⟩) d_D_init_16 (ci := 2) (N := 4) (C := "SettingsDesk$Settings") (T := T_S) rfl ty_S ty_S_ok lay_S (List.mem_cons_of_mem _ q625) (List.mem_cons_of_mem _ q602) (List.mem_cons_of_mem _ q7) (sd_nr rfl) (by decide +kernel) rfl rfl (fun ad4 L4 M4 hA4 hl4 hu4 hy4 hq4 e4 => ?_)
  have hw := hw M4 e4
  clear e4
  have hlo : L4 0 = sd_O 0 [some (some 1), some none, some none, some none, some none, some none, some none, none, none, none, none, none] := (hu4.2 0 (by omega)).trans hlo
  have hs2 : isC 26 L4 dA := hs2.cg (by omega) (fun k h1 h2 => hu4.2 k (by omega))
  refine x_dup d_D_init_19 rfl ?_
  refine x_callIg (As := []) (t := 25) (rest := [.ref 25, .ref 0]) (rc := 86) (rs := 4760) (na := 0) (host := "SettingsDesk") (c_S_init (o := 25) hA4 hT hl4 hy4 hw) (sd_goodB q603) ⟨_, rfl⟩ (List.mem_cons_of_mem _ q7) (List.mem_cons_of_mem _ q604) (Or.inl (List.mem_cons_of_mem _ q626)) ⟨rfl, by decide, by decide, by decide +kernel⟩ ⟨rfl, rfl, rfl, rfl⟩ ⟨by decide, by decide⟩ d_D_init_20 rfl rfl (Nat.le_of_ble_eq_true rfl) (fun _ _ h => h) (fun v M5 H5 hq9 hF9 => ?_)
  obtain ⟨ad5, L5, hq5, hA5, hl5, hk5, hs5, hH5⟩ := hF9
  refine ⟨hq9.1, 30, ad5, L5, hH5, sd_l_ext hq5 (List.forall_mem_cons.mpr ⟨(sd_bel_r (by omega)), fun _ h => absurd h List.not_mem_nil⟩), sd_map_ext hq5 (List.forall_mem_cons.mpr ⟨(sd_bel_r (by omega)), List.forall_mem_cons.mpr ⟨(sd_bel_r (by omega)), fun _ h => absurd h List.not_mem_nil⟩⟩), ?_⟩
  have hw := hq9.2
  clear hq9
  clear hH5
  have hlo : L5 0 = sd_O 0 [some (some 1), some none, some none, some none, some none, some none, some none, none, none, none, none, none] := (hk5 0 (by omega)).trans hlo
  have hs2 : isC 30 L5 dA := hs2.cg (by omega) (fun k h1 h2 => hk5 k (by omega))
  refine x_putr 1 25 (ty := .object "SettingsDesk$Settings") hA5 (fun _ _ _ _ _ _ h => h.2.2.2.2 y_D_init _ _ _ _ rfl) d_D_init_23 (by omega) hlo (Nat.le_of_ble_eq_true rfl) rfl (by decide) lay_D (List.mem_cons_of_mem _ q253) rfl ty_D ty_D_ok nm_D rfl rfl (by decide +kernel) rfl rfl ?_
  obtain ⟨L6, hL6⟩ : ∃ z, z = va_up L5 0 (sd_O 0 [some (some 1), some (some 25), some none, some none, some none, some none, some none, none, none, none, none, none]) := ⟨_, rfl⟩
  show sdW l (sdE0 sc) Y_D_init D (sd_tys dA) b _ _ (va_up L5 0 (sd_O 0 [some (some 1), some (some 25), some none, some none, some none, some none, some none, none, none, none, none, none])) ad _ _ _ _ _ _ _ _ _
  rw [← hL6]
  have hn6 : ∀ k, k ≠ 0 → L6 k = L5 k := fun k h => by rw [hL6]; exact va_up_ne _ _ h
  have hl6 : sd_loc 30 L6 := by rw [hL6]; exact sd_loc_at hl5 (fun a a2 f e => by show (Sum.inr (0, sd_fv a f 0 [some (some 1), some (some 25), some none, some none, some none, some none, some none, none, none, none, none, none]) : va_E) = Sum.inr (0, sd_fv a2 f 0 [some (some 1), some (some 25), some none, some none, some none, some none, some none, none, none, none, none, none]); simp only [sd_fv, sd_fx]; rw [e 1 (by omega), e 25 (by omega)])
  have hlo : L6 0 = sd_O 0 [some (some 1), some (some 25), some none, some none, some none, some none, some none, none, none, none, none, none] := by rw [hL6]; exact va_up_self _ _ _
  clear hL6
  have hs2 : isC 30 L6 dA := hs2.cg (by omega) (fun k h1 h2 => hn6 k (by omega))
  have hs5 : isS 30 L6 dA 25 := hs5.cg (by omega) (fun k h1 h2 => hn6 k (by omega))
  refine x_aload_n 0 0 d_D_init_26 rfl rfl ?_
  refine x_new (rc := 85) (rs := 4756) (n := 30) [some none, some none, some none, some none] hA5 hl6 (List.forall_mem_cons.mpr ⟨(sd_bel_r (by omega)), fun _ h => absurd h List.not_mem_nil⟩) (List.forall_mem_cons.mpr ⟨(sd_bel_r (by omega)), fun _ h => absurd h List.not_mem_nil⟩) d_D_init_27 (ci := 2) (N := 4) (C := "SettingsDesk$Settings") (T := T_S) rfl ty_S ty_S_ok lay_S (List.mem_cons_of_mem _ q625) (List.mem_cons_of_mem _ q602) (List.mem_cons_of_mem _ q7) (sd_nr rfl) (by decide +kernel) rfl rfl (fun ad7 L7 M7 hA7 hl7 hu7 hy7 hq7 e7 => ?_)
  have hw := hw M7 e7
  clear e7
  have hlo : L7 0 = sd_O 0 [some (some 1), some (some 25), some none, some none, some none, some none, some none, none, none, none, none, none] := (hu7.2 0 (by omega)).trans hlo
  have hs2 : isC 31 L7 dA := hs2.cg (by omega) (fun k h1 h2 => hu7.2 k (by omega))
  have hs5 : isS 31 L7 dA 25 := hs5.cg (by omega) (fun k h1 h2 => hu7.2 k (by omega))
  refine x_dup d_D_init_30 rfl ?_
  refine x_callIg (As := []) (t := 30) (rest := [.ref 30, .ref 0]) (rc := 81) (rs := 4464) (na := 0) (host := "SettingsDesk") (c_S_init (o := 30) hA7 hT hl7 hy7 hw) (sd_goodB q603) ⟨_, rfl⟩ (List.mem_cons_of_mem _ q7) (List.mem_cons_of_mem _ q604) (Or.inl (List.mem_cons_of_mem _ q626)) ⟨rfl, by decide, by decide, by decide +kernel⟩ ⟨rfl, rfl, rfl, rfl⟩ ⟨by decide, by decide⟩ d_D_init_31 rfl rfl (Nat.le_of_ble_eq_true rfl) (fun _ _ h => h) (fun v M8 H8 hq9 hF9 => ?_)
  obtain ⟨ad8, L8, hq8, hA8, hl8, hk8, hs8, hH8⟩ := hF9
  refine ⟨hq9.1, 35, ad8, L8, hH8, sd_l_ext hq8 (List.forall_mem_cons.mpr ⟨(sd_bel_r (by omega)), fun _ h => absurd h List.not_mem_nil⟩), sd_map_ext hq8 (List.forall_mem_cons.mpr ⟨(sd_bel_r (by omega)), List.forall_mem_cons.mpr ⟨(sd_bel_r (by omega)), fun _ h => absurd h List.not_mem_nil⟩⟩), ?_⟩
  have hw := hq9.2
  clear hq9
  clear hH8
  have hlo : L8 0 = sd_O 0 [some (some 1), some (some 25), some none, some none, some none, some none, some none, none, none, none, none, none] := (hk8 0 (by omega)).trans hlo
  have hs2 : isC 35 L8 dA := hs2.cg (by omega) (fun k h1 h2 => hk8 k (by omega))
  have hs5 : isS 35 L8 dA 25 := hs5.cg (by omega) (fun k h1 h2 => hk8 k (by omega))
  refine x_putr 2 30 (ty := .object "SettingsDesk$Settings") hA8 (fun _ _ _ _ _ _ h => h.2.2.2.2 y_D_init _ _ _ _ rfl) d_D_init_34 (by omega) hlo (Nat.le_of_ble_eq_true rfl) rfl (by decide) lay_D (List.mem_cons_of_mem _ q265) rfl ty_D ty_D_ok nm_D rfl rfl (by decide +kernel) rfl rfl ?_
  obtain ⟨L9, hL9⟩ : ∃ z, z = va_up L8 0 (sd_O 0 [some (some 1), some (some 25), some (some 30), some none, some none, some none, some none, none, none, none, none, none]) := ⟨_, rfl⟩
  show sdW l (sdE0 sc) Y_D_init D (sd_tys dA) b _ _ (va_up L8 0 (sd_O 0 [some (some 1), some (some 25), some (some 30), some none, some none, some none, some none, none, none, none, none, none])) ad _ _ _ _ _ _ _ _ _
  rw [← hL9]
  have hn9 : ∀ k, k ≠ 0 → L9 k = L8 k := fun k h => by rw [hL9]; exact va_up_ne _ _ h
  have hl9 : sd_loc 35 L9 := by rw [hL9]; exact sd_loc_at hl8 (fun a a2 f e => by show (Sum.inr (0, sd_fv a f 0 [some (some 1), some (some 25), some (some 30), some none, some none, some none, some none, none, none, none, none, none]) : va_E) = Sum.inr (0, sd_fv a2 f 0 [some (some 1), some (some 25), some (some 30), some none, some none, some none, some none, none, none, none, none, none]); simp only [sd_fv, sd_fx]; rw [e 1 (by omega), e 25 (by omega), e 30 (by omega)])
  have hlo : L9 0 = sd_O 0 [some (some 1), some (some 25), some (some 30), some none, some none, some none, some none, none, none, none, none, none] := by rw [hL9]; exact va_up_self _ _ _
  clear hL9
  have hs2 : isC 35 L9 dA := hs2.cg (by omega) (fun k h1 h2 => hn9 k (by omega))
  have hs5 : isS 35 L9 dA 25 := hs5.cg (by omega) (fun k h1 h2 => hn9 k (by omega))
  have hs8 : isS 35 L9 dA 30 := hs8.cg (by omega) (fun k h1 h2 => hn9 k (by omega))
  refine x_aload_n 0 0 d_D_init_37 rfl rfl ?_
  refine x_new (rc := 80) (rs := 4460) (n := 35) [some none, some none, some none, some none] hA8 hl9 (List.forall_mem_cons.mpr ⟨(sd_bel_r (by omega)), fun _ h => absurd h List.not_mem_nil⟩) (List.forall_mem_cons.mpr ⟨(sd_bel_r (by omega)), fun _ h => absurd h List.not_mem_nil⟩) d_D_init_38 (ci := 2) (N := 4) (C := "SettingsDesk$Settings") (T := T_S) rfl ty_S ty_S_ok lay_S (List.mem_cons_of_mem _ q625) (List.mem_cons_of_mem _ q602) (List.mem_cons_of_mem _ q7) (sd_nr rfl) (by decide +kernel) rfl rfl (fun ad10 L10 M10 hA10 hl10 hu10 hy10 hq10 e10 => ?_)
  have hw := hw M10 e10
  clear e10
  have hlo : L10 0 = sd_O 0 [some (some 1), some (some 25), some (some 30), some none, some none, some none, some none, none, none, none, none, none] := (hu10.2 0 (by omega)).trans hlo
  have hs2 : isC 36 L10 dA := hs2.cg (by omega) (fun k h1 h2 => hu10.2 k (by omega))
  have hs5 : isS 36 L10 dA 25 := hs5.cg (by omega) (fun k h1 h2 => hu10.2 k (by omega))
  have hs8 : isS 36 L10 dA 30 := hs8.cg (by omega) (fun k h1 h2 => hu10.2 k (by omega))
  refine x_dup d_D_init_41 rfl ?_
  refine x_callIg (As := []) (t := 35) (rest := [.ref 35, .ref 0]) (rc := 76) (rs := 4168) (na := 0) (host := "SettingsDesk") (c_S_init (o := 35) hA10 hT hl10 hy10 hw) (sd_goodB q603) ⟨_, rfl⟩ (List.mem_cons_of_mem _ q7) (List.mem_cons_of_mem _ q604) (Or.inl (List.mem_cons_of_mem _ q626)) ⟨rfl, by decide, by decide, by decide +kernel⟩ ⟨rfl, rfl, rfl, rfl⟩ ⟨by decide, by decide⟩ d_D_init_42 rfl rfl (Nat.le_of_ble_eq_true rfl) (fun _ _ h => h) (fun v M11 H11 hq9 hF9 => ?_)
  obtain ⟨ad11, L11, hq11, hA11, hl11, hk11, hs11, hH11⟩ := hF9
  refine ⟨hq9.1, 40, ad11, L11, hH11, sd_l_ext hq11 (List.forall_mem_cons.mpr ⟨(sd_bel_r (by omega)), fun _ h => absurd h List.not_mem_nil⟩), sd_map_ext hq11 (List.forall_mem_cons.mpr ⟨(sd_bel_r (by omega)), List.forall_mem_cons.mpr ⟨(sd_bel_r (by omega)), fun _ h => absurd h List.not_mem_nil⟩⟩), ?_⟩
  have hw := hq9.2
  clear hq9
  clear hH11
  have hlo : L11 0 = sd_O 0 [some (some 1), some (some 25), some (some 30), some none, some none, some none, some none, none, none, none, none, none] := (hk11 0 (by omega)).trans hlo
  have hs2 : isC 40 L11 dA := hs2.cg (by omega) (fun k h1 h2 => hk11 k (by omega))
  have hs5 : isS 40 L11 dA 25 := hs5.cg (by omega) (fun k h1 h2 => hk11 k (by omega))
  have hs8 : isS 40 L11 dA 30 := hs8.cg (by omega) (fun k h1 h2 => hk11 k (by omega))
  refine x_putr 3 35 (ty := .object "SettingsDesk$Settings") hA11 (fun _ _ _ _ _ _ h => h.2.2.2.2 y_D_init _ _ _ _ rfl) d_D_init_45 (by omega) hlo (Nat.le_of_ble_eq_true rfl) rfl (by decide) lay_D (List.mem_cons_of_mem _ q423) rfl ty_D ty_D_ok nm_D rfl rfl (by decide +kernel) rfl rfl ?_
  obtain ⟨L12, hL12⟩ : ∃ z, z = va_up L11 0 (sd_O 0 [some (some 1), some (some 25), some (some 30), some (some 35), some none, some none, some none, none, none, none, none, none]) := ⟨_, rfl⟩
  show sdW l (sdE0 sc) Y_D_init D (sd_tys dA) b _ _ (va_up L11 0 (sd_O 0 [some (some 1), some (some 25), some (some 30), some (some 35), some none, some none, some none, none, none, none, none, none])) ad _ _ _ _ _ _ _ _ _
  rw [← hL12]
  have hn12 : ∀ k, k ≠ 0 → L12 k = L11 k := fun k h => by rw [hL12]; exact va_up_ne _ _ h
  have hl12 : sd_loc 40 L12 := by rw [hL12]; exact sd_loc_at hl11 (fun a a2 f e => by show (Sum.inr (0, sd_fv a f 0 [some (some 1), some (some 25), some (some 30), some (some 35), some none, some none, some none, none, none, none, none, none]) : va_E) = Sum.inr (0, sd_fv a2 f 0 [some (some 1), some (some 25), some (some 30), some (some 35), some none, some none, some none, none, none, none, none, none]); simp only [sd_fv, sd_fx]; rw [e 1 (by omega), e 25 (by omega), e 30 (by omega), e 35 (by omega)])
  have hlo : L12 0 = sd_O 0 [some (some 1), some (some 25), some (some 30), some (some 35), some none, some none, some none, none, none, none, none, none] := by rw [hL12]; exact va_up_self _ _ _
  clear hL12
  have hs2 : isC 40 L12 dA := hs2.cg (by omega) (fun k h1 h2 => hn12 k (by omega))
  have hs5 : isS 40 L12 dA 25 := hs5.cg (by omega) (fun k h1 h2 => hn12 k (by omega))
  have hs8 : isS 40 L12 dA 30 := hs8.cg (by omega) (fun k h1 h2 => hn12 k (by omega))
  have hs11 : isS 40 L12 dA 35 := hs11.cg (by omega) (fun k h1 h2 => hn12 k (by omega))
  refine x_aload_n 0 0 d_D_init_48 rfl rfl ?_
  refine x_bipush (v := 8) d_D_init_49 (by decide) ?_
  refine x_newQ (rc := 75) (rs := 4160) (n := 40) (t0 := 5) (len := 8) hA11 hl12 (List.forall_mem_cons.mpr ⟨(sd_bel_r (by omega)), fun _ h => absurd h List.not_mem_nil⟩) (List.forall_mem_cons.mpr ⟨(sd_bel_r (by omega)), fun _ h => absurd h List.not_mem_nil⟩) d_D_init_51 (List.mem_cons_of_mem _ q625) (List.mem_cons_of_mem _ q627) rfl (by decide) (by decide) (by decide) rfl rfl (fun ad13 M13 hA13 hl13 hu13 hq13 e13 => ?_)
  have hw := hw M13 e13
  clear e13
  have hy13 : va_up L12 40 (sd_P (dA 5) 8 (fun _ => none)) 40 = (sd_P (dA 5) 8 (fun _ => none)) := va_up_self _ _ _
  generalize va_up L12 40 (sd_P (dA 5) 8 (fun _ => none)) = L13 at hl13 hu13 hy13 ⊢
  have hlo : L13 0 = sd_O 0 [some (some 1), some (some 25), some (some 30), some (some 35), some none, some none, some none, none, none, none, none, none] := (hu13.2 0 (by omega)).trans hlo
  have hs2 : isC 41 L13 dA := hs2.cg (by omega) (fun k h1 h2 => hu13.2 k (by omega))
  have hs5 : isS 41 L13 dA 25 := hs5.cg (by omega) (fun k h1 h2 => hu13.2 k (by omega))
  have hs8 : isS 41 L13 dA 30 := hs8.cg (by omega) (fun k h1 h2 => hu13.2 k (by omega))
  have hs11 : isS 41 L13 dA 35 := hs11.cg (by omega) (fun k h1 h2 => hu13.2 k (by omega))
  refine x_putr 4 40 (ty := .array (.object "SettingsDesk$Settings")) hA13 (fun _ _ _ _ _ _ h => h.2.2.2.2 y_D_init _ _ _ _ rfl) d_D_init_54 (by omega) hlo (Nat.le_of_ble_eq_true rfl) rfl (by decide) lay_D (List.mem_cons_of_mem _ q254) rfl ty_D ty_D_ok nm_D rfl rfl (by decide +kernel) rfl rfl ?_
  obtain ⟨L14, hL14⟩ : ∃ z, z = va_up L13 0 (sd_O 0 [some (some 1), some (some 25), some (some 30), some (some 35), some (some 40), some none, some none, none, none, none, none, none]) := ⟨_, rfl⟩
  show sdW l (sdE0 sc) Y_D_init D (sd_tys dA) b _ _ (va_up L13 0 (sd_O 0 [some (some 1), some (some 25), some (some 30), some (some 35), some (some 40), some none, some none, none, none, none, none, none])) ad _ _ _ _ _ _ _ _ _
  rw [← hL14]
  have hn14 : ∀ k, k ≠ 0 → L14 k = L13 k := fun k h => by rw [hL14]; exact va_up_ne _ _ h
  have hl14 : sd_loc 41 L14 := by rw [hL14]; exact sd_loc_at hl13 (fun a a2 f e => by show (Sum.inr (0, sd_fv a f 0 [some (some 1), some (some 25), some (some 30), some (some 35), some (some 40), some none, some none, none, none, none, none, none]) : va_E) = Sum.inr (0, sd_fv a2 f 0 [some (some 1), some (some 25), some (some 30), some (some 35), some (some 40), some none, some none, none, none, none, none, none]); simp only [sd_fv, sd_fx]; rw [e 1 (by omega), e 25 (by omega), e 30 (by omega), e 35 (by omega), e 40 (by omega)])
  have hlo : L14 0 = sd_O 0 [some (some 1), some (some 25), some (some 30), some (some 35), some (some 40), some none, some none, none, none, none, none, none] := by rw [hL14]; exact va_up_self _ _ _
  clear hL14
  have hs2 : isC 41 L14 dA := hs2.cg (by omega) (fun k h1 h2 => hn14 k (by omega))
  have hs5 : isS 41 L14 dA 25 := hs5.cg (by omega) (fun k h1 h2 => hn14 k (by omega))
  have hs8 : isS 41 L14 dA 30 := hs8.cg (by omega) (fun k h1 h2 => hn14 k (by omega))
  have hs11 : isS 41 L14 dA 35 := hs11.cg (by omega) (fun k h1 h2 => hn14 k (by omega))
  have hy13 : L14 40 = (sd_P (dA 5) 8 (fun _ => none)) := (hn14 40 (by omega)).trans hy13
  refine x_aload_n 0 0 d_D_init_57 rfl rfl ?_
  refine x_iconst (v := 3) d_D_init_58 (by decide) ?_
  refine x_newQ (rc := 74) (rs := 4157) (n := 41) (t0 := 6) (len := 3) hA13 hl14 (List.forall_mem_cons.mpr ⟨(sd_bel_r (by omega)), fun _ h => absurd h List.not_mem_nil⟩) (List.forall_mem_cons.mpr ⟨(sd_bel_r (by omega)), fun _ h => absurd h List.not_mem_nil⟩) d_D_init_59 (List.mem_cons_of_mem _ q628) (List.mem_cons_of_mem _ q629) rfl (by decide) (by decide) (by decide) rfl rfl (fun ad15 M15 hA15 hl15 hu15 hq15 e15 => ?_)
  have hw := hw M15 e15
  clear e15
  have hy15 : va_up L14 41 (sd_P (dA 6) 3 (fun _ => none)) 41 = (sd_P (dA 6) 3 (fun _ => none)) := va_up_self _ _ _
  generalize va_up L14 41 (sd_P (dA 6) 3 (fun _ => none)) = L15 at hl15 hu15 hy15 ⊢
  have hlo : L15 0 = sd_O 0 [some (some 1), some (some 25), some (some 30), some (some 35), some (some 40), some none, some none, none, none, none, none, none] := (hu15.2 0 (by omega)).trans hlo
  have hs2 : isC 42 L15 dA := hs2.cg (by omega) (fun k h1 h2 => hu15.2 k (by omega))
  have hs5 : isS 42 L15 dA 25 := hs5.cg (by omega) (fun k h1 h2 => hu15.2 k (by omega))
  have hs8 : isS 42 L15 dA 30 := hs8.cg (by omega) (fun k h1 h2 => hu15.2 k (by omega))
  have hs11 : isS 42 L15 dA 35 := hs11.cg (by omega) (fun k h1 h2 => hu15.2 k (by omega))
  have hy13 : L15 40 = (sd_P (dA 5) 8 (fun _ => none)) := (hu15.2 40 (by omega)).trans hy13
  refine x_putr 5 41 (ty := .array (.object "SettingsDesk$Session")) hA15 (fun _ _ _ _ _ _ h => h.2.2.2.2 y_D_init _ _ _ _ rfl) d_D_init_62 (by omega) hlo (Nat.le_of_ble_eq_true rfl) rfl (by decide) lay_D (List.mem_cons_of_mem _ q268) rfl ty_D ty_D_ok nm_D rfl rfl (by decide +kernel) rfl rfl ?_
  obtain ⟨L16, hL16⟩ : ∃ z, z = va_up L15 0 (sd_O 0 [some (some 1), some (some 25), some (some 30), some (some 35), some (some 40), some (some 41), some none, none, none, none, none, none]) := ⟨_, rfl⟩
  show sdW l (sdE0 sc) Y_D_init D (sd_tys dA) b _ _ (va_up L15 0 (sd_O 0 [some (some 1), some (some 25), some (some 30), some (some 35), some (some 40), some (some 41), some none, none, none, none, none, none])) ad _ _ _ _ _ _ _ _ _
  rw [← hL16]
  have hn16 : ∀ k, k ≠ 0 → L16 k = L15 k := fun k h => by rw [hL16]; exact va_up_ne _ _ h
  have hl16 : sd_loc 42 L16 := by rw [hL16]; exact sd_loc_at hl15 (fun a a2 f e => by show (Sum.inr (0, sd_fv a f 0 [some (some 1), some (some 25), some (some 30), some (some 35), some (some 40), some (some 41), some none, none, none, none, none, none]) : va_E) = Sum.inr (0, sd_fv a2 f 0 [some (some 1), some (some 25), some (some 30), some (some 35), some (some 40), some (some 41), some none, none, none, none, none, none]); simp only [sd_fv, sd_fx]; rw [e 1 (by omega), e 25 (by omega), e 30 (by omega), e 35 (by omega), e 40 (by omega), e 41 (by omega)])
  have hlo : L16 0 = sd_O 0 [some (some 1), some (some 25), some (some 30), some (some 35), some (some 40), some (some 41), some none, none, none, none, none, none] := by rw [hL16]; exact va_up_self _ _ _
  clear hL16
  have hs2 : isC 42 L16 dA := hs2.cg (by omega) (fun k h1 h2 => hn16 k (by omega))
  have hs5 : isS 42 L16 dA 25 := hs5.cg (by omega) (fun k h1 h2 => hn16 k (by omega))
  have hs8 : isS 42 L16 dA 30 := hs8.cg (by omega) (fun k h1 h2 => hn16 k (by omega))
  have hs11 : isS 42 L16 dA 35 := hs11.cg (by omega) (fun k h1 h2 => hn16 k (by omega))
  have hy13 : L16 40 = (sd_P (dA 5) 8 (fun _ => none)) := (hn16 40 (by omega)).trans hy13
  have hy15 : L16 41 = (sd_P (dA 6) 3 (fun _ => none)) := (hn16 41 (by omega)).trans hy15
  refine x_aload_n 0 0 d_D_init_65 rfl rfl ?_
  refine x_new (rc := 73) (rs := 4153) (n := 42) [none, none, none, none] hA15 hl16 (List.forall_mem_cons.mpr ⟨(sd_bel_r (by omega)), fun _ h => absurd h List.not_mem_nil⟩) (List.forall_mem_cons.mpr ⟨(sd_bel_r (by omega)), fun _ h => absurd h List.not_mem_nil⟩) d_D_init_66 (ci := 4) (N := 4) (C := "SettingsDesk$Trouble") (T := T_T) rfl ty_T ty_T_ok lay_T (List.mem_cons_of_mem _ q410) (List.mem_cons_of_mem _ q411) (List.mem_cons_of_mem _ q123) (sd_nr rfl) (by decide +kernel) rfl rfl (fun ad17 L17 M17 hA17 hl17 hu17 hy17 hq17 e17 => ?_)
  have hw := hw M17 e17
  clear e17
  have hlo : L17 0 = sd_O 0 [some (some 1), some (some 25), some (some 30), some (some 35), some (some 40), some (some 41), some none, none, none, none, none, none] := (hu17.2 0 (by omega)).trans hlo
  have hs2 : isC 43 L17 dA := hs2.cg (by omega) (fun k h1 h2 => hu17.2 k (by omega))
  have hs5 : isS 43 L17 dA 25 := hs5.cg (by omega) (fun k h1 h2 => hu17.2 k (by omega))
  have hs8 : isS 43 L17 dA 30 := hs8.cg (by omega) (fun k h1 h2 => hu17.2 k (by omega))
  have hs11 : isS 43 L17 dA 35 := hs11.cg (by omega) (fun k h1 h2 => hu17.2 k (by omega))
  have hy13 : L17 40 = (sd_P (dA 5) 8 (fun _ => none)) := (hu17.2 40 (by omega)).trans hy13
  have hy15 : L17 41 = (sd_P (dA 6) 3 (fun _ => none)) := (hu17.2 41 (by omega)).trans hy15
  refine x_dup d_D_init_69 rfl ?_
  refine x_callIv (As := []) (t := 42) (rest := [.ref 42, .ref 0]) (rc := 73) (rs := 4153) (L2 := L17) (na := 0) (host := "SettingsDesk") (c_T_init hA17 hT ⟨by omega, hy17⟩ hw) (sd_goodB q412) ⟨_, rfl⟩ (List.mem_cons_of_mem _ q123) (List.mem_cons_of_mem _ q413) (Or.inr (List.mem_of_getElem? (i := 2) rfl)) ⟨rfl, by decide, by decide, by decide +kernel⟩ ⟨rfl, rfl, rfl, rfl⟩ ⟨by decide, by decide⟩ d_D_init_70 rfl rfl (Nat.le_of_ble_eq_true rfl) (fun M18 hw => ?_)
  have ht18 : isT 43 L17 42 := ⟨by omega, hy17⟩
  refine x_putr 6 42 (ty := .object "SettingsDesk$Trouble") hA17 (fun _ _ _ _ _ _ h => h.2.2.2.2 y_D_init _ _ _ _ rfl) d_D_init_73 (by omega) hlo (Nat.le_of_ble_eq_true rfl) rfl (by decide) lay_D (List.mem_cons_of_mem _ q276) rfl ty_D ty_D_ok nm_D rfl rfl (by decide +kernel) rfl rfl ?_
  obtain ⟨L19, hL19⟩ : ∃ z, z = va_up L17 0 (sd_O 0 [some (some 1), some (some 25), some (some 30), some (some 35), some (some 40), some (some 41), some (some 42), none, none, none, none, none]) := ⟨_, rfl⟩
  show sdW l (sdE0 sc) Y_D_init D (sd_tys dA) b _ _ (va_up L17 0 (sd_O 0 [some (some 1), some (some 25), some (some 30), some (some 35), some (some 40), some (some 41), some (some 42), none, none, none, none, none])) ad _ _ _ _ _ _ _ _ _
  rw [← hL19]
  have hn19 : ∀ k, k ≠ 0 → L19 k = L17 k := fun k h => by rw [hL19]; exact va_up_ne _ _ h
  have hl19 : sd_loc 43 L19 := by rw [hL19]; exact sd_loc_at hl17 (fun a a2 f e => by show (Sum.inr (0, sd_fv a f 0 [some (some 1), some (some 25), some (some 30), some (some 35), some (some 40), some (some 41), some (some 42), none, none, none, none, none]) : va_E) = Sum.inr (0, sd_fv a2 f 0 [some (some 1), some (some 25), some (some 30), some (some 35), some (some 40), some (some 41), some (some 42), none, none, none, none, none]); simp only [sd_fv, sd_fx]; rw [e 1 (by omega), e 25 (by omega), e 30 (by omega), e 35 (by omega), e 40 (by omega), e 41 (by omega), e 42 (by omega)])
  have hlo : L19 0 = sd_O 0 [some (some 1), some (some 25), some (some 30), some (some 35), some (some 40), some (some 41), some (some 42), none, none, none, none, none] := by rw [hL19]; exact va_up_self _ _ _
  clear hL19
  have hs2 : isC 43 L19 dA := hs2.cg (by omega) (fun k h1 h2 => hn19 k (by omega))
  have hs5 : isS 43 L19 dA 25 := hs5.cg (by omega) (fun k h1 h2 => hn19 k (by omega))
  have hs8 : isS 43 L19 dA 30 := hs8.cg (by omega) (fun k h1 h2 => hn19 k (by omega))
  have hs11 : isS 43 L19 dA 35 := hs11.cg (by omega) (fun k h1 h2 => hn19 k (by omega))
  have hy13 : L19 40 = (sd_P (dA 5) 8 (fun _ => none)) := (hn19 40 (by omega)).trans hy13
  have hy15 : L19 41 = (sd_P (dA 6) 3 (fun _ => none)) := (hn19 41 (by omega)).trans hy15
  have hy17 : L19 42 = sd_O 4 [none, none, none, none] := (hn19 42 (by omega)).trans hy17
  have ht18 : isT 43 L19 42 := ⟨Nat.lt_of_lt_of_le ht18.1 (by omega), (hn19 42 (by omega)).trans ht18.2⟩
  refine x_aload_n 0 0 d_D_init_76 rfl rfl ?_
  refine x_iconst (v := 0) d_D_init_77 (by decide) ?_
  refine x_puti 7 (ty := .int) hA17 d_D_init_78 (by omega) hlo rfl rfl (by decide) lay_D (List.mem_cons_of_mem _ q255) rfl ty_D ty_D_ok nm_D rfl (by decide +kernel) rfl rfl (fun M20 e20 => ?_)
  have hw := hw M20 e20
  clear e20
  refine x_aload_n 0 0 d_D_init_81 rfl rfl ?_
  refine x_iconst (v := 0) d_D_init_82 (by decide) ?_
  refine x_puti 8 (ty := .int) hA17 d_D_init_83 (by omega) hlo rfl rfl (by decide) lay_D (List.mem_cons_of_mem _ q267) rfl ty_D ty_D_ok nm_D rfl (by decide +kernel) rfl rfl (fun M21 e21 => ?_)
  have hw := hw M21 e21
  clear e21
  refine x_aload_n 0 0 d_D_init_86 rfl rfl ?_
  refine x_iconst (v := (-1)) d_D_init_87 (by decide) ?_
  refine x_puti 9 (ty := .int) hA17 d_D_init_88 (by omega) hlo rfl rfl (by decide) lay_D (List.mem_cons_of_mem _ q266) rfl ty_D ty_D_ok nm_D rfl (by decide +kernel) rfl rfl (fun M22 e22 => ?_)
  have hw := hw M22 e22
  clear e22
  refine x_aload_n 0 0 d_D_init_91 rfl rfl ?_
  refine x_iconst (v := 0) d_D_init_92 (by decide) ?_
  obtain ⟨hb23, hw⟩ := hw
  refine x_puti 10 (ty := .boolean) hA17 d_D_init_93 (by omega) hlo rfl rfl (by decide) lay_D (List.mem_cons_of_mem _ q264) rfl ty_D ty_D_ok nm_D rfl (by decide +kernel) (sdB_n hb23) (sdB_f hb23) (fun M23 e23 => ?_)
  have hw := hw M23 e23
  clear e23
  refine x_aload_n 0 0 d_D_init_96 rfl rfl ?_
  refine x_iconst (v := (-1)) d_D_init_97 (by decide) ?_
  refine x_puti 11 (ty := .int) hA17 d_D_init_98 (by omega) hlo rfl rfl (by decide) lay_D (List.mem_cons_of_mem _ q394) rfl ty_D ty_D_ok nm_D rfl (by decide +kernel) rfl rfl (fun M24 e24 => ?_)
  have hw := hw M24 e24
  clear e24
  refine x_iconst (v := 0) d_D_init_101 (by decide) ?_
  refine x_istore_n 1 [(1, .int 0), (0, .ref 0)] d_D_init_102 rfl (by decide) rfl ?_
  refine x_iload_n 1 0 d_D_init_103 rfl rfl ?_
  refine x_bipush (v := 8) d_D_init_104 (by decide) ?_
  refine x_icmp_ge 128 d_D_init_106 rfl (fun hc => absurd hc (by decide)) (fun _ => ?_)
  refine x_aload_n 0 1 d_D_init_109 rfl rfl ?_
  refine x_getr 4 40 d_D_init_110 (by omega) hlo rfl rfl (by decide) lay_D (List.mem_cons_of_mem _ q254) rfl ?_
  refine x_iload_n 1 0 d_D_init_113 rfl rfl ?_
  refine x_new (rc := 72) (rs := 4149) (n := 43) [some none, some none, some none, some none] hA17 hl19 (List.forall_mem_cons.mpr ⟨sd_bel_i, List.forall_mem_cons.mpr ⟨(sd_bel_r (by omega)), fun _ h => absurd h List.not_mem_nil⟩⟩) (List.forall_mem_cons.mpr ⟨sd_bel_i, List.forall_mem_cons.mpr ⟨(sd_bel_r (by omega)), fun _ h => absurd h List.not_mem_nil⟩⟩) d_D_init_114 (ci := 2) (N := 4) (C := "SettingsDesk$Settings") (T := T_S) rfl ty_S ty_S_ok lay_S (List.mem_cons_of_mem _ q625) (List.mem_cons_of_mem _ q602) (List.mem_cons_of_mem _ q7) (sd_nr rfl) (by decide +kernel) rfl rfl (fun ad25 L25 M25 hA25 hl25 hu25 hy25 hq25 e25 => ?_)
  have hw := hw M25 e25
  clear e25
  have hlo : L25 0 = sd_O 0 [some (some 1), some (some 25), some (some 30), some (some 35), some (some 40), some (some 41), some (some 42), none, none, none, none, none] := (hu25.2 0 (by omega)).trans hlo
  have hs2 : isC 44 L25 dA := hs2.cg (by omega) (fun k h1 h2 => hu25.2 k (by omega))
  have hs5 : isS 44 L25 dA 25 := hs5.cg (by omega) (fun k h1 h2 => hu25.2 k (by omega))
  have hs8 : isS 44 L25 dA 30 := hs8.cg (by omega) (fun k h1 h2 => hu25.2 k (by omega))
  have hs11 : isS 44 L25 dA 35 := hs11.cg (by omega) (fun k h1 h2 => hu25.2 k (by omega))
  have hy13 : L25 40 = (sd_P (dA 5) 8 (fun _ => none)) := (hu25.2 40 (by omega)).trans hy13
  have hy15 : L25 41 = (sd_P (dA 6) 3 (fun _ => none)) := (hu25.2 41 (by omega)).trans hy15
  have hy17 : L25 42 = sd_O 4 [none, none, none, none] := (hu25.2 42 (by omega)).trans hy17
  have ht18 : isT 44 L25 42 := ⟨Nat.lt_of_lt_of_le ht18.1 (by omega), (hu25.2 42 (by omega)).trans ht18.2⟩
  refine x_dup d_D_init_117 rfl ?_
  refine x_callIg (As := []) (t := 43) (rest := [.ref 43, .int 0, .ref 40]) (rc := 68) (rs := 3857) (na := 0) (host := "SettingsDesk") (c_S_init (o := 43) hA25 hT hl25 hy25 hw) (sd_goodB q603) ⟨_, rfl⟩ (List.mem_cons_of_mem _ q7) (List.mem_cons_of_mem _ q604) (Or.inl (List.mem_cons_of_mem _ q626)) ⟨rfl, by decide, by decide, by decide +kernel⟩ ⟨rfl, rfl, rfl, rfl⟩ ⟨by decide, by decide⟩ d_D_init_118 rfl rfl (Nat.le_of_ble_eq_true rfl) (fun _ _ h => h) (fun v M26 H26 hq9 hF9 => ?_)
  obtain ⟨ad26, L26, hq26, hA26, hl26, hk26, hs26, hH26⟩ := hF9
  refine ⟨hq9.1, 48, ad26, L26, hH26, sd_l_ext hq26 (List.forall_mem_cons.mpr ⟨sd_bel_i, List.forall_mem_cons.mpr ⟨(sd_bel_r (by omega)), fun _ h => absurd h List.not_mem_nil⟩⟩), sd_map_ext hq26 (List.forall_mem_cons.mpr ⟨(sd_bel_r (by omega)), List.forall_mem_cons.mpr ⟨sd_bel_i, List.forall_mem_cons.mpr ⟨(sd_bel_r (by omega)), fun _ h => absurd h List.not_mem_nil⟩⟩⟩), ?_⟩
  have hw := hq9.2
  clear hq9
  clear hH26
  have hlo : L26 0 = sd_O 0 [some (some 1), some (some 25), some (some 30), some (some 35), some (some 40), some (some 41), some (some 42), none, none, none, none, none] := (hk26 0 (by omega)).trans hlo
  have hs2 : isC 48 L26 dA := hs2.cg (by omega) (fun k h1 h2 => hk26 k (by omega))
  have hs5 : isS 48 L26 dA 25 := hs5.cg (by omega) (fun k h1 h2 => hk26 k (by omega))
  have hs8 : isS 48 L26 dA 30 := hs8.cg (by omega) (fun k h1 h2 => hk26 k (by omega))
  have hs11 : isS 48 L26 dA 35 := hs11.cg (by omega) (fun k h1 h2 => hk26 k (by omega))
  have hy13 : L26 40 = (sd_P (dA 5) 8 (fun _ => none)) := (hk26 40 (by omega)).trans hy13
  have hy15 : L26 41 = (sd_P (dA 6) 3 (fun _ => none)) := (hk26 41 (by omega)).trans hy15
  have hy17 : L26 42 = sd_O 4 [none, none, none, none] := (hk26 42 (by omega)).trans hy17
  have ht18 : isT 48 L26 42 := ⟨Nat.lt_of_lt_of_le ht18.1 (by omega), (hk26 42 (by omega)).trans ht18.2⟩
  have hfS : ∀ j, j < 1 → isS 48 L26 dA (43 + 5 * j) := fun j hj => by obtain rfl : j = 0 := by omega; exact hs26
  refine x_aast (t0 := 5) (u := 43) hA26 d_D_init_121 (by omega) hy13 (by omega) (hfS 0 (by decide)).2.1 rfl rfl (vp_in_nI (n := 0) (N := 8) (by decide) (by decide)) ?_
  obtain ⟨L27, hL27⟩ : ∃ z, z = va_up L26 40 (sd_P (dA 5) 8 (va_up (fun _ => none) 0 (some 43))) := ⟨_, rfl⟩
  show sdW l (sdE0 sc) Y_D_init D (sd_tys dA) b _ _ (va_up L26 40 (sd_P (dA 5) 8 (va_up (fun _ => none) 0 (some 43)))) ad _ _ _ _ _ _ _ _ _
  rw [← hL27]
  have hn27 : ∀ k, k ≠ 40 → L27 k = L26 k := fun k h => by rw [hL27]; exact va_up_ne _ _ h
  have hy27 : L27 40 = (sd_P (dA 5) 8 (va_up (fun _ => none) 0 (some 43))) := by rw [hL27]; exact va_up_self _ _ _
  have hl27 : sd_loc 48 L27 := by rw [hL27]; exact sd_loc_at hl26 (sd_P_loc (sd_Pl_up sd_Pl_none (by omega)))
  clear hL27
  have hlo : L27 0 = sd_O 0 [some (some 1), some (some 25), some (some 30), some (some 35), some (some 40), some (some 41), some (some 42), none, none, none, none, none] := (hn27 0 (by omega)).trans hlo
  have hs2 : isC 48 L27 dA := hs2.cg (by omega) (fun k h1 h2 => hn27 k (by omega))
  have hs5 : isS 48 L27 dA 25 := hs5.cg (by omega) (fun k h1 h2 => hn27 k (by omega))
  have hs8 : isS 48 L27 dA 30 := hs8.cg (by omega) (fun k h1 h2 => hn27 k (by omega))
  have hs11 : isS 48 L27 dA 35 := hs11.cg (by omega) (fun k h1 h2 => hn27 k (by omega))
  have hy15 : L27 41 = (sd_P (dA 6) 3 (fun _ => none)) := (hn27 41 (by omega)).trans hy15
  have hy17 : L27 42 = sd_O 4 [none, none, none, none] := (hn27 42 (by omega)).trans hy17
  have ht18 : isT 48 L27 42 := ⟨Nat.lt_of_lt_of_le ht18.1 (by omega), (hn27 42 (by omega)).trans ht18.2⟩
  have hfS : ∀ j, j < 1 → isS 48 L27 dA (43 + 5 * j) := fun j hj => (hfS j hj).cg (by omega) (fun k h1 h2 => hn27 k (by omega))
  refine x_iinc 1 0 [(1, .int 1), (0, .ref 0)] d_D_init_122 rfl (by decide) (by decide) rfl ?_
  refine x_goto 103 d_D_init_125 rfl ?_
  refine x_iload_n 1 0 d_D_init_103 rfl rfl ?_
  refine x_bipush (v := 8) d_D_init_104 (by decide) ?_
  refine x_icmp_ge 128 d_D_init_106 rfl (fun hc => absurd hc (by decide)) (fun _ => ?_)
  refine x_aload_n 0 1 d_D_init_109 rfl rfl ?_
  refine x_getr 4 40 d_D_init_110 (by omega) hlo rfl rfl (by decide) lay_D (List.mem_cons_of_mem _ q254) rfl ?_
  refine x_iload_n 1 0 d_D_init_113 rfl rfl ?_
  refine x_new (rc := 67) (rs := 3853) (n := 48) [some none, some none, some none, some none] hA26 hl27 (List.forall_mem_cons.mpr ⟨sd_bel_i, List.forall_mem_cons.mpr ⟨(sd_bel_r (by omega)), fun _ h => absurd h List.not_mem_nil⟩⟩) (List.forall_mem_cons.mpr ⟨sd_bel_i, List.forall_mem_cons.mpr ⟨(sd_bel_r (by omega)), fun _ h => absurd h List.not_mem_nil⟩⟩) d_D_init_114 (ci := 2) (N := 4) (C := "SettingsDesk$Settings") (T := T_S) rfl ty_S ty_S_ok lay_S (List.mem_cons_of_mem _ q625) (List.mem_cons_of_mem _ q602) (List.mem_cons_of_mem _ q7) (sd_nr rfl) (by decide +kernel) rfl rfl (fun ad28 L28 M28 hA28 hl28 hu28 hy28 hq28 e28 => ?_)
  have hw := hw M28 e28
  clear e28
  have hlo : L28 0 = sd_O 0 [some (some 1), some (some 25), some (some 30), some (some 35), some (some 40), some (some 41), some (some 42), none, none, none, none, none] := (hu28.2 0 (by omega)).trans hlo
  have hs2 : isC 49 L28 dA := hs2.cg (by omega) (fun k h1 h2 => hu28.2 k (by omega))
  have hs5 : isS 49 L28 dA 25 := hs5.cg (by omega) (fun k h1 h2 => hu28.2 k (by omega))
  have hs8 : isS 49 L28 dA 30 := hs8.cg (by omega) (fun k h1 h2 => hu28.2 k (by omega))
  have hs11 : isS 49 L28 dA 35 := hs11.cg (by omega) (fun k h1 h2 => hu28.2 k (by omega))
  have hy15 : L28 41 = (sd_P (dA 6) 3 (fun _ => none)) := (hu28.2 41 (by omega)).trans hy15
  have hy17 : L28 42 = sd_O 4 [none, none, none, none] := (hu28.2 42 (by omega)).trans hy17
  have ht18 : isT 49 L28 42 := ⟨Nat.lt_of_lt_of_le ht18.1 (by omega), (hu28.2 42 (by omega)).trans ht18.2⟩
  have hfS : ∀ j, j < 1 → isS 49 L28 dA (43 + 5 * j) := fun j hj => (hfS j hj).cg (by omega) (fun k h1 h2 => hu28.2 k (by omega))
  have hy27 : L28 40 = (sd_P (dA 5) 8 (va_up (fun _ => none) 0 (some 43))) := (hu28.2 40 (by omega)).trans hy27
  refine x_dup d_D_init_117 rfl ?_
  refine x_callIg (As := []) (t := 48) (rest := [.ref 48, .int 1, .ref 40]) (rc := 63) (rs := 3561) (na := 0) (host := "SettingsDesk") (c_S_init (o := 48) hA28 hT hl28 hy28 hw) (sd_goodB q603) ⟨_, rfl⟩ (List.mem_cons_of_mem _ q7) (List.mem_cons_of_mem _ q604) (Or.inl (List.mem_cons_of_mem _ q626)) ⟨rfl, by decide, by decide, by decide +kernel⟩ ⟨rfl, rfl, rfl, rfl⟩ ⟨by decide, by decide⟩ d_D_init_118 rfl rfl (Nat.le_of_ble_eq_true rfl) (fun _ _ h => h) (fun v M29 H29 hq9 hF9 => ?_)
  obtain ⟨ad29, L29, hq29, hA29, hl29, hk29, hs29, hH29⟩ := hF9
  refine ⟨hq9.1, 53, ad29, L29, hH29, sd_l_ext hq29 (List.forall_mem_cons.mpr ⟨sd_bel_i, List.forall_mem_cons.mpr ⟨(sd_bel_r (by omega)), fun _ h => absurd h List.not_mem_nil⟩⟩), sd_map_ext hq29 (List.forall_mem_cons.mpr ⟨(sd_bel_r (by omega)), List.forall_mem_cons.mpr ⟨sd_bel_i, List.forall_mem_cons.mpr ⟨(sd_bel_r (by omega)), fun _ h => absurd h List.not_mem_nil⟩⟩⟩), ?_⟩
  have hw := hq9.2
  clear hq9
  clear hH29
  have hlo : L29 0 = sd_O 0 [some (some 1), some (some 25), some (some 30), some (some 35), some (some 40), some (some 41), some (some 42), none, none, none, none, none] := (hk29 0 (by omega)).trans hlo
  have hs2 : isC 53 L29 dA := hs2.cg (by omega) (fun k h1 h2 => hk29 k (by omega))
  have hs5 : isS 53 L29 dA 25 := hs5.cg (by omega) (fun k h1 h2 => hk29 k (by omega))
  have hs8 : isS 53 L29 dA 30 := hs8.cg (by omega) (fun k h1 h2 => hk29 k (by omega))
  have hs11 : isS 53 L29 dA 35 := hs11.cg (by omega) (fun k h1 h2 => hk29 k (by omega))
  have hy15 : L29 41 = (sd_P (dA 6) 3 (fun _ => none)) := (hk29 41 (by omega)).trans hy15
  have hy17 : L29 42 = sd_O 4 [none, none, none, none] := (hk29 42 (by omega)).trans hy17
  have ht18 : isT 53 L29 42 := ⟨Nat.lt_of_lt_of_le ht18.1 (by omega), (hk29 42 (by omega)).trans ht18.2⟩
  have hfS : ∀ j, j < 1 → isS 53 L29 dA (43 + 5 * j) := fun j hj => (hfS j hj).cg (by omega) (fun k h1 h2 => hk29 k (by omega))
  have hy27 : L29 40 = (sd_P (dA 5) 8 (va_up (fun _ => none) 0 (some 43))) := (hk29 40 (by omega)).trans hy27
  have hfS : ∀ j, j < 2 → isS 53 L29 dA (43 + 5 * j) := fun j hj => by
    by_cases h9 : j = 1
    · subst h9; exact hs29
    · exact hfS j (by omega)
  refine x_aast (t0 := 5) (u := 48) hA29 d_D_init_121 (by omega) hy27 (by omega) (hfS 1 (by decide)).2.1 rfl rfl (vp_in_nI (n := 1) (N := 8) (by decide) (by decide)) ?_
  obtain ⟨L30, hL30⟩ : ∃ z, z = va_up L29 40 (sd_P (dA 5) 8 (va_up (va_up (fun _ => none) 0 (some 43)) 1 (some 48))) := ⟨_, rfl⟩
  show sdW l (sdE0 sc) Y_D_init D (sd_tys dA) b _ _ (va_up L29 40 (sd_P (dA 5) 8 (va_up (va_up (fun _ => none) 0 (some 43)) 1 (some 48)))) ad _ _ _ _ _ _ _ _ _
  rw [← hL30]
  have hn30 : ∀ k, k ≠ 40 → L30 k = L29 k := fun k h => by rw [hL30]; exact va_up_ne _ _ h
  have hy30 : L30 40 = (sd_P (dA 5) 8 (va_up (va_up (fun _ => none) 0 (some 43)) 1 (some 48))) := by rw [hL30]; exact va_up_self _ _ _
  have hl30 : sd_loc 53 L30 := by rw [hL30]; exact sd_loc_at hl29 (sd_P_loc (sd_Pl_up (sd_Pl_up sd_Pl_none (by omega)) (by omega)))
  clear hL30
  have hlo : L30 0 = sd_O 0 [some (some 1), some (some 25), some (some 30), some (some 35), some (some 40), some (some 41), some (some 42), none, none, none, none, none] := (hn30 0 (by omega)).trans hlo
  have hs2 : isC 53 L30 dA := hs2.cg (by omega) (fun k h1 h2 => hn30 k (by omega))
  have hs5 : isS 53 L30 dA 25 := hs5.cg (by omega) (fun k h1 h2 => hn30 k (by omega))
  have hs8 : isS 53 L30 dA 30 := hs8.cg (by omega) (fun k h1 h2 => hn30 k (by omega))
  have hs11 : isS 53 L30 dA 35 := hs11.cg (by omega) (fun k h1 h2 => hn30 k (by omega))
  have hy15 : L30 41 = (sd_P (dA 6) 3 (fun _ => none)) := (hn30 41 (by omega)).trans hy15
  have hy17 : L30 42 = sd_O 4 [none, none, none, none] := (hn30 42 (by omega)).trans hy17
  have ht18 : isT 53 L30 42 := ⟨Nat.lt_of_lt_of_le ht18.1 (by omega), (hn30 42 (by omega)).trans ht18.2⟩
  have hfS : ∀ j, j < 2 → isS 53 L30 dA (43 + 5 * j) := fun j hj => (hfS j hj).cg (by omega) (fun k h1 h2 => hn30 k (by omega))
  refine x_iinc 1 0 [(1, .int 2), (0, .ref 0)] d_D_init_122 rfl (by decide) (by decide) rfl ?_
  refine x_goto 103 d_D_init_125 rfl ?_
  refine x_iload_n 1 0 d_D_init_103 rfl rfl ?_
  refine x_bipush (v := 8) d_D_init_104 (by decide) ?_
  refine x_icmp_ge 128 d_D_init_106 rfl (fun hc => absurd hc (by decide)) (fun _ => ?_)
  refine x_aload_n 0 1 d_D_init_109 rfl rfl ?_
  refine x_getr 4 40 d_D_init_110 (by omega) hlo rfl rfl (by decide) lay_D (List.mem_cons_of_mem _ q254) rfl ?_
  refine x_iload_n 1 0 d_D_init_113 rfl rfl ?_
  refine x_new (rc := 62) (rs := 3557) (n := 53) [some none, some none, some none, some none] hA29 hl30 (List.forall_mem_cons.mpr ⟨sd_bel_i, List.forall_mem_cons.mpr ⟨(sd_bel_r (by omega)), fun _ h => absurd h List.not_mem_nil⟩⟩) (List.forall_mem_cons.mpr ⟨sd_bel_i, List.forall_mem_cons.mpr ⟨(sd_bel_r (by omega)), fun _ h => absurd h List.not_mem_nil⟩⟩) d_D_init_114 (ci := 2) (N := 4) (C := "SettingsDesk$Settings") (T := T_S) rfl ty_S ty_S_ok lay_S (List.mem_cons_of_mem _ q625) (List.mem_cons_of_mem _ q602) (List.mem_cons_of_mem _ q7) (sd_nr rfl) (by decide +kernel) rfl rfl (fun ad31 L31 M31 hA31 hl31 hu31 hy31 hq31 e31 => ?_)
  have hw := hw M31 e31
  clear e31
  have hlo : L31 0 = sd_O 0 [some (some 1), some (some 25), some (some 30), some (some 35), some (some 40), some (some 41), some (some 42), none, none, none, none, none] := (hu31.2 0 (by omega)).trans hlo
  have hs2 : isC 54 L31 dA := hs2.cg (by omega) (fun k h1 h2 => hu31.2 k (by omega))
  have hs5 : isS 54 L31 dA 25 := hs5.cg (by omega) (fun k h1 h2 => hu31.2 k (by omega))
  have hs8 : isS 54 L31 dA 30 := hs8.cg (by omega) (fun k h1 h2 => hu31.2 k (by omega))
  have hs11 : isS 54 L31 dA 35 := hs11.cg (by omega) (fun k h1 h2 => hu31.2 k (by omega))
  have hy15 : L31 41 = (sd_P (dA 6) 3 (fun _ => none)) := (hu31.2 41 (by omega)).trans hy15
  have hy17 : L31 42 = sd_O 4 [none, none, none, none] := (hu31.2 42 (by omega)).trans hy17
  have ht18 : isT 54 L31 42 := ⟨Nat.lt_of_lt_of_le ht18.1 (by omega), (hu31.2 42 (by omega)).trans ht18.2⟩
  have hfS : ∀ j, j < 2 → isS 54 L31 dA (43 + 5 * j) := fun j hj => (hfS j hj).cg (by omega) (fun k h1 h2 => hu31.2 k (by omega))
  have hy30 : L31 40 = (sd_P (dA 5) 8 (va_up (va_up (fun _ => none) 0 (some 43)) 1 (some 48))) := (hu31.2 40 (by omega)).trans hy30
  refine x_dup d_D_init_117 rfl ?_
  refine x_callIg (As := []) (t := 53) (rest := [.ref 53, .int 2, .ref 40]) (rc := 58) (rs := 3265) (na := 0) (host := "SettingsDesk") (c_S_init (o := 53) hA31 hT hl31 hy31 hw) (sd_goodB q603) ⟨_, rfl⟩ (List.mem_cons_of_mem _ q7) (List.mem_cons_of_mem _ q604) (Or.inl (List.mem_cons_of_mem _ q626)) ⟨rfl, by decide, by decide, by decide +kernel⟩ ⟨rfl, rfl, rfl, rfl⟩ ⟨by decide, by decide⟩ d_D_init_118 rfl rfl (Nat.le_of_ble_eq_true rfl) (fun _ _ h => h) (fun v M32 H32 hq9 hF9 => ?_)
  obtain ⟨ad32, L32, hq32, hA32, hl32, hk32, hs32, hH32⟩ := hF9
  refine ⟨hq9.1, 58, ad32, L32, hH32, sd_l_ext hq32 (List.forall_mem_cons.mpr ⟨sd_bel_i, List.forall_mem_cons.mpr ⟨(sd_bel_r (by omega)), fun _ h => absurd h List.not_mem_nil⟩⟩), sd_map_ext hq32 (List.forall_mem_cons.mpr ⟨(sd_bel_r (by omega)), List.forall_mem_cons.mpr ⟨sd_bel_i, List.forall_mem_cons.mpr ⟨(sd_bel_r (by omega)), fun _ h => absurd h List.not_mem_nil⟩⟩⟩), ?_⟩
  have hw := hq9.2
  clear hq9
  clear hH32
  have hlo : L32 0 = sd_O 0 [some (some 1), some (some 25), some (some 30), some (some 35), some (some 40), some (some 41), some (some 42), none, none, none, none, none] := (hk32 0 (by omega)).trans hlo
  have hs2 : isC 58 L32 dA := hs2.cg (by omega) (fun k h1 h2 => hk32 k (by omega))
  have hs5 : isS 58 L32 dA 25 := hs5.cg (by omega) (fun k h1 h2 => hk32 k (by omega))
  have hs8 : isS 58 L32 dA 30 := hs8.cg (by omega) (fun k h1 h2 => hk32 k (by omega))
  have hs11 : isS 58 L32 dA 35 := hs11.cg (by omega) (fun k h1 h2 => hk32 k (by omega))
  have hy15 : L32 41 = (sd_P (dA 6) 3 (fun _ => none)) := (hk32 41 (by omega)).trans hy15
  have hy17 : L32 42 = sd_O 4 [none, none, none, none] := (hk32 42 (by omega)).trans hy17
  have ht18 : isT 58 L32 42 := ⟨Nat.lt_of_lt_of_le ht18.1 (by omega), (hk32 42 (by omega)).trans ht18.2⟩
  have hfS : ∀ j, j < 2 → isS 58 L32 dA (43 + 5 * j) := fun j hj => (hfS j hj).cg (by omega) (fun k h1 h2 => hk32 k (by omega))
  have hy30 : L32 40 = (sd_P (dA 5) 8 (va_up (va_up (fun _ => none) 0 (some 43)) 1 (some 48))) := (hk32 40 (by omega)).trans hy30
  have hfS : ∀ j, j < 3 → isS 58 L32 dA (43 + 5 * j) := fun j hj => by
    by_cases h9 : j = 2
    · subst h9; exact hs32
    · exact hfS j (by omega)
  refine x_aast (t0 := 5) (u := 53) hA32 d_D_init_121 (by omega) hy30 (by omega) (hfS 2 (by decide)).2.1 rfl rfl (vp_in_nI (n := 2) (N := 8) (by decide) (by decide)) ?_
  obtain ⟨L33, hL33⟩ : ∃ z, z = va_up L32 40 (sd_P (dA 5) 8 (va_up (va_up (va_up (fun _ => none) 0 (some 43)) 1 (some 48)) 2 (some 53))) := ⟨_, rfl⟩
  show sdW l (sdE0 sc) Y_D_init D (sd_tys dA) b _ _ (va_up L32 40 (sd_P (dA 5) 8 (va_up (va_up (va_up (fun _ => none) 0 (some 43)) 1 (some 48)) 2 (some 53)))) ad _ _ _ _ _ _ _ _ _
  rw [← hL33]
  have hn33 : ∀ k, k ≠ 40 → L33 k = L32 k := fun k h => by rw [hL33]; exact va_up_ne _ _ h
  have hy33 : L33 40 = (sd_P (dA 5) 8 (va_up (va_up (va_up (fun _ => none) 0 (some 43)) 1 (some 48)) 2 (some 53))) := by rw [hL33]; exact va_up_self _ _ _
  have hl33 : sd_loc 58 L33 := by rw [hL33]; exact sd_loc_at hl32 (sd_P_loc (sd_Pl_up (sd_Pl_up (sd_Pl_up sd_Pl_none (by omega)) (by omega)) (by omega)))
  clear hL33
  have hlo : L33 0 = sd_O 0 [some (some 1), some (some 25), some (some 30), some (some 35), some (some 40), some (some 41), some (some 42), none, none, none, none, none] := (hn33 0 (by omega)).trans hlo
  have hs2 : isC 58 L33 dA := hs2.cg (by omega) (fun k h1 h2 => hn33 k (by omega))
  have hs5 : isS 58 L33 dA 25 := hs5.cg (by omega) (fun k h1 h2 => hn33 k (by omega))
  have hs8 : isS 58 L33 dA 30 := hs8.cg (by omega) (fun k h1 h2 => hn33 k (by omega))
  have hs11 : isS 58 L33 dA 35 := hs11.cg (by omega) (fun k h1 h2 => hn33 k (by omega))
  have hy15 : L33 41 = (sd_P (dA 6) 3 (fun _ => none)) := (hn33 41 (by omega)).trans hy15
  have hy17 : L33 42 = sd_O 4 [none, none, none, none] := (hn33 42 (by omega)).trans hy17
  have ht18 : isT 58 L33 42 := ⟨Nat.lt_of_lt_of_le ht18.1 (by omega), (hn33 42 (by omega)).trans ht18.2⟩
  have hfS : ∀ j, j < 3 → isS 58 L33 dA (43 + 5 * j) := fun j hj => (hfS j hj).cg (by omega) (fun k h1 h2 => hn33 k (by omega))
  refine x_iinc 1 0 [(1, .int 3), (0, .ref 0)] d_D_init_122 rfl (by decide) (by decide) rfl ?_
  refine x_goto 103 d_D_init_125 rfl ?_
  refine x_iload_n 1 0 d_D_init_103 rfl rfl ?_
  refine x_bipush (v := 8) d_D_init_104 (by decide) ?_
  refine x_icmp_ge 128 d_D_init_106 rfl (fun hc => absurd hc (by decide)) (fun _ => ?_)
  refine x_aload_n 0 1 d_D_init_109 rfl rfl ?_
  refine x_getr 4 40 d_D_init_110 (by omega) hlo rfl rfl (by decide) lay_D (List.mem_cons_of_mem _ q254) rfl ?_
  refine x_iload_n 1 0 d_D_init_113 rfl rfl ?_
  refine x_new (rc := 57) (rs := 3261) (n := 58) [some none, some none, some none, some none] hA32 hl33 (List.forall_mem_cons.mpr ⟨sd_bel_i, List.forall_mem_cons.mpr ⟨(sd_bel_r (by omega)), fun _ h => absurd h List.not_mem_nil⟩⟩) (List.forall_mem_cons.mpr ⟨sd_bel_i, List.forall_mem_cons.mpr ⟨(sd_bel_r (by omega)), fun _ h => absurd h List.not_mem_nil⟩⟩) d_D_init_114 (ci := 2) (N := 4) (C := "SettingsDesk$Settings") (T := T_S) rfl ty_S ty_S_ok lay_S (List.mem_cons_of_mem _ q625) (List.mem_cons_of_mem _ q602) (List.mem_cons_of_mem _ q7) (sd_nr rfl) (by decide +kernel) rfl rfl (fun ad34 L34 M34 hA34 hl34 hu34 hy34 hq34 e34 => ?_)
  have hw := hw M34 e34
  clear e34
  have hlo : L34 0 = sd_O 0 [some (some 1), some (some 25), some (some 30), some (some 35), some (some 40), some (some 41), some (some 42), none, none, none, none, none] := (hu34.2 0 (by omega)).trans hlo
  have hs2 : isC 59 L34 dA := hs2.cg (by omega) (fun k h1 h2 => hu34.2 k (by omega))
  have hs5 : isS 59 L34 dA 25 := hs5.cg (by omega) (fun k h1 h2 => hu34.2 k (by omega))
  have hs8 : isS 59 L34 dA 30 := hs8.cg (by omega) (fun k h1 h2 => hu34.2 k (by omega))
  have hs11 : isS 59 L34 dA 35 := hs11.cg (by omega) (fun k h1 h2 => hu34.2 k (by omega))
  have hy15 : L34 41 = (sd_P (dA 6) 3 (fun _ => none)) := (hu34.2 41 (by omega)).trans hy15
  have hy17 : L34 42 = sd_O 4 [none, none, none, none] := (hu34.2 42 (by omega)).trans hy17
  have ht18 : isT 59 L34 42 := ⟨Nat.lt_of_lt_of_le ht18.1 (by omega), (hu34.2 42 (by omega)).trans ht18.2⟩
  have hfS : ∀ j, j < 3 → isS 59 L34 dA (43 + 5 * j) := fun j hj => (hfS j hj).cg (by omega) (fun k h1 h2 => hu34.2 k (by omega))
  have hy33 : L34 40 = (sd_P (dA 5) 8 (va_up (va_up (va_up (fun _ => none) 0 (some 43)) 1 (some 48)) 2 (some 53))) := (hu34.2 40 (by omega)).trans hy33
  refine x_dup d_D_init_117 rfl ?_
  refine x_callIg (As := []) (t := 58) (rest := [.ref 58, .int 3, .ref 40]) (rc := 53) (rs := 2969) (na := 0) (host := "SettingsDesk") (c_S_init (o := 58) hA34 hT hl34 hy34 hw) (sd_goodB q603) ⟨_, rfl⟩ (List.mem_cons_of_mem _ q7) (List.mem_cons_of_mem _ q604) (Or.inl (List.mem_cons_of_mem _ q626)) ⟨rfl, by decide, by decide, by decide +kernel⟩ ⟨rfl, rfl, rfl, rfl⟩ ⟨by decide, by decide⟩ d_D_init_118 rfl rfl (Nat.le_of_ble_eq_true rfl) (fun _ _ h => h) (fun v M35 H35 hq9 hF9 => ?_)
  obtain ⟨ad35, L35, hq35, hA35, hl35, hk35, hs35, hH35⟩ := hF9
  refine ⟨hq9.1, 63, ad35, L35, hH35, sd_l_ext hq35 (List.forall_mem_cons.mpr ⟨sd_bel_i, List.forall_mem_cons.mpr ⟨(sd_bel_r (by omega)), fun _ h => absurd h List.not_mem_nil⟩⟩), sd_map_ext hq35 (List.forall_mem_cons.mpr ⟨(sd_bel_r (by omega)), List.forall_mem_cons.mpr ⟨sd_bel_i, List.forall_mem_cons.mpr ⟨(sd_bel_r (by omega)), fun _ h => absurd h List.not_mem_nil⟩⟩⟩), ?_⟩
  have hw := hq9.2
  clear hq9
  clear hH35
  have hlo : L35 0 = sd_O 0 [some (some 1), some (some 25), some (some 30), some (some 35), some (some 40), some (some 41), some (some 42), none, none, none, none, none] := (hk35 0 (by omega)).trans hlo
  have hs2 : isC 63 L35 dA := hs2.cg (by omega) (fun k h1 h2 => hk35 k (by omega))
  have hs5 : isS 63 L35 dA 25 := hs5.cg (by omega) (fun k h1 h2 => hk35 k (by omega))
  have hs8 : isS 63 L35 dA 30 := hs8.cg (by omega) (fun k h1 h2 => hk35 k (by omega))
  have hs11 : isS 63 L35 dA 35 := hs11.cg (by omega) (fun k h1 h2 => hk35 k (by omega))
  have hy15 : L35 41 = (sd_P (dA 6) 3 (fun _ => none)) := (hk35 41 (by omega)).trans hy15
  have hy17 : L35 42 = sd_O 4 [none, none, none, none] := (hk35 42 (by omega)).trans hy17
  have ht18 : isT 63 L35 42 := ⟨Nat.lt_of_lt_of_le ht18.1 (by omega), (hk35 42 (by omega)).trans ht18.2⟩
  have hfS : ∀ j, j < 3 → isS 63 L35 dA (43 + 5 * j) := fun j hj => (hfS j hj).cg (by omega) (fun k h1 h2 => hk35 k (by omega))
  have hy33 : L35 40 = (sd_P (dA 5) 8 (va_up (va_up (va_up (fun _ => none) 0 (some 43)) 1 (some 48)) 2 (some 53))) := (hk35 40 (by omega)).trans hy33
  have hfS : ∀ j, j < 4 → isS 63 L35 dA (43 + 5 * j) := fun j hj => by
    by_cases h9 : j = 3
    · subst h9; exact hs35
    · exact hfS j (by omega)
  refine x_aast (t0 := 5) (u := 58) hA35 d_D_init_121 (by omega) hy33 (by omega) (hfS 3 (by decide)).2.1 rfl rfl (vp_in_nI (n := 3) (N := 8) (by decide) (by decide)) ?_
  obtain ⟨L36, hL36⟩ : ∃ z, z = va_up L35 40 (sd_P (dA 5) 8 (va_up (va_up (va_up (va_up (fun _ => none) 0 (some 43)) 1 (some 48)) 2 (some 53)) 3 (some 58))) := ⟨_, rfl⟩
  show sdW l (sdE0 sc) Y_D_init D (sd_tys dA) b _ _ (va_up L35 40 (sd_P (dA 5) 8 (va_up (va_up (va_up (va_up (fun _ => none) 0 (some 43)) 1 (some 48)) 2 (some 53)) 3 (some 58)))) ad _ _ _ _ _ _ _ _ _
  rw [← hL36]
  have hn36 : ∀ k, k ≠ 40 → L36 k = L35 k := fun k h => by rw [hL36]; exact va_up_ne _ _ h
  have hy36 : L36 40 = (sd_P (dA 5) 8 (va_up (va_up (va_up (va_up (fun _ => none) 0 (some 43)) 1 (some 48)) 2 (some 53)) 3 (some 58))) := by rw [hL36]; exact va_up_self _ _ _
  have hl36 : sd_loc 63 L36 := by rw [hL36]; exact sd_loc_at hl35 (sd_P_loc (sd_Pl_up (sd_Pl_up (sd_Pl_up (sd_Pl_up sd_Pl_none (by omega)) (by omega)) (by omega)) (by omega)))
  clear hL36
  have hlo : L36 0 = sd_O 0 [some (some 1), some (some 25), some (some 30), some (some 35), some (some 40), some (some 41), some (some 42), none, none, none, none, none] := (hn36 0 (by omega)).trans hlo
  have hs2 : isC 63 L36 dA := hs2.cg (by omega) (fun k h1 h2 => hn36 k (by omega))
  have hs5 : isS 63 L36 dA 25 := hs5.cg (by omega) (fun k h1 h2 => hn36 k (by omega))
  have hs8 : isS 63 L36 dA 30 := hs8.cg (by omega) (fun k h1 h2 => hn36 k (by omega))
  have hs11 : isS 63 L36 dA 35 := hs11.cg (by omega) (fun k h1 h2 => hn36 k (by omega))
  have hy15 : L36 41 = (sd_P (dA 6) 3 (fun _ => none)) := (hn36 41 (by omega)).trans hy15
  have hy17 : L36 42 = sd_O 4 [none, none, none, none] := (hn36 42 (by omega)).trans hy17
  have ht18 : isT 63 L36 42 := ⟨Nat.lt_of_lt_of_le ht18.1 (by omega), (hn36 42 (by omega)).trans ht18.2⟩
  have hfS : ∀ j, j < 4 → isS 63 L36 dA (43 + 5 * j) := fun j hj => (hfS j hj).cg (by omega) (fun k h1 h2 => hn36 k (by omega))
  refine x_iinc 1 0 [(1, .int 4), (0, .ref 0)] d_D_init_122 rfl (by decide) (by decide) rfl ?_
  refine x_goto 103 d_D_init_125 rfl ?_
  refine x_iload_n 1 0 d_D_init_103 rfl rfl ?_
  refine x_bipush (v := 8) d_D_init_104 (by decide) ?_
  refine x_icmp_ge 128 d_D_init_106 rfl (fun hc => absurd hc (by decide)) (fun _ => ?_)
  refine x_aload_n 0 1 d_D_init_109 rfl rfl ?_
  refine x_getr 4 40 d_D_init_110 (by omega) hlo rfl rfl (by decide) lay_D (List.mem_cons_of_mem _ q254) rfl ?_
  refine x_iload_n 1 0 d_D_init_113 rfl rfl ?_
  refine x_new (rc := 52) (rs := 2965) (n := 63) [some none, some none, some none, some none] hA35 hl36 (List.forall_mem_cons.mpr ⟨sd_bel_i, List.forall_mem_cons.mpr ⟨(sd_bel_r (by omega)), fun _ h => absurd h List.not_mem_nil⟩⟩) (List.forall_mem_cons.mpr ⟨sd_bel_i, List.forall_mem_cons.mpr ⟨(sd_bel_r (by omega)), fun _ h => absurd h List.not_mem_nil⟩⟩) d_D_init_114 (ci := 2) (N := 4) (C := "SettingsDesk$Settings") (T := T_S) rfl ty_S ty_S_ok lay_S (List.mem_cons_of_mem _ q625) (List.mem_cons_of_mem _ q602) (List.mem_cons_of_mem _ q7) (sd_nr rfl) (by decide +kernel) rfl rfl (fun ad37 L37 M37 hA37 hl37 hu37 hy37 hq37 e37 => ?_)
  have hw := hw M37 e37
  clear e37
  have hlo : L37 0 = sd_O 0 [some (some 1), some (some 25), some (some 30), some (some 35), some (some 40), some (some 41), some (some 42), none, none, none, none, none] := (hu37.2 0 (by omega)).trans hlo
  have hs2 : isC 64 L37 dA := hs2.cg (by omega) (fun k h1 h2 => hu37.2 k (by omega))
  have hs5 : isS 64 L37 dA 25 := hs5.cg (by omega) (fun k h1 h2 => hu37.2 k (by omega))
  have hs8 : isS 64 L37 dA 30 := hs8.cg (by omega) (fun k h1 h2 => hu37.2 k (by omega))
  have hs11 : isS 64 L37 dA 35 := hs11.cg (by omega) (fun k h1 h2 => hu37.2 k (by omega))
  have hy15 : L37 41 = (sd_P (dA 6) 3 (fun _ => none)) := (hu37.2 41 (by omega)).trans hy15
  have hy17 : L37 42 = sd_O 4 [none, none, none, none] := (hu37.2 42 (by omega)).trans hy17
  have ht18 : isT 64 L37 42 := ⟨Nat.lt_of_lt_of_le ht18.1 (by omega), (hu37.2 42 (by omega)).trans ht18.2⟩
  have hfS : ∀ j, j < 4 → isS 64 L37 dA (43 + 5 * j) := fun j hj => (hfS j hj).cg (by omega) (fun k h1 h2 => hu37.2 k (by omega))
  have hy36 : L37 40 = (sd_P (dA 5) 8 (va_up (va_up (va_up (va_up (fun _ => none) 0 (some 43)) 1 (some 48)) 2 (some 53)) 3 (some 58))) := (hu37.2 40 (by omega)).trans hy36
  refine x_dup d_D_init_117 rfl ?_
  refine x_callIg (As := []) (t := 63) (rest := [.ref 63, .int 4, .ref 40]) (rc := 48) (rs := 2673) (na := 0) (host := "SettingsDesk") (c_S_init (o := 63) hA37 hT hl37 hy37 hw) (sd_goodB q603) ⟨_, rfl⟩ (List.mem_cons_of_mem _ q7) (List.mem_cons_of_mem _ q604) (Or.inl (List.mem_cons_of_mem _ q626)) ⟨rfl, by decide, by decide, by decide +kernel⟩ ⟨rfl, rfl, rfl, rfl⟩ ⟨by decide, by decide⟩ d_D_init_118 rfl rfl (Nat.le_of_ble_eq_true rfl) (fun _ _ h => h) (fun v M38 H38 hq9 hF9 => ?_)
  obtain ⟨ad38, L38, hq38, hA38, hl38, hk38, hs38, hH38⟩ := hF9
  refine ⟨hq9.1, 68, ad38, L38, hH38, sd_l_ext hq38 (List.forall_mem_cons.mpr ⟨sd_bel_i, List.forall_mem_cons.mpr ⟨(sd_bel_r (by omega)), fun _ h => absurd h List.not_mem_nil⟩⟩), sd_map_ext hq38 (List.forall_mem_cons.mpr ⟨(sd_bel_r (by omega)), List.forall_mem_cons.mpr ⟨sd_bel_i, List.forall_mem_cons.mpr ⟨(sd_bel_r (by omega)), fun _ h => absurd h List.not_mem_nil⟩⟩⟩), ?_⟩
  have hw := hq9.2
  clear hq9
  clear hH38
  have hlo : L38 0 = sd_O 0 [some (some 1), some (some 25), some (some 30), some (some 35), some (some 40), some (some 41), some (some 42), none, none, none, none, none] := (hk38 0 (by omega)).trans hlo
  have hs2 : isC 68 L38 dA := hs2.cg (by omega) (fun k h1 h2 => hk38 k (by omega))
  have hs5 : isS 68 L38 dA 25 := hs5.cg (by omega) (fun k h1 h2 => hk38 k (by omega))
  have hs8 : isS 68 L38 dA 30 := hs8.cg (by omega) (fun k h1 h2 => hk38 k (by omega))
  have hs11 : isS 68 L38 dA 35 := hs11.cg (by omega) (fun k h1 h2 => hk38 k (by omega))
  have hy15 : L38 41 = (sd_P (dA 6) 3 (fun _ => none)) := (hk38 41 (by omega)).trans hy15
  have hy17 : L38 42 = sd_O 4 [none, none, none, none] := (hk38 42 (by omega)).trans hy17
  have ht18 : isT 68 L38 42 := ⟨Nat.lt_of_lt_of_le ht18.1 (by omega), (hk38 42 (by omega)).trans ht18.2⟩
  have hfS : ∀ j, j < 4 → isS 68 L38 dA (43 + 5 * j) := fun j hj => (hfS j hj).cg (by omega) (fun k h1 h2 => hk38 k (by omega))
  have hy36 : L38 40 = (sd_P (dA 5) 8 (va_up (va_up (va_up (va_up (fun _ => none) 0 (some 43)) 1 (some 48)) 2 (some 53)) 3 (some 58))) := (hk38 40 (by omega)).trans hy36
  have hfS : ∀ j, j < 5 → isS 68 L38 dA (43 + 5 * j) := fun j hj => by
    by_cases h9 : j = 4
    · subst h9; exact hs38
    · exact hfS j (by omega)
  refine x_aast (t0 := 5) (u := 63) hA38 d_D_init_121 (by omega) hy36 (by omega) (hfS 4 (by decide)).2.1 rfl rfl (vp_in_nI (n := 4) (N := 8) (by decide) (by decide)) ?_
  obtain ⟨L39, hL39⟩ : ∃ z, z = va_up L38 40 (sd_P (dA 5) 8 (va_up (va_up (va_up (va_up (va_up (fun _ => none) 0 (some 43)) 1 (some 48)) 2 (some 53)) 3 (some 58)) 4 (some 63))) := ⟨_, rfl⟩
  show sdW l (sdE0 sc) Y_D_init D (sd_tys dA) b _ _ (va_up L38 40 (sd_P (dA 5) 8 (va_up (va_up (va_up (va_up (va_up (fun _ => none) 0 (some 43)) 1 (some 48)) 2 (some 53)) 3 (some 58)) 4 (some 63)))) ad _ _ _ _ _ _ _ _ _
  rw [← hL39]
  have hn39 : ∀ k, k ≠ 40 → L39 k = L38 k := fun k h => by rw [hL39]; exact va_up_ne _ _ h
  have hy39 : L39 40 = (sd_P (dA 5) 8 (va_up (va_up (va_up (va_up (va_up (fun _ => none) 0 (some 43)) 1 (some 48)) 2 (some 53)) 3 (some 58)) 4 (some 63))) := by rw [hL39]; exact va_up_self _ _ _
  have hl39 : sd_loc 68 L39 := by rw [hL39]; exact sd_loc_at hl38 (sd_P_loc (sd_Pl_up (sd_Pl_up (sd_Pl_up (sd_Pl_up (sd_Pl_up sd_Pl_none (by omega)) (by omega)) (by omega)) (by omega)) (by omega)))
  clear hL39
  have hlo : L39 0 = sd_O 0 [some (some 1), some (some 25), some (some 30), some (some 35), some (some 40), some (some 41), some (some 42), none, none, none, none, none] := (hn39 0 (by omega)).trans hlo
  have hs2 : isC 68 L39 dA := hs2.cg (by omega) (fun k h1 h2 => hn39 k (by omega))
  have hs5 : isS 68 L39 dA 25 := hs5.cg (by omega) (fun k h1 h2 => hn39 k (by omega))
  have hs8 : isS 68 L39 dA 30 := hs8.cg (by omega) (fun k h1 h2 => hn39 k (by omega))
  have hs11 : isS 68 L39 dA 35 := hs11.cg (by omega) (fun k h1 h2 => hn39 k (by omega))
  have hy15 : L39 41 = (sd_P (dA 6) 3 (fun _ => none)) := (hn39 41 (by omega)).trans hy15
  have hy17 : L39 42 = sd_O 4 [none, none, none, none] := (hn39 42 (by omega)).trans hy17
  have ht18 : isT 68 L39 42 := ⟨Nat.lt_of_lt_of_le ht18.1 (by omega), (hn39 42 (by omega)).trans ht18.2⟩
  have hfS : ∀ j, j < 5 → isS 68 L39 dA (43 + 5 * j) := fun j hj => (hfS j hj).cg (by omega) (fun k h1 h2 => hn39 k (by omega))
  refine x_iinc 1 0 [(1, .int 5), (0, .ref 0)] d_D_init_122 rfl (by decide) (by decide) rfl ?_
  refine x_goto 103 d_D_init_125 rfl ?_
  refine x_iload_n 1 0 d_D_init_103 rfl rfl ?_
  refine x_bipush (v := 8) d_D_init_104 (by decide) ?_
  refine x_icmp_ge 128 d_D_init_106 rfl (fun hc => absurd hc (by decide)) (fun _ => ?_)
  refine x_aload_n 0 1 d_D_init_109 rfl rfl ?_
  refine x_getr 4 40 d_D_init_110 (by omega) hlo rfl rfl (by decide) lay_D (List.mem_cons_of_mem _ q254) rfl ?_
  refine x_iload_n 1 0 d_D_init_113 rfl rfl ?_
  refine x_new (rc := 47) (rs := 2669) (n := 68) [some none, some none, some none, some none] hA38 hl39 (List.forall_mem_cons.mpr ⟨sd_bel_i, List.forall_mem_cons.mpr ⟨(sd_bel_r (by omega)), fun _ h => absurd h List.not_mem_nil⟩⟩) (List.forall_mem_cons.mpr ⟨sd_bel_i, List.forall_mem_cons.mpr ⟨(sd_bel_r (by omega)), fun _ h => absurd h List.not_mem_nil⟩⟩) d_D_init_114 (ci := 2) (N := 4) (C := "SettingsDesk$Settings") (T := T_S) rfl ty_S ty_S_ok lay_S (List.mem_cons_of_mem _ q625) (List.mem_cons_of_mem _ q602) (List.mem_cons_of_mem _ q7) (sd_nr rfl) (by decide +kernel) rfl rfl (fun ad40 L40 M40 hA40 hl40 hu40 hy40 hq40 e40 => ?_)
  have hw := hw M40 e40
  clear e40
  have hlo : L40 0 = sd_O 0 [some (some 1), some (some 25), some (some 30), some (some 35), some (some 40), some (some 41), some (some 42), none, none, none, none, none] := (hu40.2 0 (by omega)).trans hlo
  have hs2 : isC 69 L40 dA := hs2.cg (by omega) (fun k h1 h2 => hu40.2 k (by omega))
  have hs5 : isS 69 L40 dA 25 := hs5.cg (by omega) (fun k h1 h2 => hu40.2 k (by omega))
  have hs8 : isS 69 L40 dA 30 := hs8.cg (by omega) (fun k h1 h2 => hu40.2 k (by omega))
  have hs11 : isS 69 L40 dA 35 := hs11.cg (by omega) (fun k h1 h2 => hu40.2 k (by omega))
  have hy15 : L40 41 = (sd_P (dA 6) 3 (fun _ => none)) := (hu40.2 41 (by omega)).trans hy15
  have hy17 : L40 42 = sd_O 4 [none, none, none, none] := (hu40.2 42 (by omega)).trans hy17
  have ht18 : isT 69 L40 42 := ⟨Nat.lt_of_lt_of_le ht18.1 (by omega), (hu40.2 42 (by omega)).trans ht18.2⟩
  have hfS : ∀ j, j < 5 → isS 69 L40 dA (43 + 5 * j) := fun j hj => (hfS j hj).cg (by omega) (fun k h1 h2 => hu40.2 k (by omega))
  have hy39 : L40 40 = (sd_P (dA 5) 8 (va_up (va_up (va_up (va_up (va_up (fun _ => none) 0 (some 43)) 1 (some 48)) 2 (some 53)) 3 (some 58)) 4 (some 63))) := (hu40.2 40 (by omega)).trans hy39
  refine x_dup d_D_init_117 rfl ?_
  refine x_callIg (As := []) (t := 68) (rest := [.ref 68, .int 5, .ref 40]) (rc := 43) (rs := 2377) (na := 0) (host := "SettingsDesk") (c_S_init (o := 68) hA40 hT hl40 hy40 hw) (sd_goodB q603) ⟨_, rfl⟩ (List.mem_cons_of_mem _ q7) (List.mem_cons_of_mem _ q604) (Or.inl (List.mem_cons_of_mem _ q626)) ⟨rfl, by decide, by decide, by decide +kernel⟩ ⟨rfl, rfl, rfl, rfl⟩ ⟨by decide, by decide⟩ d_D_init_118 rfl rfl (Nat.le_of_ble_eq_true rfl) (fun _ _ h => h) (fun v M41 H41 hq9 hF9 => ?_)
  obtain ⟨ad41, L41, hq41, hA41, hl41, hk41, hs41, hH41⟩ := hF9
  refine ⟨hq9.1, 73, ad41, L41, hH41, sd_l_ext hq41 (List.forall_mem_cons.mpr ⟨sd_bel_i, List.forall_mem_cons.mpr ⟨(sd_bel_r (by omega)), fun _ h => absurd h List.not_mem_nil⟩⟩), sd_map_ext hq41 (List.forall_mem_cons.mpr ⟨(sd_bel_r (by omega)), List.forall_mem_cons.mpr ⟨sd_bel_i, List.forall_mem_cons.mpr ⟨(sd_bel_r (by omega)), fun _ h => absurd h List.not_mem_nil⟩⟩⟩), ?_⟩
  have hw := hq9.2
  clear hq9
  clear hH41
  have hlo : L41 0 = sd_O 0 [some (some 1), some (some 25), some (some 30), some (some 35), some (some 40), some (some 41), some (some 42), none, none, none, none, none] := (hk41 0 (by omega)).trans hlo
  have hs2 : isC 73 L41 dA := hs2.cg (by omega) (fun k h1 h2 => hk41 k (by omega))
  have hs5 : isS 73 L41 dA 25 := hs5.cg (by omega) (fun k h1 h2 => hk41 k (by omega))
  have hs8 : isS 73 L41 dA 30 := hs8.cg (by omega) (fun k h1 h2 => hk41 k (by omega))
  have hs11 : isS 73 L41 dA 35 := hs11.cg (by omega) (fun k h1 h2 => hk41 k (by omega))
  have hy15 : L41 41 = (sd_P (dA 6) 3 (fun _ => none)) := (hk41 41 (by omega)).trans hy15
  have hy17 : L41 42 = sd_O 4 [none, none, none, none] := (hk41 42 (by omega)).trans hy17
  have ht18 : isT 73 L41 42 := ⟨Nat.lt_of_lt_of_le ht18.1 (by omega), (hk41 42 (by omega)).trans ht18.2⟩
  have hfS : ∀ j, j < 5 → isS 73 L41 dA (43 + 5 * j) := fun j hj => (hfS j hj).cg (by omega) (fun k h1 h2 => hk41 k (by omega))
  have hy39 : L41 40 = (sd_P (dA 5) 8 (va_up (va_up (va_up (va_up (va_up (fun _ => none) 0 (some 43)) 1 (some 48)) 2 (some 53)) 3 (some 58)) 4 (some 63))) := (hk41 40 (by omega)).trans hy39
  have hfS : ∀ j, j < 6 → isS 73 L41 dA (43 + 5 * j) := fun j hj => by
    by_cases h9 : j = 5
    · subst h9; exact hs41
    · exact hfS j (by omega)
  refine x_aast (t0 := 5) (u := 68) hA41 d_D_init_121 (by omega) hy39 (by omega) (hfS 5 (by decide)).2.1 rfl rfl (vp_in_nI (n := 5) (N := 8) (by decide) (by decide)) ?_
  obtain ⟨L42, hL42⟩ : ∃ z, z = va_up L41 40 (sd_P (dA 5) 8 (va_up (va_up (va_up (va_up (va_up (va_up (fun _ => none) 0 (some 43)) 1 (some 48)) 2 (some 53)) 3 (some 58)) 4 (some 63)) 5 (some 68))) := ⟨_, rfl⟩
  show sdW l (sdE0 sc) Y_D_init D (sd_tys dA) b _ _ (va_up L41 40 (sd_P (dA 5) 8 (va_up (va_up (va_up (va_up (va_up (va_up (fun _ => none) 0 (some 43)) 1 (some 48)) 2 (some 53)) 3 (some 58)) 4 (some 63)) 5 (some 68)))) ad _ _ _ _ _ _ _ _ _
  rw [← hL42]
  have hn42 : ∀ k, k ≠ 40 → L42 k = L41 k := fun k h => by rw [hL42]; exact va_up_ne _ _ h
  have hy42 : L42 40 = (sd_P (dA 5) 8 (va_up (va_up (va_up (va_up (va_up (va_up (fun _ => none) 0 (some 43)) 1 (some 48)) 2 (some 53)) 3 (some 58)) 4 (some 63)) 5 (some 68))) := by rw [hL42]; exact va_up_self _ _ _
  have hl42 : sd_loc 73 L42 := by rw [hL42]; exact sd_loc_at hl41 (sd_P_loc (sd_Pl_up (sd_Pl_up (sd_Pl_up (sd_Pl_up (sd_Pl_up (sd_Pl_up sd_Pl_none (by omega)) (by omega)) (by omega)) (by omega)) (by omega)) (by omega)))
  clear hL42
  have hlo : L42 0 = sd_O 0 [some (some 1), some (some 25), some (some 30), some (some 35), some (some 40), some (some 41), some (some 42), none, none, none, none, none] := (hn42 0 (by omega)).trans hlo
  have hs2 : isC 73 L42 dA := hs2.cg (by omega) (fun k h1 h2 => hn42 k (by omega))
  have hs5 : isS 73 L42 dA 25 := hs5.cg (by omega) (fun k h1 h2 => hn42 k (by omega))
  have hs8 : isS 73 L42 dA 30 := hs8.cg (by omega) (fun k h1 h2 => hn42 k (by omega))
  have hs11 : isS 73 L42 dA 35 := hs11.cg (by omega) (fun k h1 h2 => hn42 k (by omega))
  have hy15 : L42 41 = (sd_P (dA 6) 3 (fun _ => none)) := (hn42 41 (by omega)).trans hy15
  have hy17 : L42 42 = sd_O 4 [none, none, none, none] := (hn42 42 (by omega)).trans hy17
  have ht18 : isT 73 L42 42 := ⟨Nat.lt_of_lt_of_le ht18.1 (by omega), (hn42 42 (by omega)).trans ht18.2⟩
  have hfS : ∀ j, j < 6 → isS 73 L42 dA (43 + 5 * j) := fun j hj => (hfS j hj).cg (by omega) (fun k h1 h2 => hn42 k (by omega))
  refine x_iinc 1 0 [(1, .int 6), (0, .ref 0)] d_D_init_122 rfl (by decide) (by decide) rfl ?_
  refine x_goto 103 d_D_init_125 rfl ?_
  refine x_iload_n 1 0 d_D_init_103 rfl rfl ?_
  refine x_bipush (v := 8) d_D_init_104 (by decide) ?_
  refine x_icmp_ge 128 d_D_init_106 rfl (fun hc => absurd hc (by decide)) (fun _ => ?_)
  refine x_aload_n 0 1 d_D_init_109 rfl rfl ?_
  refine x_getr 4 40 d_D_init_110 (by omega) hlo rfl rfl (by decide) lay_D (List.mem_cons_of_mem _ q254) rfl ?_
  refine x_iload_n 1 0 d_D_init_113 rfl rfl ?_
  refine x_new (rc := 42) (rs := 2373) (n := 73) [some none, some none, some none, some none] hA41 hl42 (List.forall_mem_cons.mpr ⟨sd_bel_i, List.forall_mem_cons.mpr ⟨(sd_bel_r (by omega)), fun _ h => absurd h List.not_mem_nil⟩⟩) (List.forall_mem_cons.mpr ⟨sd_bel_i, List.forall_mem_cons.mpr ⟨(sd_bel_r (by omega)), fun _ h => absurd h List.not_mem_nil⟩⟩) d_D_init_114 (ci := 2) (N := 4) (C := "SettingsDesk$Settings") (T := T_S) rfl ty_S ty_S_ok lay_S (List.mem_cons_of_mem _ q625) (List.mem_cons_of_mem _ q602) (List.mem_cons_of_mem _ q7) (sd_nr rfl) (by decide +kernel) rfl rfl (fun ad43 L43 M43 hA43 hl43 hu43 hy43 hq43 e43 => ?_)
  have hw := hw M43 e43
  clear e43
  have hlo : L43 0 = sd_O 0 [some (some 1), some (some 25), some (some 30), some (some 35), some (some 40), some (some 41), some (some 42), none, none, none, none, none] := (hu43.2 0 (by omega)).trans hlo
  have hs2 : isC 74 L43 dA := hs2.cg (by omega) (fun k h1 h2 => hu43.2 k (by omega))
  have hs5 : isS 74 L43 dA 25 := hs5.cg (by omega) (fun k h1 h2 => hu43.2 k (by omega))
  have hs8 : isS 74 L43 dA 30 := hs8.cg (by omega) (fun k h1 h2 => hu43.2 k (by omega))
  have hs11 : isS 74 L43 dA 35 := hs11.cg (by omega) (fun k h1 h2 => hu43.2 k (by omega))
  have hy15 : L43 41 = (sd_P (dA 6) 3 (fun _ => none)) := (hu43.2 41 (by omega)).trans hy15
  have hy17 : L43 42 = sd_O 4 [none, none, none, none] := (hu43.2 42 (by omega)).trans hy17
  have ht18 : isT 74 L43 42 := ⟨Nat.lt_of_lt_of_le ht18.1 (by omega), (hu43.2 42 (by omega)).trans ht18.2⟩
  have hfS : ∀ j, j < 6 → isS 74 L43 dA (43 + 5 * j) := fun j hj => (hfS j hj).cg (by omega) (fun k h1 h2 => hu43.2 k (by omega))
  have hy42 : L43 40 = (sd_P (dA 5) 8 (va_up (va_up (va_up (va_up (va_up (va_up (fun _ => none) 0 (some 43)) 1 (some 48)) 2 (some 53)) 3 (some 58)) 4 (some 63)) 5 (some 68))) := (hu43.2 40 (by omega)).trans hy42
  refine x_dup d_D_init_117 rfl ?_
  refine x_callIg (As := []) (t := 73) (rest := [.ref 73, .int 6, .ref 40]) (rc := 38) (rs := 2081) (na := 0) (host := "SettingsDesk") (c_S_init (o := 73) hA43 hT hl43 hy43 hw) (sd_goodB q603) ⟨_, rfl⟩ (List.mem_cons_of_mem _ q7) (List.mem_cons_of_mem _ q604) (Or.inl (List.mem_cons_of_mem _ q626)) ⟨rfl, by decide, by decide, by decide +kernel⟩ ⟨rfl, rfl, rfl, rfl⟩ ⟨by decide, by decide⟩ d_D_init_118 rfl rfl (Nat.le_of_ble_eq_true rfl) (fun _ _ h => h) (fun v M44 H44 hq9 hF9 => ?_)
  obtain ⟨ad44, L44, hq44, hA44, hl44, hk44, hs44, hH44⟩ := hF9
  refine ⟨hq9.1, 78, ad44, L44, hH44, sd_l_ext hq44 (List.forall_mem_cons.mpr ⟨sd_bel_i, List.forall_mem_cons.mpr ⟨(sd_bel_r (by omega)), fun _ h => absurd h List.not_mem_nil⟩⟩), sd_map_ext hq44 (List.forall_mem_cons.mpr ⟨(sd_bel_r (by omega)), List.forall_mem_cons.mpr ⟨sd_bel_i, List.forall_mem_cons.mpr ⟨(sd_bel_r (by omega)), fun _ h => absurd h List.not_mem_nil⟩⟩⟩), ?_⟩
  have hw := hq9.2
  clear hq9
  clear hH44
  have hlo : L44 0 = sd_O 0 [some (some 1), some (some 25), some (some 30), some (some 35), some (some 40), some (some 41), some (some 42), none, none, none, none, none] := (hk44 0 (by omega)).trans hlo
  have hs2 : isC 78 L44 dA := hs2.cg (by omega) (fun k h1 h2 => hk44 k (by omega))
  have hs5 : isS 78 L44 dA 25 := hs5.cg (by omega) (fun k h1 h2 => hk44 k (by omega))
  have hs8 : isS 78 L44 dA 30 := hs8.cg (by omega) (fun k h1 h2 => hk44 k (by omega))
  have hs11 : isS 78 L44 dA 35 := hs11.cg (by omega) (fun k h1 h2 => hk44 k (by omega))
  have hy15 : L44 41 = (sd_P (dA 6) 3 (fun _ => none)) := (hk44 41 (by omega)).trans hy15
  have hy17 : L44 42 = sd_O 4 [none, none, none, none] := (hk44 42 (by omega)).trans hy17
  have ht18 : isT 78 L44 42 := ⟨Nat.lt_of_lt_of_le ht18.1 (by omega), (hk44 42 (by omega)).trans ht18.2⟩
  have hfS : ∀ j, j < 6 → isS 78 L44 dA (43 + 5 * j) := fun j hj => (hfS j hj).cg (by omega) (fun k h1 h2 => hk44 k (by omega))
  have hy42 : L44 40 = (sd_P (dA 5) 8 (va_up (va_up (va_up (va_up (va_up (va_up (fun _ => none) 0 (some 43)) 1 (some 48)) 2 (some 53)) 3 (some 58)) 4 (some 63)) 5 (some 68))) := (hk44 40 (by omega)).trans hy42
  have hfS : ∀ j, j < 7 → isS 78 L44 dA (43 + 5 * j) := fun j hj => by
    by_cases h9 : j = 6
    · subst h9; exact hs44
    · exact hfS j (by omega)
  refine x_aast (t0 := 5) (u := 73) hA44 d_D_init_121 (by omega) hy42 (by omega) (hfS 6 (by decide)).2.1 rfl rfl (vp_in_nI (n := 6) (N := 8) (by decide) (by decide)) ?_
  obtain ⟨L45, hL45⟩ : ∃ z, z = va_up L44 40 (sd_P (dA 5) 8 (va_up (va_up (va_up (va_up (va_up (va_up (va_up (fun _ => none) 0 (some 43)) 1 (some 48)) 2 (some 53)) 3 (some 58)) 4 (some 63)) 5 (some 68)) 6 (some 73))) := ⟨_, rfl⟩
  show sdW l (sdE0 sc) Y_D_init D (sd_tys dA) b _ _ (va_up L44 40 (sd_P (dA 5) 8 (va_up (va_up (va_up (va_up (va_up (va_up (va_up (fun _ => none) 0 (some 43)) 1 (some 48)) 2 (some 53)) 3 (some 58)) 4 (some 63)) 5 (some 68)) 6 (some 73)))) ad _ _ _ _ _ _ _ _ _
  rw [← hL45]
  have hn45 : ∀ k, k ≠ 40 → L45 k = L44 k := fun k h => by rw [hL45]; exact va_up_ne _ _ h
  have hy45 : L45 40 = (sd_P (dA 5) 8 (va_up (va_up (va_up (va_up (va_up (va_up (va_up (fun _ => none) 0 (some 43)) 1 (some 48)) 2 (some 53)) 3 (some 58)) 4 (some 63)) 5 (some 68)) 6 (some 73))) := by rw [hL45]; exact va_up_self _ _ _
  have hl45 : sd_loc 78 L45 := by rw [hL45]; exact sd_loc_at hl44 (sd_P_loc (sd_Pl_up (sd_Pl_up (sd_Pl_up (sd_Pl_up (sd_Pl_up (sd_Pl_up (sd_Pl_up sd_Pl_none (by omega)) (by omega)) (by omega)) (by omega)) (by omega)) (by omega)) (by omega)))
  clear hL45
  have hlo : L45 0 = sd_O 0 [some (some 1), some (some 25), some (some 30), some (some 35), some (some 40), some (some 41), some (some 42), none, none, none, none, none] := (hn45 0 (by omega)).trans hlo
  have hs2 : isC 78 L45 dA := hs2.cg (by omega) (fun k h1 h2 => hn45 k (by omega))
  have hs5 : isS 78 L45 dA 25 := hs5.cg (by omega) (fun k h1 h2 => hn45 k (by omega))
  have hs8 : isS 78 L45 dA 30 := hs8.cg (by omega) (fun k h1 h2 => hn45 k (by omega))
  have hs11 : isS 78 L45 dA 35 := hs11.cg (by omega) (fun k h1 h2 => hn45 k (by omega))
  have hy15 : L45 41 = (sd_P (dA 6) 3 (fun _ => none)) := (hn45 41 (by omega)).trans hy15
  have hy17 : L45 42 = sd_O 4 [none, none, none, none] := (hn45 42 (by omega)).trans hy17
  have ht18 : isT 78 L45 42 := ⟨Nat.lt_of_lt_of_le ht18.1 (by omega), (hn45 42 (by omega)).trans ht18.2⟩
  have hfS : ∀ j, j < 7 → isS 78 L45 dA (43 + 5 * j) := fun j hj => (hfS j hj).cg (by omega) (fun k h1 h2 => hn45 k (by omega))
  refine x_iinc 1 0 [(1, .int 7), (0, .ref 0)] d_D_init_122 rfl (by decide) (by decide) rfl ?_
  refine x_goto 103 d_D_init_125 rfl ?_
  refine x_iload_n 1 0 d_D_init_103 rfl rfl ?_
  refine x_bipush (v := 8) d_D_init_104 (by decide) ?_
  refine x_icmp_ge 128 d_D_init_106 rfl (fun hc => absurd hc (by decide)) (fun _ => ?_)
  refine x_aload_n 0 1 d_D_init_109 rfl rfl ?_
  refine x_getr 4 40 d_D_init_110 (by omega) hlo rfl rfl (by decide) lay_D (List.mem_cons_of_mem _ q254) rfl ?_
  refine x_iload_n 1 0 d_D_init_113 rfl rfl ?_
  refine x_new (rc := 37) (rs := 2077) (n := 78) [some none, some none, some none, some none] hA44 hl45 (List.forall_mem_cons.mpr ⟨sd_bel_i, List.forall_mem_cons.mpr ⟨(sd_bel_r (by omega)), fun _ h => absurd h List.not_mem_nil⟩⟩) (List.forall_mem_cons.mpr ⟨sd_bel_i, List.forall_mem_cons.mpr ⟨(sd_bel_r (by omega)), fun _ h => absurd h List.not_mem_nil⟩⟩) d_D_init_114 (ci := 2) (N := 4) (C := "SettingsDesk$Settings") (T := T_S) rfl ty_S ty_S_ok lay_S (List.mem_cons_of_mem _ q625) (List.mem_cons_of_mem _ q602) (List.mem_cons_of_mem _ q7) (sd_nr rfl) (by decide +kernel) rfl rfl (fun ad46 L46 M46 hA46 hl46 hu46 hy46 hq46 e46 => ?_)
  have hw := hw M46 e46
  clear e46
  have hlo : L46 0 = sd_O 0 [some (some 1), some (some 25), some (some 30), some (some 35), some (some 40), some (some 41), some (some 42), none, none, none, none, none] := (hu46.2 0 (by omega)).trans hlo
  have hs2 : isC 79 L46 dA := hs2.cg (by omega) (fun k h1 h2 => hu46.2 k (by omega))
  have hs5 : isS 79 L46 dA 25 := hs5.cg (by omega) (fun k h1 h2 => hu46.2 k (by omega))
  have hs8 : isS 79 L46 dA 30 := hs8.cg (by omega) (fun k h1 h2 => hu46.2 k (by omega))
  have hs11 : isS 79 L46 dA 35 := hs11.cg (by omega) (fun k h1 h2 => hu46.2 k (by omega))
  have hy15 : L46 41 = (sd_P (dA 6) 3 (fun _ => none)) := (hu46.2 41 (by omega)).trans hy15
  have hy17 : L46 42 = sd_O 4 [none, none, none, none] := (hu46.2 42 (by omega)).trans hy17
  have ht18 : isT 79 L46 42 := ⟨Nat.lt_of_lt_of_le ht18.1 (by omega), (hu46.2 42 (by omega)).trans ht18.2⟩
  have hfS : ∀ j, j < 7 → isS 79 L46 dA (43 + 5 * j) := fun j hj => (hfS j hj).cg (by omega) (fun k h1 h2 => hu46.2 k (by omega))
  have hy45 : L46 40 = (sd_P (dA 5) 8 (va_up (va_up (va_up (va_up (va_up (va_up (va_up (fun _ => none) 0 (some 43)) 1 (some 48)) 2 (some 53)) 3 (some 58)) 4 (some 63)) 5 (some 68)) 6 (some 73))) := (hu46.2 40 (by omega)).trans hy45
  refine x_dup d_D_init_117 rfl ?_
  refine x_callIg (As := []) (t := 78) (rest := [.ref 78, .int 7, .ref 40]) (rc := 33) (rs := 1785) (na := 0) (host := "SettingsDesk") (c_S_init (o := 78) hA46 hT hl46 hy46 hw) (sd_goodB q603) ⟨_, rfl⟩ (List.mem_cons_of_mem _ q7) (List.mem_cons_of_mem _ q604) (Or.inl (List.mem_cons_of_mem _ q626)) ⟨rfl, by decide, by decide, by decide +kernel⟩ ⟨rfl, rfl, rfl, rfl⟩ ⟨by decide, by decide⟩ d_D_init_118 rfl rfl (Nat.le_of_ble_eq_true rfl) (fun _ _ h => h) (fun v M47 H47 hq9 hF9 => ?_)
  obtain ⟨ad47, L47, hq47, hA47, hl47, hk47, hs47, hH47⟩ := hF9
  refine ⟨hq9.1, 83, ad47, L47, hH47, sd_l_ext hq47 (List.forall_mem_cons.mpr ⟨sd_bel_i, List.forall_mem_cons.mpr ⟨(sd_bel_r (by omega)), fun _ h => absurd h List.not_mem_nil⟩⟩), sd_map_ext hq47 (List.forall_mem_cons.mpr ⟨(sd_bel_r (by omega)), List.forall_mem_cons.mpr ⟨sd_bel_i, List.forall_mem_cons.mpr ⟨(sd_bel_r (by omega)), fun _ h => absurd h List.not_mem_nil⟩⟩⟩), ?_⟩
  have hw := hq9.2
  clear hq9
  clear hH47
  have hlo : L47 0 = sd_O 0 [some (some 1), some (some 25), some (some 30), some (some 35), some (some 40), some (some 41), some (some 42), none, none, none, none, none] := (hk47 0 (by omega)).trans hlo
  have hs2 : isC 83 L47 dA := hs2.cg (by omega) (fun k h1 h2 => hk47 k (by omega))
  have hs5 : isS 83 L47 dA 25 := hs5.cg (by omega) (fun k h1 h2 => hk47 k (by omega))
  have hs8 : isS 83 L47 dA 30 := hs8.cg (by omega) (fun k h1 h2 => hk47 k (by omega))
  have hs11 : isS 83 L47 dA 35 := hs11.cg (by omega) (fun k h1 h2 => hk47 k (by omega))
  have hy15 : L47 41 = (sd_P (dA 6) 3 (fun _ => none)) := (hk47 41 (by omega)).trans hy15
  have hy17 : L47 42 = sd_O 4 [none, none, none, none] := (hk47 42 (by omega)).trans hy17
  have ht18 : isT 83 L47 42 := ⟨Nat.lt_of_lt_of_le ht18.1 (by omega), (hk47 42 (by omega)).trans ht18.2⟩
  have hfS : ∀ j, j < 7 → isS 83 L47 dA (43 + 5 * j) := fun j hj => (hfS j hj).cg (by omega) (fun k h1 h2 => hk47 k (by omega))
  have hy45 : L47 40 = (sd_P (dA 5) 8 (va_up (va_up (va_up (va_up (va_up (va_up (va_up (fun _ => none) 0 (some 43)) 1 (some 48)) 2 (some 53)) 3 (some 58)) 4 (some 63)) 5 (some 68)) 6 (some 73))) := (hk47 40 (by omega)).trans hy45
  have hfS : ∀ j, j < 8 → isS 83 L47 dA (43 + 5 * j) := fun j hj => by
    by_cases h9 : j = 7
    · subst h9; exact hs47
    · exact hfS j (by omega)
  refine x_aast (t0 := 5) (u := 78) hA47 d_D_init_121 (by omega) hy45 (by omega) (hfS 7 (by decide)).2.1 rfl rfl (vp_in_nI (n := 7) (N := 8) (by decide) (by decide)) ?_
  obtain ⟨L48, hL48⟩ : ∃ z, z = va_up L47 40 (sd_P (dA 5) 8 (va_up (va_up (va_up (va_up (va_up (va_up (va_up (va_up (fun _ => none) 0 (some 43)) 1 (some 48)) 2 (some 53)) 3 (some 58)) 4 (some 63)) 5 (some 68)) 6 (some 73)) 7 (some 78))) := ⟨_, rfl⟩
  show sdW l (sdE0 sc) Y_D_init D (sd_tys dA) b _ _ (va_up L47 40 (sd_P (dA 5) 8 (va_up (va_up (va_up (va_up (va_up (va_up (va_up (va_up (fun _ => none) 0 (some 43)) 1 (some 48)) 2 (some 53)) 3 (some 58)) 4 (some 63)) 5 (some 68)) 6 (some 73)) 7 (some 78)))) ad _ _ _ _ _ _ _ _ _
  rw [← hL48]
  have hn48 : ∀ k, k ≠ 40 → L48 k = L47 k := fun k h => by rw [hL48]; exact va_up_ne _ _ h
  have hy48 : L48 40 = (sd_P (dA 5) 8 (va_up (va_up (va_up (va_up (va_up (va_up (va_up (va_up (fun _ => none) 0 (some 43)) 1 (some 48)) 2 (some 53)) 3 (some 58)) 4 (some 63)) 5 (some 68)) 6 (some 73)) 7 (some 78))) := by rw [hL48]; exact va_up_self _ _ _
  have hl48 : sd_loc 83 L48 := by rw [hL48]; exact sd_loc_at hl47 (sd_P_loc (sd_Pl_up (sd_Pl_up (sd_Pl_up (sd_Pl_up (sd_Pl_up (sd_Pl_up (sd_Pl_up (sd_Pl_up sd_Pl_none (by omega)) (by omega)) (by omega)) (by omega)) (by omega)) (by omega)) (by omega)) (by omega)))
  clear hL48
  have hlo : L48 0 = sd_O 0 [some (some 1), some (some 25), some (some 30), some (some 35), some (some 40), some (some 41), some (some 42), none, none, none, none, none] := (hn48 0 (by omega)).trans hlo
  have hs2 : isC 83 L48 dA := hs2.cg (by omega) (fun k h1 h2 => hn48 k (by omega))
  have hs5 : isS 83 L48 dA 25 := hs5.cg (by omega) (fun k h1 h2 => hn48 k (by omega))
  have hs8 : isS 83 L48 dA 30 := hs8.cg (by omega) (fun k h1 h2 => hn48 k (by omega))
  have hs11 : isS 83 L48 dA 35 := hs11.cg (by omega) (fun k h1 h2 => hn48 k (by omega))
  have hy15 : L48 41 = (sd_P (dA 6) 3 (fun _ => none)) := (hn48 41 (by omega)).trans hy15
  have hy17 : L48 42 = sd_O 4 [none, none, none, none] := (hn48 42 (by omega)).trans hy17
  have ht18 : isT 83 L48 42 := ⟨Nat.lt_of_lt_of_le ht18.1 (by omega), (hn48 42 (by omega)).trans ht18.2⟩
  have hfS : ∀ j, j < 8 → isS 83 L48 dA (43 + 5 * j) := fun j hj => (hfS j hj).cg (by omega) (fun k h1 h2 => hn48 k (by omega))
  refine x_iinc 1 0 [(1, .int 8), (0, .ref 0)] d_D_init_122 rfl (by decide) (by decide) rfl ?_
  refine x_goto 103 d_D_init_125 rfl ?_
  refine x_iload_n 1 0 d_D_init_103 rfl rfl ?_
  refine x_bipush (v := 8) d_D_init_104 (by decide) ?_
  refine x_icmp_ge 128 d_D_init_106 rfl (fun _ => ?_) (fun hc => absurd (by decide) hc)
  refine x_iconst (v := 0) d_D_init_128 (by decide) ?_
  refine x_istore_n 1 [(1, .int 0), (0, .ref 0)] d_D_init_129 rfl (by decide) rfl ?_
  refine x_iload_n 1 0 d_D_init_130 rfl rfl ?_
  refine x_iconst (v := 3) d_D_init_131 (by decide) ?_
  refine x_icmp_ge 154 d_D_init_132 rfl (fun hc => absurd hc (by decide)) (fun _ => ?_)
  refine x_aload_n 0 1 d_D_init_135 rfl rfl ?_
  refine x_getr 5 41 d_D_init_136 (by omega) hlo rfl rfl (by decide) lay_D (List.mem_cons_of_mem _ q268) rfl ?_
  refine x_iload_n 1 0 d_D_init_139 rfl rfl ?_
  refine x_new (rc := 32) (rs := 1782) (n := 83) [none, some none, some none] hA47 hl48 (List.forall_mem_cons.mpr ⟨sd_bel_i, List.forall_mem_cons.mpr ⟨(sd_bel_r (by omega)), fun _ h => absurd h List.not_mem_nil⟩⟩) (List.forall_mem_cons.mpr ⟨sd_bel_i, List.forall_mem_cons.mpr ⟨(sd_bel_r (by omega)), fun _ h => absurd h List.not_mem_nil⟩⟩) d_D_init_140 (ci := 3) (N := 3) (C := "SettingsDesk$Session") (T := T_N) rfl ty_N ty_N_ok lay_N (List.mem_cons_of_mem _ q628) (List.mem_cons_of_mem _ q630) (List.mem_cons_of_mem _ q354) (sd_nr rfl) (by decide +kernel) rfl rfl (fun ad49 L49 M49 hA49 hl49 hu49 hy49 hq49 e49 => ?_)
  have hw := hw M49 e49
  clear e49
  have hlo : L49 0 = sd_O 0 [some (some 1), some (some 25), some (some 30), some (some 35), some (some 40), some (some 41), some (some 42), none, none, none, none, none] := (hu49.2 0 (by omega)).trans hlo
  have hs2 : isC 84 L49 dA := hs2.cg (by omega) (fun k h1 h2 => hu49.2 k (by omega))
  have hs5 : isS 84 L49 dA 25 := hs5.cg (by omega) (fun k h1 h2 => hu49.2 k (by omega))
  have hs8 : isS 84 L49 dA 30 := hs8.cg (by omega) (fun k h1 h2 => hu49.2 k (by omega))
  have hs11 : isS 84 L49 dA 35 := hs11.cg (by omega) (fun k h1 h2 => hu49.2 k (by omega))
  have hy15 : L49 41 = (sd_P (dA 6) 3 (fun _ => none)) := (hu49.2 41 (by omega)).trans hy15
  have hy17 : L49 42 = sd_O 4 [none, none, none, none] := (hu49.2 42 (by omega)).trans hy17
  have ht18 : isT 84 L49 42 := ⟨Nat.lt_of_lt_of_le ht18.1 (by omega), (hu49.2 42 (by omega)).trans ht18.2⟩
  have hfS : ∀ j, j < 8 → isS 84 L49 dA (43 + 5 * j) := fun j hj => (hfS j hj).cg (by omega) (fun k h1 h2 => hu49.2 k (by omega))
  have hy48 : L49 40 = (sd_P (dA 5) 8 (va_up (va_up (va_up (va_up (va_up (va_up (va_up (va_up (fun _ => none) 0 (some 43)) 1 (some 48)) 2 (some 53)) 3 (some 58)) 4 (some 63)) 5 (some 68)) 6 (some 73)) 7 (some 78))) := (hu49.2 40 (by omega)).trans hy48
  refine x_dup d_D_init_143 rfl ?_
  refine x_callIg (As := []) (t := 83) (rest := [.ref 83, .int 0, .ref 41]) (rc := 22) (rs := 1190) (na := 0) (host := "SettingsDesk") (c_N_init (o := 83) hA49 hT hl49 hy49 hw) (sd_goodB q631) ⟨_, rfl⟩ (List.mem_cons_of_mem _ q354) (List.mem_cons_of_mem _ q632) (Or.inr (List.mem_of_getElem? (i := 3) rfl)) ⟨rfl, by decide, by decide, by decide +kernel⟩ ⟨rfl, rfl, rfl, rfl⟩ ⟨by decide, by decide⟩ d_D_init_144 rfl rfl (Nat.le_of_ble_eq_true rfl) (fun _ _ h => h) (fun v M50 H50 hq9 hF9 => ?_)
  obtain ⟨ad50, L50, hq50, hA50, hl50, hk50, hs50, hH50⟩ := hF9
  refine ⟨hq9.1, 94, ad50, L50, hH50, sd_l_ext hq50 (List.forall_mem_cons.mpr ⟨sd_bel_i, List.forall_mem_cons.mpr ⟨(sd_bel_r (by omega)), fun _ h => absurd h List.not_mem_nil⟩⟩), sd_map_ext hq50 (List.forall_mem_cons.mpr ⟨(sd_bel_r (by omega)), List.forall_mem_cons.mpr ⟨sd_bel_i, List.forall_mem_cons.mpr ⟨(sd_bel_r (by omega)), fun _ h => absurd h List.not_mem_nil⟩⟩⟩), ?_⟩
  have hw := hq9.2
  clear hq9
  clear hH50
  have hlo : L50 0 = sd_O 0 [some (some 1), some (some 25), some (some 30), some (some 35), some (some 40), some (some 41), some (some 42), none, none, none, none, none] := (hk50 0 (by omega)).trans hlo
  have hs2 : isC 94 L50 dA := hs2.cg (by omega) (fun k h1 h2 => hk50 k (by omega))
  have hs5 : isS 94 L50 dA 25 := hs5.cg (by omega) (fun k h1 h2 => hk50 k (by omega))
  have hs8 : isS 94 L50 dA 30 := hs8.cg (by omega) (fun k h1 h2 => hk50 k (by omega))
  have hs11 : isS 94 L50 dA 35 := hs11.cg (by omega) (fun k h1 h2 => hk50 k (by omega))
  have hy15 : L50 41 = (sd_P (dA 6) 3 (fun _ => none)) := (hk50 41 (by omega)).trans hy15
  have hy17 : L50 42 = sd_O 4 [none, none, none, none] := (hk50 42 (by omega)).trans hy17
  have ht18 : isT 94 L50 42 := ⟨Nat.lt_of_lt_of_le ht18.1 (by omega), (hk50 42 (by omega)).trans ht18.2⟩
  have hfS : ∀ j, j < 8 → isS 94 L50 dA (43 + 5 * j) := fun j hj => (hfS j hj).cg (by omega) (fun k h1 h2 => hk50 k (by omega))
  have hy48 : L50 40 = (sd_P (dA 5) 8 (va_up (va_up (va_up (va_up (va_up (va_up (va_up (va_up (fun _ => none) 0 (some 43)) 1 (some 48)) 2 (some 53)) 3 (some 58)) 4 (some 63)) 5 (some 68)) 6 (some 73)) 7 (some 78))) := (hk50 40 (by omega)).trans hy48
  have hfN : ∀ j, j < 1 → isN 94 L50 dA (83 + 11 * j) := fun j hj => by obtain rfl : j = 0 := by omega; exact hs50
  refine x_aast (t0 := 6) (u := 83) hA50 d_D_init_147 (by omega) hy15 (by omega) (hfN 0 (by decide)).2.1 rfl rfl (vp_in_nI (n := 0) (N := 3) (by decide) (by decide)) ?_
  obtain ⟨L51, hL51⟩ : ∃ z, z = va_up L50 41 (sd_P (dA 6) 3 (va_up (fun _ => none) 0 (some 83))) := ⟨_, rfl⟩
  show sdW l (sdE0 sc) Y_D_init D (sd_tys dA) b _ _ (va_up L50 41 (sd_P (dA 6) 3 (va_up (fun _ => none) 0 (some 83)))) ad _ _ _ _ _ _ _ _ _
  rw [← hL51]
  have hn51 : ∀ k, k ≠ 41 → L51 k = L50 k := fun k h => by rw [hL51]; exact va_up_ne _ _ h
  have hy51 : L51 41 = (sd_P (dA 6) 3 (va_up (fun _ => none) 0 (some 83))) := by rw [hL51]; exact va_up_self _ _ _
  have hl51 : sd_loc 94 L51 := by rw [hL51]; exact sd_loc_at hl50 (sd_P_loc (sd_Pl_up sd_Pl_none (by omega)))
  clear hL51
  have hlo : L51 0 = sd_O 0 [some (some 1), some (some 25), some (some 30), some (some 35), some (some 40), some (some 41), some (some 42), none, none, none, none, none] := (hn51 0 (by omega)).trans hlo
  have hs2 : isC 94 L51 dA := hs2.cg (by omega) (fun k h1 h2 => hn51 k (by omega))
  have hs5 : isS 94 L51 dA 25 := hs5.cg (by omega) (fun k h1 h2 => hn51 k (by omega))
  have hs8 : isS 94 L51 dA 30 := hs8.cg (by omega) (fun k h1 h2 => hn51 k (by omega))
  have hs11 : isS 94 L51 dA 35 := hs11.cg (by omega) (fun k h1 h2 => hn51 k (by omega))
  have hy17 : L51 42 = sd_O 4 [none, none, none, none] := (hn51 42 (by omega)).trans hy17
  have ht18 : isT 94 L51 42 := ⟨Nat.lt_of_lt_of_le ht18.1 (by omega), (hn51 42 (by omega)).trans ht18.2⟩
  have hfS : ∀ j, j < 8 → isS 94 L51 dA (43 + 5 * j) := fun j hj => (hfS j hj).cg (by omega) (fun k h1 h2 => hn51 k (by omega))
  have hy48 : L51 40 = (sd_P (dA 5) 8 (va_up (va_up (va_up (va_up (va_up (va_up (va_up (va_up (fun _ => none) 0 (some 43)) 1 (some 48)) 2 (some 53)) 3 (some 58)) 4 (some 63)) 5 (some 68)) 6 (some 73)) 7 (some 78))) := (hn51 40 (by omega)).trans hy48
  have hfN : ∀ j, j < 1 → isN 94 L51 dA (83 + 11 * j) := fun j hj => (hfN j hj).cg (by omega) (fun k h1 h2 => hn51 k (by omega))
  refine x_iinc 1 0 [(1, .int 1), (0, .ref 0)] d_D_init_148 rfl (by decide) (by decide) rfl ?_
  refine x_goto 130 d_D_init_151 rfl ?_
  refine x_iload_n 1 0 d_D_init_130 rfl rfl ?_
  refine x_iconst (v := 3) d_D_init_131 (by decide) ?_
  refine x_icmp_ge 154 d_D_init_132 rfl (fun hc => absurd hc (by decide)) (fun _ => ?_)
  refine x_aload_n 0 1 d_D_init_135 rfl rfl ?_
  refine x_getr 5 41 d_D_init_136 (by omega) hlo rfl rfl (by decide) lay_D (List.mem_cons_of_mem _ q268) rfl ?_
  refine x_iload_n 1 0 d_D_init_139 rfl rfl ?_
  refine x_new (rc := 21) (rs := 1187) (n := 94) [none, some none, some none] hA50 hl51 (List.forall_mem_cons.mpr ⟨sd_bel_i, List.forall_mem_cons.mpr ⟨(sd_bel_r (by omega)), fun _ h => absurd h List.not_mem_nil⟩⟩) (List.forall_mem_cons.mpr ⟨sd_bel_i, List.forall_mem_cons.mpr ⟨(sd_bel_r (by omega)), fun _ h => absurd h List.not_mem_nil⟩⟩) d_D_init_140 (ci := 3) (N := 3) (C := "SettingsDesk$Session") (T := T_N) rfl ty_N ty_N_ok lay_N (List.mem_cons_of_mem _ q628) (List.mem_cons_of_mem _ q630) (List.mem_cons_of_mem _ q354) (sd_nr rfl) (by decide +kernel) rfl rfl (fun ad52 L52 M52 hA52 hl52 hu52 hy52 hq52 e52 => ?_)
  have hw := hw M52 e52
  clear e52
  have hlo : L52 0 = sd_O 0 [some (some 1), some (some 25), some (some 30), some (some 35), some (some 40), some (some 41), some (some 42), none, none, none, none, none] := (hu52.2 0 (by omega)).trans hlo
  have hs2 : isC 95 L52 dA := hs2.cg (by omega) (fun k h1 h2 => hu52.2 k (by omega))
  have hs5 : isS 95 L52 dA 25 := hs5.cg (by omega) (fun k h1 h2 => hu52.2 k (by omega))
  have hs8 : isS 95 L52 dA 30 := hs8.cg (by omega) (fun k h1 h2 => hu52.2 k (by omega))
  have hs11 : isS 95 L52 dA 35 := hs11.cg (by omega) (fun k h1 h2 => hu52.2 k (by omega))
  have hy17 : L52 42 = sd_O 4 [none, none, none, none] := (hu52.2 42 (by omega)).trans hy17
  have ht18 : isT 95 L52 42 := ⟨Nat.lt_of_lt_of_le ht18.1 (by omega), (hu52.2 42 (by omega)).trans ht18.2⟩
  have hfS : ∀ j, j < 8 → isS 95 L52 dA (43 + 5 * j) := fun j hj => (hfS j hj).cg (by omega) (fun k h1 h2 => hu52.2 k (by omega))
  have hy48 : L52 40 = (sd_P (dA 5) 8 (va_up (va_up (va_up (va_up (va_up (va_up (va_up (va_up (fun _ => none) 0 (some 43)) 1 (some 48)) 2 (some 53)) 3 (some 58)) 4 (some 63)) 5 (some 68)) 6 (some 73)) 7 (some 78))) := (hu52.2 40 (by omega)).trans hy48
  have hfN : ∀ j, j < 1 → isN 95 L52 dA (83 + 11 * j) := fun j hj => (hfN j hj).cg (by omega) (fun k h1 h2 => hu52.2 k (by omega))
  have hy51 : L52 41 = (sd_P (dA 6) 3 (va_up (fun _ => none) 0 (some 83))) := (hu52.2 41 (by omega)).trans hy51
  refine x_dup d_D_init_143 rfl ?_
  refine x_callIg (As := []) (t := 94) (rest := [.ref 94, .int 1, .ref 41]) (rc := 11) (rs := 595) (na := 0) (host := "SettingsDesk") (c_N_init (o := 94) hA52 hT hl52 hy52 hw) (sd_goodB q631) ⟨_, rfl⟩ (List.mem_cons_of_mem _ q354) (List.mem_cons_of_mem _ q632) (Or.inr (List.mem_of_getElem? (i := 3) rfl)) ⟨rfl, by decide, by decide, by decide +kernel⟩ ⟨rfl, rfl, rfl, rfl⟩ ⟨by decide, by decide⟩ d_D_init_144 rfl rfl (Nat.le_of_ble_eq_true rfl) (fun _ _ h => h) (fun v M53 H53 hq9 hF9 => ?_)
  obtain ⟨ad53, L53, hq53, hA53, hl53, hk53, hs53, hH53⟩ := hF9
  refine ⟨hq9.1, 105, ad53, L53, hH53, sd_l_ext hq53 (List.forall_mem_cons.mpr ⟨sd_bel_i, List.forall_mem_cons.mpr ⟨(sd_bel_r (by omega)), fun _ h => absurd h List.not_mem_nil⟩⟩), sd_map_ext hq53 (List.forall_mem_cons.mpr ⟨(sd_bel_r (by omega)), List.forall_mem_cons.mpr ⟨sd_bel_i, List.forall_mem_cons.mpr ⟨(sd_bel_r (by omega)), fun _ h => absurd h List.not_mem_nil⟩⟩⟩), ?_⟩
  have hw := hq9.2
  clear hq9
  clear hH53
  have hlo : L53 0 = sd_O 0 [some (some 1), some (some 25), some (some 30), some (some 35), some (some 40), some (some 41), some (some 42), none, none, none, none, none] := (hk53 0 (by omega)).trans hlo
  have hs2 : isC 105 L53 dA := hs2.cg (by omega) (fun k h1 h2 => hk53 k (by omega))
  have hs5 : isS 105 L53 dA 25 := hs5.cg (by omega) (fun k h1 h2 => hk53 k (by omega))
  have hs8 : isS 105 L53 dA 30 := hs8.cg (by omega) (fun k h1 h2 => hk53 k (by omega))
  have hs11 : isS 105 L53 dA 35 := hs11.cg (by omega) (fun k h1 h2 => hk53 k (by omega))
  have hy17 : L53 42 = sd_O 4 [none, none, none, none] := (hk53 42 (by omega)).trans hy17
  have ht18 : isT 105 L53 42 := ⟨Nat.lt_of_lt_of_le ht18.1 (by omega), (hk53 42 (by omega)).trans ht18.2⟩
  have hfS : ∀ j, j < 8 → isS 105 L53 dA (43 + 5 * j) := fun j hj => (hfS j hj).cg (by omega) (fun k h1 h2 => hk53 k (by omega))
  have hy48 : L53 40 = (sd_P (dA 5) 8 (va_up (va_up (va_up (va_up (va_up (va_up (va_up (va_up (fun _ => none) 0 (some 43)) 1 (some 48)) 2 (some 53)) 3 (some 58)) 4 (some 63)) 5 (some 68)) 6 (some 73)) 7 (some 78))) := (hk53 40 (by omega)).trans hy48
  have hfN : ∀ j, j < 1 → isN 105 L53 dA (83 + 11 * j) := fun j hj => (hfN j hj).cg (by omega) (fun k h1 h2 => hk53 k (by omega))
  have hy51 : L53 41 = (sd_P (dA 6) 3 (va_up (fun _ => none) 0 (some 83))) := (hk53 41 (by omega)).trans hy51
  have hfN : ∀ j, j < 2 → isN 105 L53 dA (83 + 11 * j) := fun j hj => by
    by_cases h9 : j = 1
    · subst h9; exact hs53
    · exact hfN j (by omega)
  refine x_aast (t0 := 6) (u := 94) hA53 d_D_init_147 (by omega) hy51 (by omega) (hfN 1 (by decide)).2.1 rfl rfl (vp_in_nI (n := 1) (N := 3) (by decide) (by decide)) ?_
  obtain ⟨L54, hL54⟩ : ∃ z, z = va_up L53 41 (sd_P (dA 6) 3 (va_up (va_up (fun _ => none) 0 (some 83)) 1 (some 94))) := ⟨_, rfl⟩
  show sdW l (sdE0 sc) Y_D_init D (sd_tys dA) b _ _ (va_up L53 41 (sd_P (dA 6) 3 (va_up (va_up (fun _ => none) 0 (some 83)) 1 (some 94)))) ad _ _ _ _ _ _ _ _ _
  rw [← hL54]
  have hn54 : ∀ k, k ≠ 41 → L54 k = L53 k := fun k h => by rw [hL54]; exact va_up_ne _ _ h
  have hy54 : L54 41 = (sd_P (dA 6) 3 (va_up (va_up (fun _ => none) 0 (some 83)) 1 (some 94))) := by rw [hL54]; exact va_up_self _ _ _
  have hl54 : sd_loc 105 L54 := by rw [hL54]; exact sd_loc_at hl53 (sd_P_loc (sd_Pl_up (sd_Pl_up sd_Pl_none (by omega)) (by omega)))
  clear hL54
  have hlo : L54 0 = sd_O 0 [some (some 1), some (some 25), some (some 30), some (some 35), some (some 40), some (some 41), some (some 42), none, none, none, none, none] := (hn54 0 (by omega)).trans hlo
  have hs2 : isC 105 L54 dA := hs2.cg (by omega) (fun k h1 h2 => hn54 k (by omega))
  have hs5 : isS 105 L54 dA 25 := hs5.cg (by omega) (fun k h1 h2 => hn54 k (by omega))
  have hs8 : isS 105 L54 dA 30 := hs8.cg (by omega) (fun k h1 h2 => hn54 k (by omega))
  have hs11 : isS 105 L54 dA 35 := hs11.cg (by omega) (fun k h1 h2 => hn54 k (by omega))
  have hy17 : L54 42 = sd_O 4 [none, none, none, none] := (hn54 42 (by omega)).trans hy17
  have ht18 : isT 105 L54 42 := ⟨Nat.lt_of_lt_of_le ht18.1 (by omega), (hn54 42 (by omega)).trans ht18.2⟩
  have hfS : ∀ j, j < 8 → isS 105 L54 dA (43 + 5 * j) := fun j hj => (hfS j hj).cg (by omega) (fun k h1 h2 => hn54 k (by omega))
  have hy48 : L54 40 = (sd_P (dA 5) 8 (va_up (va_up (va_up (va_up (va_up (va_up (va_up (va_up (fun _ => none) 0 (some 43)) 1 (some 48)) 2 (some 53)) 3 (some 58)) 4 (some 63)) 5 (some 68)) 6 (some 73)) 7 (some 78))) := (hn54 40 (by omega)).trans hy48
  have hfN : ∀ j, j < 2 → isN 105 L54 dA (83 + 11 * j) := fun j hj => (hfN j hj).cg (by omega) (fun k h1 h2 => hn54 k (by omega))
  refine x_iinc 1 0 [(1, .int 2), (0, .ref 0)] d_D_init_148 rfl (by decide) (by decide) rfl ?_
  refine x_goto 130 d_D_init_151 rfl ?_
  refine x_iload_n 1 0 d_D_init_130 rfl rfl ?_
  refine x_iconst (v := 3) d_D_init_131 (by decide) ?_
  refine x_icmp_ge 154 d_D_init_132 rfl (fun hc => absurd hc (by decide)) (fun _ => ?_)
  refine x_aload_n 0 1 d_D_init_135 rfl rfl ?_
  refine x_getr 5 41 d_D_init_136 (by omega) hlo rfl rfl (by decide) lay_D (List.mem_cons_of_mem _ q268) rfl ?_
  refine x_iload_n 1 0 d_D_init_139 rfl rfl ?_
  refine x_new (rc := 10) (rs := 592) (n := 105) [none, some none, some none] hA53 hl54 (List.forall_mem_cons.mpr ⟨sd_bel_i, List.forall_mem_cons.mpr ⟨(sd_bel_r (by omega)), fun _ h => absurd h List.not_mem_nil⟩⟩) (List.forall_mem_cons.mpr ⟨sd_bel_i, List.forall_mem_cons.mpr ⟨(sd_bel_r (by omega)), fun _ h => absurd h List.not_mem_nil⟩⟩) d_D_init_140 (ci := 3) (N := 3) (C := "SettingsDesk$Session") (T := T_N) rfl ty_N ty_N_ok lay_N (List.mem_cons_of_mem _ q628) (List.mem_cons_of_mem _ q630) (List.mem_cons_of_mem _ q354) (sd_nr rfl) (by decide +kernel) rfl rfl (fun ad55 L55 M55 hA55 hl55 hu55 hy55 hq55 e55 => ?_)
  have hw := hw M55 e55
  clear e55
  have hlo : L55 0 = sd_O 0 [some (some 1), some (some 25), some (some 30), some (some 35), some (some 40), some (some 41), some (some 42), none, none, none, none, none] := (hu55.2 0 (by omega)).trans hlo
  have hs2 : isC 106 L55 dA := hs2.cg (by omega) (fun k h1 h2 => hu55.2 k (by omega))
  have hs5 : isS 106 L55 dA 25 := hs5.cg (by omega) (fun k h1 h2 => hu55.2 k (by omega))
  have hs8 : isS 106 L55 dA 30 := hs8.cg (by omega) (fun k h1 h2 => hu55.2 k (by omega))
  have hs11 : isS 106 L55 dA 35 := hs11.cg (by omega) (fun k h1 h2 => hu55.2 k (by omega))
  have hy17 : L55 42 = sd_O 4 [none, none, none, none] := (hu55.2 42 (by omega)).trans hy17
  have ht18 : isT 106 L55 42 := ⟨Nat.lt_of_lt_of_le ht18.1 (by omega), (hu55.2 42 (by omega)).trans ht18.2⟩
  have hfS : ∀ j, j < 8 → isS 106 L55 dA (43 + 5 * j) := fun j hj => (hfS j hj).cg (by omega) (fun k h1 h2 => hu55.2 k (by omega))
  have hy48 : L55 40 = (sd_P (dA 5) 8 (va_up (va_up (va_up (va_up (va_up (va_up (va_up (va_up (fun _ => none) 0 (some 43)) 1 (some 48)) 2 (some 53)) 3 (some 58)) 4 (some 63)) 5 (some 68)) 6 (some 73)) 7 (some 78))) := (hu55.2 40 (by omega)).trans hy48
  have hfN : ∀ j, j < 2 → isN 106 L55 dA (83 + 11 * j) := fun j hj => (hfN j hj).cg (by omega) (fun k h1 h2 => hu55.2 k (by omega))
  have hy54 : L55 41 = (sd_P (dA 6) 3 (va_up (va_up (fun _ => none) 0 (some 83)) 1 (some 94))) := (hu55.2 41 (by omega)).trans hy54
  refine x_dup d_D_init_143 rfl ?_
  refine x_callIg (As := []) (t := 105) (rest := [.ref 105, .int 2, .ref 41]) (rc := 0) (rs := 0) (na := 0) (host := "SettingsDesk") (c_N_init (o := 105) hA55 hT hl55 hy55 hw) (sd_goodB q631) ⟨_, rfl⟩ (List.mem_cons_of_mem _ q354) (List.mem_cons_of_mem _ q632) (Or.inr (List.mem_of_getElem? (i := 3) rfl)) ⟨rfl, by decide, by decide, by decide +kernel⟩ ⟨rfl, rfl, rfl, rfl⟩ ⟨by decide, by decide⟩ d_D_init_144 rfl rfl (Nat.le_of_ble_eq_true rfl) (fun _ _ h => h) (fun v M56 H56 hq9 hF9 => ?_)
  obtain ⟨ad56, L56, hq56, hA56, hl56, hk56, hs56, hH56⟩ := hF9
  refine ⟨hq9.1, 116, ad56, L56, hH56, sd_l_ext hq56 (List.forall_mem_cons.mpr ⟨sd_bel_i, List.forall_mem_cons.mpr ⟨(sd_bel_r (by omega)), fun _ h => absurd h List.not_mem_nil⟩⟩), sd_map_ext hq56 (List.forall_mem_cons.mpr ⟨(sd_bel_r (by omega)), List.forall_mem_cons.mpr ⟨sd_bel_i, List.forall_mem_cons.mpr ⟨(sd_bel_r (by omega)), fun _ h => absurd h List.not_mem_nil⟩⟩⟩), ?_⟩
  have hw := hq9.2
  clear hq9
  clear hH56
  have hlo : L56 0 = sd_O 0 [some (some 1), some (some 25), some (some 30), some (some 35), some (some 40), some (some 41), some (some 42), none, none, none, none, none] := (hk56 0 (by omega)).trans hlo
  have hs2 : isC 116 L56 dA := hs2.cg (by omega) (fun k h1 h2 => hk56 k (by omega))
  have hs5 : isS 116 L56 dA 25 := hs5.cg (by omega) (fun k h1 h2 => hk56 k (by omega))
  have hs8 : isS 116 L56 dA 30 := hs8.cg (by omega) (fun k h1 h2 => hk56 k (by omega))
  have hs11 : isS 116 L56 dA 35 := hs11.cg (by omega) (fun k h1 h2 => hk56 k (by omega))
  have hy17 : L56 42 = sd_O 4 [none, none, none, none] := (hk56 42 (by omega)).trans hy17
  have ht18 : isT 116 L56 42 := ⟨Nat.lt_of_lt_of_le ht18.1 (by omega), (hk56 42 (by omega)).trans ht18.2⟩
  have hfS : ∀ j, j < 8 → isS 116 L56 dA (43 + 5 * j) := fun j hj => (hfS j hj).cg (by omega) (fun k h1 h2 => hk56 k (by omega))
  have hy48 : L56 40 = (sd_P (dA 5) 8 (va_up (va_up (va_up (va_up (va_up (va_up (va_up (va_up (fun _ => none) 0 (some 43)) 1 (some 48)) 2 (some 53)) 3 (some 58)) 4 (some 63)) 5 (some 68)) 6 (some 73)) 7 (some 78))) := (hk56 40 (by omega)).trans hy48
  have hfN : ∀ j, j < 2 → isN 116 L56 dA (83 + 11 * j) := fun j hj => (hfN j hj).cg (by omega) (fun k h1 h2 => hk56 k (by omega))
  have hy54 : L56 41 = (sd_P (dA 6) 3 (va_up (va_up (fun _ => none) 0 (some 83)) 1 (some 94))) := (hk56 41 (by omega)).trans hy54
  have hfN : ∀ j, j < 3 → isN 116 L56 dA (83 + 11 * j) := fun j hj => by
    by_cases h9 : j = 2
    · subst h9; exact hs56
    · exact hfN j (by omega)
  refine x_aast (t0 := 6) (u := 105) hA56 d_D_init_147 (by omega) hy54 (by omega) (hfN 2 (by decide)).2.1 rfl rfl (vp_in_nI (n := 2) (N := 3) (by decide) (by decide)) ?_
  obtain ⟨L57, hL57⟩ : ∃ z, z = va_up L56 41 (sd_P (dA 6) 3 (va_up (va_up (va_up (fun _ => none) 0 (some 83)) 1 (some 94)) 2 (some 105))) := ⟨_, rfl⟩
  show sdW l (sdE0 sc) Y_D_init D (sd_tys dA) b _ _ (va_up L56 41 (sd_P (dA 6) 3 (va_up (va_up (va_up (fun _ => none) 0 (some 83)) 1 (some 94)) 2 (some 105)))) ad _ _ _ _ _ _ _ _ _
  rw [← hL57]
  have hn57 : ∀ k, k ≠ 41 → L57 k = L56 k := fun k h => by rw [hL57]; exact va_up_ne _ _ h
  have hy57 : L57 41 = (sd_P (dA 6) 3 (va_up (va_up (va_up (fun _ => none) 0 (some 83)) 1 (some 94)) 2 (some 105))) := by rw [hL57]; exact va_up_self _ _ _
  have hl57 : sd_loc 116 L57 := by rw [hL57]; exact sd_loc_at hl56 (sd_P_loc (sd_Pl_up (sd_Pl_up (sd_Pl_up sd_Pl_none (by omega)) (by omega)) (by omega)))
  clear hL57
  have hlo : L57 0 = sd_O 0 [some (some 1), some (some 25), some (some 30), some (some 35), some (some 40), some (some 41), some (some 42), none, none, none, none, none] := (hn57 0 (by omega)).trans hlo
  have hs2 : isC 116 L57 dA := hs2.cg (by omega) (fun k h1 h2 => hn57 k (by omega))
  have hs5 : isS 116 L57 dA 25 := hs5.cg (by omega) (fun k h1 h2 => hn57 k (by omega))
  have hs8 : isS 116 L57 dA 30 := hs8.cg (by omega) (fun k h1 h2 => hn57 k (by omega))
  have hs11 : isS 116 L57 dA 35 := hs11.cg (by omega) (fun k h1 h2 => hn57 k (by omega))
  have hy17 : L57 42 = sd_O 4 [none, none, none, none] := (hn57 42 (by omega)).trans hy17
  have ht18 : isT 116 L57 42 := ⟨Nat.lt_of_lt_of_le ht18.1 (by omega), (hn57 42 (by omega)).trans ht18.2⟩
  have hfS : ∀ j, j < 8 → isS 116 L57 dA (43 + 5 * j) := fun j hj => (hfS j hj).cg (by omega) (fun k h1 h2 => hn57 k (by omega))
  have hy48 : L57 40 = (sd_P (dA 5) 8 (va_up (va_up (va_up (va_up (va_up (va_up (va_up (va_up (fun _ => none) 0 (some 43)) 1 (some 48)) 2 (some 53)) 3 (some 58)) 4 (some 63)) 5 (some 68)) 6 (some 73)) 7 (some 78))) := (hn57 40 (by omega)).trans hy48
  have hfN : ∀ j, j < 3 → isN 116 L57 dA (83 + 11 * j) := fun j hj => (hfN j hj).cg (by omega) (fun k h1 h2 => hn57 k (by omega))
  refine x_iinc 1 0 [(1, .int 3), (0, .ref 0)] d_D_init_148 rfl (by decide) (by decide) rfl ?_
  refine x_goto 130 d_D_init_151 rfl ?_
  refine x_iload_n 1 0 d_D_init_130 rfl rfl ?_
  refine x_iconst (v := 3) d_D_init_131 (by decide) ?_
  refine x_icmp_ge 154 d_D_init_132 rfl (fun _ => ?_) (fun hc => absurd (by decide) hc)
  obtain ⟨L58, hL58⟩ : ∃ z, z = (va_up (va_up L57 40 (sd_Q (dA 5) 8 (fun j => 43 + 5 * j))) 41 (sd_Q (dA 6) 3 (fun j => 83 + 11 * j))) := ⟨_, rfl⟩
  have hn58 : ∀ k, k ≠ 40 → k ≠ 41 → L58 k = L57 k := fun k h h2 => by rw [hL58, va_up_ne _ _ h2, va_up_ne _ _ h]
  have hz1 : L58 40 = (sd_Q (dA 5) 8 (fun j => 43 + 5 * j)) := by rw [hL58, va_up_ne _ _ (by decide), va_up_self]
  have hz2 : L58 41 = (sd_Q (dA 6) 3 (fun j => 83 + 11 * j)) := by rw [hL58, va_up_self]
  have hl58 : sd_loc 116 L58 := by rw [hL58]; exact sd_loc_at (sd_loc_at hl57 (sd_Q_loc (fun j hj => by omega))) (sd_Q_loc (fun j hj => by omega))
  have hH58 : ∀ (M : sdM) (H : Heap), sd_H D (sdE0 sc).1 116 ad56 L57 M H → sd_H D (sdE0 sc).1 116 ad56 L58 M H := fun M H h => by
    rw [hL58]
    refine sd_H_at (sd_H_at h (fun _ hv => ?_)) (fun _ hv => ?_)
    · rw [hy48] at hv; exact sd_full (by decide) hv
    · rw [va_up_ne _ _ (by decide), hy57] at hv; exact sd_full (by decide) hv
  clear hL58
  have hlo : L58 0 = sd_O 0 [some (some 1), some (some 25), some (some 30), some (some 35), some (some 40), some (some 41), some (some 42), none, none, none, none, none] := (hn58 0 (by omega) (by omega)).trans hlo
  have hs2 : isC 116 L58 dA := hs2.cg (by omega) (fun k h1 h2 => hn58 k (by omega) (by omega))
  have hs5 : isS 116 L58 dA 25 := hs5.cg (by omega) (fun k h1 h2 => hn58 k (by omega) (by omega))
  have hs8 : isS 116 L58 dA 30 := hs8.cg (by omega) (fun k h1 h2 => hn58 k (by omega) (by omega))
  have hs11 : isS 116 L58 dA 35 := hs11.cg (by omega) (fun k h1 h2 => hn58 k (by omega) (by omega))
  have hy17 : L58 42 = sd_O 4 [none, none, none, none] := (hn58 42 (by omega) (by omega)).trans hy17
  have ht18 : isT 116 L58 42 := ⟨Nat.lt_of_lt_of_le ht18.1 (by omega), (hn58 42 (by omega) (by omega)).trans ht18.2⟩
  have hfS : ∀ j, j < 8 → isS 116 L58 dA (43 + 5 * j) := fun j hj => (hfS j hj).cg (by omega) (fun k h1 h2 => hn58 k (by omega) (by omega))
  have hfN : ∀ j, j < 3 → isN 116 L58 dA (83 + 11 * j) := fun j hj => (hfN j hj).cg (by omega) (fun k h1 h2 => hn58 k (by omega) (by omega))
  exact x_vret d_D_init_154 rfl (fun H h => ⟨ad56, L58, (fun k hk => ((hq56 k (by omega)).trans ((hq55 k (by omega)).trans ((hq53 k (by omega)).trans ((hq52 k (by omega)).trans ((hq50 k (by omega)).trans ((hq49 k (by omega)).trans ((hq47 k (by omega)).trans ((hq46 k (by omega)).trans ((hq44 k (by omega)).trans ((hq43 k (by omega)).trans ((hq41 k (by omega)).trans ((hq40 k (by omega)).trans ((hq38 k (by omega)).trans ((hq37 k (by omega)).trans ((hq35 k (by omega)).trans ((hq34 k (by omega)).trans ((hq32 k (by omega)).trans ((hq31 k (by omega)).trans ((hq29 k (by omega)).trans ((hq28 k (by omega)).trans ((hq26 k (by omega)).trans ((hq25 k (by omega)).trans ((hq17 k (by omega)).trans ((hq15 k (by omega)).trans ((hq13 k (by omega)).trans ((hq11 k (by omega)).trans ((hq10 k (by omega)).trans ((hq8 k (by omega)).trans ((hq7 k (by omega)).trans ((hq5 k (by omega)).trans ((hq4 k (by omega)).trans ((hq2 k (by omega)).trans (hq1 k (by omega))))))))))))))))))))))))))))))))))), hA56, hl58, ⟨by omega, hlo, hs2, hs5, hs8, hs11, ⟨by omega, hz1⟩, ⟨by omega, hz2⟩, ht18, hfS, hfN⟩, hH58 _ H h⟩) ⟨rfl, hw⟩
end
theorem q633 : (.methodLink "SettingsDeskModel" 1 ⟨"java/lang/Object", "<init>", "()V"⟩ : Cond) ∈ sdB0 := sd_tb4 158 rfl rfl
theorem q634 : (.arrayClass .boolean : Cond) ∈ sdB0 := sd_tb5 25 rfl rfl
abbrev y_O_init : MethodName := ⟨"SettingsDeskModel", "<init>", "()V"⟩
theorem d_O_init_0 : decode prog_12_method_1_code 0 = .ok (.aload_n 0, 1) := by decide +kernel
theorem d_O_init_1 : decode prog_12_method_1_code 1 = .ok (.invokespecial 1, 3) := by decide +kernel
theorem d_O_init_4 : decode prog_12_method_1_code 4 = .ok (.aload_n 0, 1) := by decide +kernel
theorem d_O_init_5 : decode prog_12_method_1_code 5 = .ok (.iconst 1, 1) := by decide +kernel
theorem d_O_init_6 : decode prog_12_method_1_code 6 = .ok (.putfield 7, 3) := by decide +kernel
theorem d_O_init_9 : decode prog_12_method_1_code 9 = .ok (.aload_n 0, 1) := by decide +kernel
theorem d_O_init_10 : decode prog_12_method_1_code 10 = .ok (.iconst 4, 1) := by decide +kernel
theorem d_O_init_11 : decode prog_12_method_1_code 11 = .ok (.newarray .int, 2) := by decide +kernel
theorem d_O_init_13 : decode prog_12_method_1_code 13 = .ok (.putfield 13, 3) := by decide +kernel
theorem d_O_init_16 : decode prog_12_method_1_code 16 = .ok (.aload_n 0, 1) := by decide +kernel
theorem d_O_init_17 : decode prog_12_method_1_code 17 = .ok (.bipush (16), 2) := by decide +kernel
theorem d_O_init_19 : decode prog_12_method_1_code 19 = .ok (.newarray .boolean, 2) := by decide +kernel
theorem d_O_init_21 : decode prog_12_method_1_code 21 = .ok (.putfield 17, 3) := by decide +kernel
theorem d_O_init_24 : decode prog_12_method_1_code 24 = .ok (.aload_n 0, 1) := by decide +kernel
theorem d_O_init_25 : decode prog_12_method_1_code 25 = .ok (.bipush (16), 2) := by decide +kernel
theorem d_O_init_27 : decode prog_12_method_1_code 27 = .ok (.newarray .int, 2) := by decide +kernel
theorem d_O_init_29 : decode prog_12_method_1_code 29 = .ok (.putfield 21, 3) := by decide +kernel
theorem d_O_init_32 : decode prog_12_method_1_code 32 = .ok (.aload_n 0, 1) := by decide +kernel
theorem d_O_init_33 : decode prog_12_method_1_code 33 = .ok (.bipush (16), 2) := by decide +kernel
theorem d_O_init_35 : decode prog_12_method_1_code 35 = .ok (.newarray .int, 2) := by decide +kernel
theorem d_O_init_37 : decode prog_12_method_1_code 37 = .ok (.putfield 24, 3) := by decide +kernel
theorem d_O_init_40 : decode prog_12_method_1_code 40 = .ok (.aload_n 0, 1) := by decide +kernel
theorem d_O_init_41 : decode prog_12_method_1_code 41 = .ok (.bipush (16), 2) := by decide +kernel
theorem d_O_init_43 : decode prog_12_method_1_code 43 = .ok (.newarray .int, 2) := by decide +kernel
theorem d_O_init_45 : decode prog_12_method_1_code 45 = .ok (.putfield 27, 3) := by decide +kernel
theorem d_O_init_48 : decode prog_12_method_1_code 48 = .ok (.aload_n 0, 1) := by decide +kernel
theorem d_O_init_49 : decode prog_12_method_1_code 49 = .ok (.bipush (16), 2) := by decide +kernel
theorem d_O_init_51 : decode prog_12_method_1_code 51 = .ok (.newarray .boolean, 2) := by decide +kernel
theorem d_O_init_53 : decode prog_12_method_1_code 53 = .ok (.putfield 30, 3) := by decide +kernel
theorem d_O_init_56 : decode prog_12_method_1_code 56 = .ok (.aload_n 0, 1) := by decide +kernel
theorem d_O_init_57 : decode prog_12_method_1_code 57 = .ok (.bipush (16), 2) := by decide +kernel
theorem d_O_init_59 : decode prog_12_method_1_code 59 = .ok (.newarray .int, 2) := by decide +kernel
theorem d_O_init_61 : decode prog_12_method_1_code 61 = .ok (.putfield 33, 3) := by decide +kernel
theorem d_O_init_64 : decode prog_12_method_1_code 64 = .ok (.aload_n 0, 1) := by decide +kernel
theorem d_O_init_65 : decode prog_12_method_1_code 65 = .ok (.iconst 4, 1) := by decide +kernel
theorem d_O_init_66 : decode prog_12_method_1_code 66 = .ok (.newarray .int, 2) := by decide +kernel
theorem d_O_init_68 : decode prog_12_method_1_code 68 = .ok (.putfield 36, 3) := by decide +kernel
theorem d_O_init_71 : decode prog_12_method_1_code 71 = .ok (.aload_n 0, 1) := by decide +kernel
theorem d_O_init_72 : decode prog_12_method_1_code 72 = .ok (.iconst 4, 1) := by decide +kernel
theorem d_O_init_73 : decode prog_12_method_1_code 73 = .ok (.newarray .int, 2) := by decide +kernel
theorem d_O_init_75 : decode prog_12_method_1_code 75 = .ok (.putfield 39, 3) := by decide +kernel
theorem d_O_init_78 : decode prog_12_method_1_code 78 = .ok (.aload_n 0, 1) := by decide +kernel
theorem d_O_init_79 : decode prog_12_method_1_code 79 = .ok (.iconst 4, 1) := by decide +kernel
theorem d_O_init_80 : decode prog_12_method_1_code 80 = .ok (.newarray .int, 2) := by decide +kernel
theorem d_O_init_82 : decode prog_12_method_1_code 82 = .ok (.putfield 42, 3) := by decide +kernel
theorem d_O_init_85 : decode prog_12_method_1_code 85 = .ok (.aload_n 0, 1) := by decide +kernel
theorem d_O_init_86 : decode prog_12_method_1_code 86 = .ok (.iconst 4, 1) := by decide +kernel
theorem d_O_init_87 : decode prog_12_method_1_code 87 = .ok (.newarray .int, 2) := by decide +kernel
theorem d_O_init_89 : decode prog_12_method_1_code 89 = .ok (.putfield 45, 3) := by decide +kernel
theorem d_O_init_92 : decode prog_12_method_1_code 92 = .ok (.aload_n 0, 1) := by decide +kernel
theorem d_O_init_93 : decode prog_12_method_1_code 93 = .ok (.iconst 4, 1) := by decide +kernel
theorem d_O_init_94 : decode prog_12_method_1_code 94 = .ok (.newarray .boolean, 2) := by decide +kernel
theorem d_O_init_96 : decode prog_12_method_1_code 96 = .ok (.putfield 48, 3) := by decide +kernel
theorem d_O_init_99 : decode prog_12_method_1_code 99 = .ok (.aload_n 0, 1) := by decide +kernel
theorem d_O_init_100 : decode prog_12_method_1_code 100 = .ok (.bipush (68), 2) := by decide +kernel
theorem d_O_init_102 : decode prog_12_method_1_code 102 = .ok (.newarray .int, 2) := by decide +kernel
theorem d_O_init_104 : decode prog_12_method_1_code 104 = .ok (.putfield 51, 3) := by decide +kernel
theorem d_O_init_107 : decode prog_12_method_1_code 107 = .ok (.aload_n 0, 1) := by decide +kernel
theorem d_O_init_108 : decode prog_12_method_1_code 108 = .ok (.sipush (816), 3) := by decide +kernel
theorem d_O_init_111 : decode prog_12_method_1_code 111 = .ok (.newarray .int, 2) := by decide +kernel
theorem d_O_init_113 : decode prog_12_method_1_code 113 = .ok (.putfield 54, 3) := by decide +kernel
theorem d_O_init_116 : decode prog_12_method_1_code 116 = .ok (.aload_n 0, 1) := by decide +kernel
theorem d_O_init_117 : decode prog_12_method_1_code 117 = .ok (.sipush (816), 3) := by decide +kernel
theorem d_O_init_120 : decode prog_12_method_1_code 120 = .ok (.newarray .int, 2) := by decide +kernel
theorem d_O_init_122 : decode prog_12_method_1_code 122 = .ok (.putfield 57, 3) := by decide +kernel
theorem d_O_init_125 : decode prog_12_method_1_code 125 = .ok (.aload_n 0, 1) := by decide +kernel
theorem d_O_init_126 : decode prog_12_method_1_code 126 = .ok (.sipush (3264), 3) := by decide +kernel
theorem d_O_init_129 : decode prog_12_method_1_code 129 = .ok (.newarray .int, 2) := by decide +kernel
theorem d_O_init_131 : decode prog_12_method_1_code 131 = .ok (.putfield 60, 3) := by decide +kernel
theorem d_O_init_134 : decode prog_12_method_1_code 134 = .ok (.aload_n 0, 1) := by decide +kernel
theorem d_O_init_135 : decode prog_12_method_1_code 135 = .ok (.iconst 3, 1) := by decide +kernel
theorem d_O_init_136 : decode prog_12_method_1_code 136 = .ok (.newarray .boolean, 2) := by decide +kernel
theorem d_O_init_138 : decode prog_12_method_1_code 138 = .ok (.putfield 63, 3) := by decide +kernel
theorem d_O_init_141 : decode prog_12_method_1_code 141 = .ok (.aload_n 0, 1) := by decide +kernel
theorem d_O_init_142 : decode prog_12_method_1_code 142 = .ok (.iconst (-1), 1) := by decide +kernel
theorem d_O_init_143 : decode prog_12_method_1_code 143 = .ok (.putfield 66, 3) := by decide +kernel
theorem d_O_init_146 : decode prog_12_method_1_code 146 = .ok (.iconst 0, 1) := by decide +kernel
theorem d_O_init_147 : decode prog_12_method_1_code 147 = .ok (.istore_n 1, 1) := by decide +kernel
theorem d_O_init_148 : decode prog_12_method_1_code 148 = .ok (.iload_n 1, 1) := by decide +kernel
theorem d_O_init_149 : decode prog_12_method_1_code 149 = .ok (.bipush (17), 2) := by decide +kernel
theorem d_O_init_151 : decode prog_12_method_1_code 151 = .ok (.if_icmp .ge (18), 3) := by decide +kernel
theorem d_O_init_154 : decode prog_12_method_1_code 154 = .ok (.aload_n 0, 1) := by decide +kernel
theorem d_O_init_155 : decode prog_12_method_1_code 155 = .ok (.getfield 51, 3) := by decide +kernel
theorem d_O_init_158 : decode prog_12_method_1_code 158 = .ok (.iconst 4, 1) := by decide +kernel
theorem d_O_init_159 : decode prog_12_method_1_code 159 = .ok (.iload_n 1, 1) := by decide +kernel
theorem d_O_init_160 : decode prog_12_method_1_code 160 = .ok (.imul, 1) := by decide +kernel
theorem d_O_init_161 : decode prog_12_method_1_code 161 = .ok (.iconst 1, 1) := by decide +kernel
theorem d_O_init_162 : decode prog_12_method_1_code 162 = .ok (.iastore, 1) := by decide +kernel
theorem d_O_init_163 : decode prog_12_method_1_code 163 = .ok (.iinc 1 (1), 3) := by decide +kernel
theorem d_O_init_166 : decode prog_12_method_1_code 166 = .ok (.goto (-18), 3) := by decide +kernel
theorem d_O_init_169 : decode prog_12_method_1_code 169 = .ok (.return_, 1) := by decide +kernel
def Y_O_init : sdY := ("SettingsDeskModel", prog_12_method_1_code, 2, none, .code y_O_init prog_12_method_1_code 2 none :: sdB0, { frames := 1, cells := 17, slots := 5087, locals := 12 }, 17, 5087)
section
variable {l : Launch} {D : va_G} {dA : Nat → ClassId} {b n : Nat} {ad : Nat → Nat} {L : Nat → sdL} {sc : Option (Nat × Nat × (Nat → Int32))}
def w_O_init (M : sdM) (Q : sdM → Prop) : Prop := ∀ M1 : sdM, M1 = sd_s M 116 2 (1 : Int32) → ∀ M2 : sdM, M2 = va_up M1 117 (fun _ => 0) → ∀ M4 : sdM, M4 = va_up M2 118 (fun _ => 0) → ∀ M6 : sdM, M6 = va_up M4 119 (fun _ => 0) → ∀ M8 : sdM, M8 = va_up M6 120 (fun _ => 0) → ∀ M10 : sdM, M10 = va_up M8 121 (fun _ => 0) → ∀ M12 : sdM, M12 = va_up M10 122 (fun _ => 0) → ∀ M14 : sdM, M14 = va_up M12 123 (fun _ => 0) → ∀ M16 : sdM, M16 = va_up M14 124 (fun _ => 0) → ∀ M18 : sdM, M18 = va_up M16 125 (fun _ => 0) → ∀ M20 : sdM, M20 = va_up M18 126 (fun _ => 0) → ∀ M22 : sdM, M22 = va_up M20 127 (fun _ => 0) → ∀ M24 : sdM, M24 = va_up M22 128 (fun _ => 0) → ∀ M26 : sdM, M26 = va_up M24 129 (fun _ => 0) → ∀ M28 : sdM, M28 = va_up M26 130 (fun _ => 0) → ∀ M30 : sdM, M30 = va_up M28 131 (fun _ => 0) → ∀ M32 : sdM, M32 = va_up M30 132 (fun _ => 0) → ∀ M34 : sdM, M34 = va_up M32 133 (fun _ => 0) → ∀ M36 : sdM, M36 = sd_s M34 116 23 (-1 : Int32) → ∀ M37 : sdM, M37 = sd_s M36 129 0 (1 : Int32) → ∀ M38 : sdM, M38 = sd_s M37 129 4 (1 : Int32) → ∀ M39 : sdM, M39 = sd_s M38 129 8 (1 : Int32) → ∀ M40 : sdM, M40 = sd_s M39 129 12 (1 : Int32) → ∀ M41 : sdM, M41 = sd_s M40 129 16 (1 : Int32) → ∀ M42 : sdM, M42 = sd_s M41 129 20 (1 : Int32) → ∀ M43 : sdM, M43 = sd_s M42 129 24 (1 : Int32) → ∀ M44 : sdM, M44 = sd_s M43 129 28 (1 : Int32) → ∀ M45 : sdM, M45 = sd_s M44 129 32 (1 : Int32) → ∀ M46 : sdM, M46 = sd_s M45 129 36 (1 : Int32) → ∀ M47 : sdM, M47 = sd_s M46 129 40 (1 : Int32) → ∀ M48 : sdM, M48 = sd_s M47 129 44 (1 : Int32) → ∀ M49 : sdM, M49 = sd_s M48 129 48 (1 : Int32) → ∀ M50 : sdM, M50 = sd_s M49 129 52 (1 : Int32) → ∀ M51 : sdM, M51 = sd_s M50 129 56 (1 : Int32) → ∀ M52 : sdM, M52 = sd_s M51 129 60 (1 : Int32) → ∀ M53 : sdM, M53 = sd_s M52 129 64 (1 : Int32) → Q M53
set_option maxHeartbeats 4000000 in
set_option maxRecDepth 100000 in
theorem c_O_init (hA : sd_ad b 117 ad) (hT : l.stackTraces = false) (hloc : sd_loc 117 L) (hlo : L 116 = sd_O 10 [none, none, none, some none, some none, some none, some none, some none, some none, some none, none, some none, some none, some none, some none, some none, some none, some none, some none, some none, none, none, some none, none, none, none, none, none, none, none, none, none, none, none, none]) {Q : sdM → Prop} {M : sdM} (hw : w_O_init M Q) : sd_CnF l (sdE0 sc) y_O_init Y_O_init.2.2.2.2.1 Y_O_init.2.2.2.2.2.1 17 5087 D (sd_tys dA) b 117 ad L M [.ref 116] (fun M' H => ∃ (ad2 : Nat → Nat) (L2 : Nat → sdL), (∀ k, k < 117 → ad2 k = ad k) ∧ sd_ad b 134 ad2 ∧ sd_loc 134 L2 ∧ (∀ k, k < 116 → L2 k = L k) ∧ isO 134 L2 dA ∧ sd_H D (sdE0 sc).1 134 ad2 L2 M' H) (sd_qv Q) sd_xf := by
  refine sd_enterF (Y := Y_O_init) rfl rfl rfl (Nat.le_of_ble_eq_true rfl) ?_
  show sdW l (sdE0 sc) Y_O_init D (sd_tys dA) b 117 ad L ad _ _ _ 0 [(0, .ref 116)] [] M 17 5087
  unfold w_O_init at hw
  refine x_aload_n 0 0 d_O_init_0 rfl rfl ?_
  refine x_objInit d_O_init_1 (List.mem_cons_of_mem _ q633) (List.mem_cons_of_mem _ q64) (List.mem_cons_of_mem _ q65) (by decide) (Nat.le_of_ble_eq_true rfl) ?_
  refine x_aload_n 0 0 d_O_init_4 rfl rfl ?_
  refine x_iconst (v := 1) d_O_init_5 (by decide) ?_
  refine x_puti 2 (ty := .int) hA d_O_init_6 (by omega) hlo rfl rfl (by decide) lay_O (List.mem_cons_of_mem _ q449) rfl ty_O ty_O_ok nm_O rfl (by decide +kernel) rfl rfl (fun M1 e1 => ?_)
  have hw := hw M1 e1
  clear e1
  refine x_aload_n 0 0 d_O_init_9 rfl rfl ?_
  refine x_iconst (v := 4) d_O_init_10 (by decide) ?_
  refine x_newI (rc := 16) (rs := 5083) (n := 117) (t0 := 0) (len := 4) hA hloc (List.forall_mem_cons.mpr ⟨(sd_bel_r (by omega)), fun _ h => absurd h List.not_mem_nil⟩) (List.forall_mem_cons.mpr ⟨(sd_bel_r (by omega)), fun _ h => absurd h List.not_mem_nil⟩) d_O_init_11 rfl (by decide) (List.mem_cons_of_mem _ q598) rfl (by decide) (by decide) (by decide) rfl rfl (fun ad2 M2 hA2 hl2 hu2 hq2 e2 => ?_)
  have hw := hw M2 e2
  clear e2
  have hy2 : va_up L 117 (sd_I (dA 0) 4) 117 = (sd_I (dA 0) 4) := va_up_self _ _ _
  generalize va_up L 117 (sd_I (dA 0) 4) = L2 at hl2 hu2 hy2 ⊢
  have hlo : L2 116 = sd_O 10 [none, none, none, some none, some none, some none, some none, some none, some none, some none, none, some none, some none, some none, some none, some none, some none, some none, some none, some none, none, none, some none, none, none, none, none, none, none, none, none, none, none, none, none] := (hu2.2 116 (by omega)).trans hlo
  refine x_putr 3 117 (ty := .array .int) hA2 (fun _ _ _ _ _ _ h => h.2.2.2.2 y_O_init _ _ _ _ rfl) d_O_init_13 (by omega) hlo (Nat.le_of_ble_eq_true rfl) rfl (by decide) lay_O (List.mem_cons_of_mem _ q450) rfl ty_O ty_O_ok nm_O rfl rfl (by decide +kernel) rfl rfl ?_
  obtain ⟨L3, hL3⟩ : ∃ z, z = va_up L2 116 (sd_O 10 [none, none, none, some (some 117), some none, some none, some none, some none, some none, some none, none, some none, some none, some none, some none, some none, some none, some none, some none, some none, none, none, some none, none, none, none, none, none, none, none, none, none, none, none, none]) := ⟨_, rfl⟩
  show sdW l (sdE0 sc) Y_O_init D (sd_tys dA) b _ _ (va_up L2 116 (sd_O 10 [none, none, none, some (some 117), some none, some none, some none, some none, some none, some none, none, some none, some none, some none, some none, some none, some none, some none, some none, some none, none, none, some none, none, none, none, none, none, none, none, none, none, none, none, none])) ad _ _ _ _ _ _ _ _ _
  rw [← hL3]
  have hn3 : ∀ k, k ≠ 116 → L3 k = L2 k := fun k h => by rw [hL3]; exact va_up_ne _ _ h
  have hl3 : sd_loc 118 L3 := by rw [hL3]; exact sd_loc_at hl2 (fun a a2 f e => by show (Sum.inr (10, sd_fv a f 0 [none, none, none, some (some 117), some none, some none, some none, some none, some none, some none, none, some none, some none, some none, some none, some none, some none, some none, some none, some none, none, none, some none, none, none, none, none, none, none, none, none, none, none, none, none]) : va_E) = Sum.inr (10, sd_fv a2 f 0 [none, none, none, some (some 117), some none, some none, some none, some none, some none, some none, none, some none, some none, some none, some none, some none, some none, some none, some none, some none, none, none, some none, none, none, none, none, none, none, none, none, none, none, none, none]); simp only [sd_fv, sd_fx]; rw [e 117 (by omega)])
  have hlo : L3 116 = sd_O 10 [none, none, none, some (some 117), some none, some none, some none, some none, some none, some none, none, some none, some none, some none, some none, some none, some none, some none, some none, some none, none, none, some none, none, none, none, none, none, none, none, none, none, none, none, none] := by rw [hL3]; exact va_up_self _ _ _
  clear hL3
  have hy2 : L3 117 = (sd_I (dA 0) 4) := (hn3 117 (by omega)).trans hy2
  refine x_aload_n 0 0 d_O_init_16 rfl rfl ?_
  refine x_bipush (v := 16) d_O_init_17 (by decide) ?_
  refine x_newI (rc := 15) (rs := 5067) (n := 118) (t0 := 1) (len := 16) hA2 hl3 (List.forall_mem_cons.mpr ⟨(sd_bel_r (by omega)), fun _ h => absurd h List.not_mem_nil⟩) (List.forall_mem_cons.mpr ⟨(sd_bel_r (by omega)), fun _ h => absurd h List.not_mem_nil⟩) d_O_init_19 rfl (by decide) (List.mem_cons_of_mem _ q634) rfl (by decide) (by decide) (by decide) rfl rfl (fun ad4 M4 hA4 hl4 hu4 hq4 e4 => ?_)
  have hw := hw M4 e4
  clear e4
  have hy4 : va_up L3 118 (sd_I (dA 1) 16) 118 = (sd_I (dA 1) 16) := va_up_self _ _ _
  generalize va_up L3 118 (sd_I (dA 1) 16) = L4 at hl4 hu4 hy4 ⊢
  have hlo : L4 116 = sd_O 10 [none, none, none, some (some 117), some none, some none, some none, some none, some none, some none, none, some none, some none, some none, some none, some none, some none, some none, some none, some none, none, none, some none, none, none, none, none, none, none, none, none, none, none, none, none] := (hu4.2 116 (by omega)).trans hlo
  have hy2 : L4 117 = (sd_I (dA 0) 4) := (hu4.2 117 (by omega)).trans hy2
  refine x_putr 4 118 (ty := .array .boolean) hA4 (fun _ _ _ _ _ _ h => h.2.2.2.2 y_O_init _ _ _ _ rfl) d_O_init_21 (by omega) hlo (Nat.le_of_ble_eq_true rfl) rfl (by decide) lay_O (List.mem_cons_of_mem _ q451) rfl ty_O ty_O_ok nm_O rfl rfl (by decide +kernel) rfl rfl ?_
  obtain ⟨L5, hL5⟩ : ∃ z, z = va_up L4 116 (sd_O 10 [none, none, none, some (some 117), some (some 118), some none, some none, some none, some none, some none, none, some none, some none, some none, some none, some none, some none, some none, some none, some none, none, none, some none, none, none, none, none, none, none, none, none, none, none, none, none]) := ⟨_, rfl⟩
  show sdW l (sdE0 sc) Y_O_init D (sd_tys dA) b _ _ (va_up L4 116 (sd_O 10 [none, none, none, some (some 117), some (some 118), some none, some none, some none, some none, some none, none, some none, some none, some none, some none, some none, some none, some none, some none, some none, none, none, some none, none, none, none, none, none, none, none, none, none, none, none, none])) ad _ _ _ _ _ _ _ _ _
  rw [← hL5]
  have hn5 : ∀ k, k ≠ 116 → L5 k = L4 k := fun k h => by rw [hL5]; exact va_up_ne _ _ h
  have hl5 : sd_loc 119 L5 := by rw [hL5]; exact sd_loc_at hl4 (fun a a2 f e => by show (Sum.inr (10, sd_fv a f 0 [none, none, none, some (some 117), some (some 118), some none, some none, some none, some none, some none, none, some none, some none, some none, some none, some none, some none, some none, some none, some none, none, none, some none, none, none, none, none, none, none, none, none, none, none, none, none]) : va_E) = Sum.inr (10, sd_fv a2 f 0 [none, none, none, some (some 117), some (some 118), some none, some none, some none, some none, some none, none, some none, some none, some none, some none, some none, some none, some none, some none, some none, none, none, some none, none, none, none, none, none, none, none, none, none, none, none, none]); simp only [sd_fv, sd_fx]; rw [e 117 (by omega), e 118 (by omega)])
  have hlo : L5 116 = sd_O 10 [none, none, none, some (some 117), some (some 118), some none, some none, some none, some none, some none, none, some none, some none, some none, some none, some none, some none, some none, some none, some none, none, none, some none, none, none, none, none, none, none, none, none, none, none, none, none] := by rw [hL5]; exact va_up_self _ _ _
  clear hL5
  have hy2 : L5 117 = (sd_I (dA 0) 4) := (hn5 117 (by omega)).trans hy2
  have hy4 : L5 118 = (sd_I (dA 1) 16) := (hn5 118 (by omega)).trans hy4
  refine x_aload_n 0 0 d_O_init_24 rfl rfl ?_
  refine x_bipush (v := 16) d_O_init_25 (by decide) ?_
  refine x_newI (rc := 14) (rs := 5051) (n := 119) (t0 := 0) (len := 16) hA4 hl5 (List.forall_mem_cons.mpr ⟨(sd_bel_r (by omega)), fun _ h => absurd h List.not_mem_nil⟩) (List.forall_mem_cons.mpr ⟨(sd_bel_r (by omega)), fun _ h => absurd h List.not_mem_nil⟩) d_O_init_27 rfl (by decide) (List.mem_cons_of_mem _ q598) rfl (by decide) (by decide) (by decide) rfl rfl (fun ad6 M6 hA6 hl6 hu6 hq6 e6 => ?_)
  have hw := hw M6 e6
  clear e6
  have hy6 : va_up L5 119 (sd_I (dA 0) 16) 119 = (sd_I (dA 0) 16) := va_up_self _ _ _
  generalize va_up L5 119 (sd_I (dA 0) 16) = L6 at hl6 hu6 hy6 ⊢
  have hlo : L6 116 = sd_O 10 [none, none, none, some (some 117), some (some 118), some none, some none, some none, some none, some none, none, some none, some none, some none, some none, some none, some none, some none, some none, some none, none, none, some none, none, none, none, none, none, none, none, none, none, none, none, none] := (hu6.2 116 (by omega)).trans hlo
  have hy2 : L6 117 = (sd_I (dA 0) 4) := (hu6.2 117 (by omega)).trans hy2
  have hy4 : L6 118 = (sd_I (dA 1) 16) := (hu6.2 118 (by omega)).trans hy4
  refine x_putr 5 119 (ty := .array .int) hA6 (fun _ _ _ _ _ _ h => h.2.2.2.2 y_O_init _ _ _ _ rfl) d_O_init_29 (by omega) hlo (Nat.le_of_ble_eq_true rfl) rfl (by decide) lay_O (List.mem_cons_of_mem _ q452) rfl ty_O ty_O_ok nm_O rfl rfl (by decide +kernel) rfl rfl ?_
  obtain ⟨L7, hL7⟩ : ∃ z, z = va_up L6 116 (sd_O 10 [none, none, none, some (some 117), some (some 118), some (some 119), some none, some none, some none, some none, none, some none, some none, some none, some none, some none, some none, some none, some none, some none, none, none, some none, none, none, none, none, none, none, none, none, none, none, none, none]) := ⟨_, rfl⟩
  show sdW l (sdE0 sc) Y_O_init D (sd_tys dA) b _ _ (va_up L6 116 (sd_O 10 [none, none, none, some (some 117), some (some 118), some (some 119), some none, some none, some none, some none, none, some none, some none, some none, some none, some none, some none, some none, some none, some none, none, none, some none, none, none, none, none, none, none, none, none, none, none, none, none])) ad _ _ _ _ _ _ _ _ _
  rw [← hL7]
  have hn7 : ∀ k, k ≠ 116 → L7 k = L6 k := fun k h => by rw [hL7]; exact va_up_ne _ _ h
  have hl7 : sd_loc 120 L7 := by rw [hL7]; exact sd_loc_at hl6 (fun a a2 f e => by show (Sum.inr (10, sd_fv a f 0 [none, none, none, some (some 117), some (some 118), some (some 119), some none, some none, some none, some none, none, some none, some none, some none, some none, some none, some none, some none, some none, some none, none, none, some none, none, none, none, none, none, none, none, none, none, none, none, none]) : va_E) = Sum.inr (10, sd_fv a2 f 0 [none, none, none, some (some 117), some (some 118), some (some 119), some none, some none, some none, some none, none, some none, some none, some none, some none, some none, some none, some none, some none, some none, none, none, some none, none, none, none, none, none, none, none, none, none, none, none, none]); simp only [sd_fv, sd_fx]; rw [e 117 (by omega), e 118 (by omega), e 119 (by omega)])
  have hlo : L7 116 = sd_O 10 [none, none, none, some (some 117), some (some 118), some (some 119), some none, some none, some none, some none, none, some none, some none, some none, some none, some none, some none, some none, some none, some none, none, none, some none, none, none, none, none, none, none, none, none, none, none, none, none] := by rw [hL7]; exact va_up_self _ _ _
  clear hL7
  have hy2 : L7 117 = (sd_I (dA 0) 4) := (hn7 117 (by omega)).trans hy2
  have hy4 : L7 118 = (sd_I (dA 1) 16) := (hn7 118 (by omega)).trans hy4
  have hy6 : L7 119 = (sd_I (dA 0) 16) := (hn7 119 (by omega)).trans hy6
  refine x_aload_n 0 0 d_O_init_32 rfl rfl ?_
  refine x_bipush (v := 16) d_O_init_33 (by decide) ?_
  refine x_newI (rc := 13) (rs := 5035) (n := 120) (t0 := 0) (len := 16) hA6 hl7 (List.forall_mem_cons.mpr ⟨(sd_bel_r (by omega)), fun _ h => absurd h List.not_mem_nil⟩) (List.forall_mem_cons.mpr ⟨(sd_bel_r (by omega)), fun _ h => absurd h List.not_mem_nil⟩) d_O_init_35 rfl (by decide) (List.mem_cons_of_mem _ q598) rfl (by decide) (by decide) (by decide) rfl rfl (fun ad8 M8 hA8 hl8 hu8 hq8 e8 => ?_)
  have hw := hw M8 e8
  clear e8
  have hy8 : va_up L7 120 (sd_I (dA 0) 16) 120 = (sd_I (dA 0) 16) := va_up_self _ _ _
  generalize va_up L7 120 (sd_I (dA 0) 16) = L8 at hl8 hu8 hy8 ⊢
  have hlo : L8 116 = sd_O 10 [none, none, none, some (some 117), some (some 118), some (some 119), some none, some none, some none, some none, none, some none, some none, some none, some none, some none, some none, some none, some none, some none, none, none, some none, none, none, none, none, none, none, none, none, none, none, none, none] := (hu8.2 116 (by omega)).trans hlo
  have hy2 : L8 117 = (sd_I (dA 0) 4) := (hu8.2 117 (by omega)).trans hy2
  have hy4 : L8 118 = (sd_I (dA 1) 16) := (hu8.2 118 (by omega)).trans hy4
  have hy6 : L8 119 = (sd_I (dA 0) 16) := (hu8.2 119 (by omega)).trans hy6
  refine x_putr 6 120 (ty := .array .int) hA8 (fun _ _ _ _ _ _ h => h.2.2.2.2 y_O_init _ _ _ _ rfl) d_O_init_37 (by omega) hlo (Nat.le_of_ble_eq_true rfl) rfl (by decide) lay_O (List.mem_cons_of_mem _ q453) rfl ty_O ty_O_ok nm_O rfl rfl (by decide +kernel) rfl rfl ?_
  obtain ⟨L9, hL9⟩ : ∃ z, z = va_up L8 116 (sd_O 10 [none, none, none, some (some 117), some (some 118), some (some 119), some (some 120), some none, some none, some none, none, some none, some none, some none, some none, some none, some none, some none, some none, some none, none, none, some none, none, none, none, none, none, none, none, none, none, none, none, none]) := ⟨_, rfl⟩
  show sdW l (sdE0 sc) Y_O_init D (sd_tys dA) b _ _ (va_up L8 116 (sd_O 10 [none, none, none, some (some 117), some (some 118), some (some 119), some (some 120), some none, some none, some none, none, some none, some none, some none, some none, some none, some none, some none, some none, some none, none, none, some none, none, none, none, none, none, none, none, none, none, none, none, none])) ad _ _ _ _ _ _ _ _ _
  rw [← hL9]
  have hn9 : ∀ k, k ≠ 116 → L9 k = L8 k := fun k h => by rw [hL9]; exact va_up_ne _ _ h
  have hl9 : sd_loc 121 L9 := by rw [hL9]; exact sd_loc_at hl8 (fun a a2 f e => by show (Sum.inr (10, sd_fv a f 0 [none, none, none, some (some 117), some (some 118), some (some 119), some (some 120), some none, some none, some none, none, some none, some none, some none, some none, some none, some none, some none, some none, some none, none, none, some none, none, none, none, none, none, none, none, none, none, none, none, none]) : va_E) = Sum.inr (10, sd_fv a2 f 0 [none, none, none, some (some 117), some (some 118), some (some 119), some (some 120), some none, some none, some none, none, some none, some none, some none, some none, some none, some none, some none, some none, some none, none, none, some none, none, none, none, none, none, none, none, none, none, none, none, none]); simp only [sd_fv, sd_fx]; rw [e 117 (by omega), e 118 (by omega), e 119 (by omega), e 120 (by omega)])
  have hlo : L9 116 = sd_O 10 [none, none, none, some (some 117), some (some 118), some (some 119), some (some 120), some none, some none, some none, none, some none, some none, some none, some none, some none, some none, some none, some none, some none, none, none, some none, none, none, none, none, none, none, none, none, none, none, none, none] := by rw [hL9]; exact va_up_self _ _ _
  clear hL9
  have hy2 : L9 117 = (sd_I (dA 0) 4) := (hn9 117 (by omega)).trans hy2
  have hy4 : L9 118 = (sd_I (dA 1) 16) := (hn9 118 (by omega)).trans hy4
  have hy6 : L9 119 = (sd_I (dA 0) 16) := (hn9 119 (by omega)).trans hy6
  have hy8 : L9 120 = (sd_I (dA 0) 16) := (hn9 120 (by omega)).trans hy8
  refine x_aload_n 0 0 d_O_init_40 rfl rfl ?_
  refine x_bipush (v := 16) d_O_init_41 (by decide) ?_
  refine x_newI (rc := 12) (rs := 5019) (n := 121) (t0 := 0) (len := 16) hA8 hl9 (List.forall_mem_cons.mpr ⟨(sd_bel_r (by omega)), fun _ h => absurd h List.not_mem_nil⟩) (List.forall_mem_cons.mpr ⟨(sd_bel_r (by omega)), fun _ h => absurd h List.not_mem_nil⟩) d_O_init_43 rfl (by decide) (List.mem_cons_of_mem _ q598) rfl (by decide) (by decide) (by decide) rfl rfl (fun ad10 M10 hA10 hl10 hu10 hq10 e10 => ?_)
  have hw := hw M10 e10
  clear e10
  have hy10 : va_up L9 121 (sd_I (dA 0) 16) 121 = (sd_I (dA 0) 16) := va_up_self _ _ _
  generalize va_up L9 121 (sd_I (dA 0) 16) = L10 at hl10 hu10 hy10 ⊢
  have hlo : L10 116 = sd_O 10 [none, none, none, some (some 117), some (some 118), some (some 119), some (some 120), some none, some none, some none, none, some none, some none, some none, some none, some none, some none, some none, some none, some none, none, none, some none, none, none, none, none, none, none, none, none, none, none, none, none] := (hu10.2 116 (by omega)).trans hlo
  have hy2 : L10 117 = (sd_I (dA 0) 4) := (hu10.2 117 (by omega)).trans hy2
  have hy4 : L10 118 = (sd_I (dA 1) 16) := (hu10.2 118 (by omega)).trans hy4
  have hy6 : L10 119 = (sd_I (dA 0) 16) := (hu10.2 119 (by omega)).trans hy6
  have hy8 : L10 120 = (sd_I (dA 0) 16) := (hu10.2 120 (by omega)).trans hy8
  refine x_putr 7 121 (ty := .array .int) hA10 (fun _ _ _ _ _ _ h => h.2.2.2.2 y_O_init _ _ _ _ rfl) d_O_init_45 (by omega) hlo (Nat.le_of_ble_eq_true rfl) rfl (by decide) lay_O (List.mem_cons_of_mem _ q454) rfl ty_O ty_O_ok nm_O rfl rfl (by decide +kernel) rfl rfl ?_
  obtain ⟨L11, hL11⟩ : ∃ z, z = va_up L10 116 (sd_O 10 [none, none, none, some (some 117), some (some 118), some (some 119), some (some 120), some (some 121), some none, some none, none, some none, some none, some none, some none, some none, some none, some none, some none, some none, none, none, some none, none, none, none, none, none, none, none, none, none, none, none, none]) := ⟨_, rfl⟩
  show sdW l (sdE0 sc) Y_O_init D (sd_tys dA) b _ _ (va_up L10 116 (sd_O 10 [none, none, none, some (some 117), some (some 118), some (some 119), some (some 120), some (some 121), some none, some none, none, some none, some none, some none, some none, some none, some none, some none, some none, some none, none, none, some none, none, none, none, none, none, none, none, none, none, none, none, none])) ad _ _ _ _ _ _ _ _ _
  rw [← hL11]
  have hn11 : ∀ k, k ≠ 116 → L11 k = L10 k := fun k h => by rw [hL11]; exact va_up_ne _ _ h
  have hl11 : sd_loc 122 L11 := by rw [hL11]; exact sd_loc_at hl10 (fun a a2 f e => by show (Sum.inr (10, sd_fv a f 0 [none, none, none, some (some 117), some (some 118), some (some 119), some (some 120), some (some 121), some none, some none, none, some none, some none, some none, some none, some none, some none, some none, some none, some none, none, none, some none, none, none, none, none, none, none, none, none, none, none, none, none]) : va_E) = Sum.inr (10, sd_fv a2 f 0 [none, none, none, some (some 117), some (some 118), some (some 119), some (some 120), some (some 121), some none, some none, none, some none, some none, some none, some none, some none, some none, some none, some none, some none, none, none, some none, none, none, none, none, none, none, none, none, none, none, none, none]); simp only [sd_fv, sd_fx]; rw [e 117 (by omega), e 118 (by omega), e 119 (by omega), e 120 (by omega), e 121 (by omega)])
  have hlo : L11 116 = sd_O 10 [none, none, none, some (some 117), some (some 118), some (some 119), some (some 120), some (some 121), some none, some none, none, some none, some none, some none, some none, some none, some none, some none, some none, some none, none, none, some none, none, none, none, none, none, none, none, none, none, none, none, none] := by rw [hL11]; exact va_up_self _ _ _
  clear hL11
  have hy2 : L11 117 = (sd_I (dA 0) 4) := (hn11 117 (by omega)).trans hy2
  have hy4 : L11 118 = (sd_I (dA 1) 16) := (hn11 118 (by omega)).trans hy4
  have hy6 : L11 119 = (sd_I (dA 0) 16) := (hn11 119 (by omega)).trans hy6
  have hy8 : L11 120 = (sd_I (dA 0) 16) := (hn11 120 (by omega)).trans hy8
  have hy10 : L11 121 = (sd_I (dA 0) 16) := (hn11 121 (by omega)).trans hy10
  refine x_aload_n 0 0 d_O_init_48 rfl rfl ?_
  refine x_bipush (v := 16) d_O_init_49 (by decide) ?_
  refine x_newI (rc := 11) (rs := 5003) (n := 122) (t0 := 1) (len := 16) hA10 hl11 (List.forall_mem_cons.mpr ⟨(sd_bel_r (by omega)), fun _ h => absurd h List.not_mem_nil⟩) (List.forall_mem_cons.mpr ⟨(sd_bel_r (by omega)), fun _ h => absurd h List.not_mem_nil⟩) d_O_init_51 rfl (by decide) (List.mem_cons_of_mem _ q634) rfl (by decide) (by decide) (by decide) rfl rfl (fun ad12 M12 hA12 hl12 hu12 hq12 e12 => ?_)
  have hw := hw M12 e12
  clear e12
  have hy12 : va_up L11 122 (sd_I (dA 1) 16) 122 = (sd_I (dA 1) 16) := va_up_self _ _ _
  generalize va_up L11 122 (sd_I (dA 1) 16) = L12 at hl12 hu12 hy12 ⊢
  have hlo : L12 116 = sd_O 10 [none, none, none, some (some 117), some (some 118), some (some 119), some (some 120), some (some 121), some none, some none, none, some none, some none, some none, some none, some none, some none, some none, some none, some none, none, none, some none, none, none, none, none, none, none, none, none, none, none, none, none] := (hu12.2 116 (by omega)).trans hlo
  have hy2 : L12 117 = (sd_I (dA 0) 4) := (hu12.2 117 (by omega)).trans hy2
  have hy4 : L12 118 = (sd_I (dA 1) 16) := (hu12.2 118 (by omega)).trans hy4
  have hy6 : L12 119 = (sd_I (dA 0) 16) := (hu12.2 119 (by omega)).trans hy6
  have hy8 : L12 120 = (sd_I (dA 0) 16) := (hu12.2 120 (by omega)).trans hy8
  have hy10 : L12 121 = (sd_I (dA 0) 16) := (hu12.2 121 (by omega)).trans hy10
  refine x_putr 8 122 (ty := .array .boolean) hA12 (fun _ _ _ _ _ _ h => h.2.2.2.2 y_O_init _ _ _ _ rfl) d_O_init_53 (by omega) hlo (Nat.le_of_ble_eq_true rfl) rfl (by decide) lay_O (List.mem_cons_of_mem _ q460) rfl ty_O ty_O_ok nm_O rfl rfl (by decide +kernel) rfl rfl ?_
  obtain ⟨L13, hL13⟩ : ∃ z, z = va_up L12 116 (sd_O 10 [none, none, none, some (some 117), some (some 118), some (some 119), some (some 120), some (some 121), some (some 122), some none, none, some none, some none, some none, some none, some none, some none, some none, some none, some none, none, none, some none, none, none, none, none, none, none, none, none, none, none, none, none]) := ⟨_, rfl⟩
  show sdW l (sdE0 sc) Y_O_init D (sd_tys dA) b _ _ (va_up L12 116 (sd_O 10 [none, none, none, some (some 117), some (some 118), some (some 119), some (some 120), some (some 121), some (some 122), some none, none, some none, some none, some none, some none, some none, some none, some none, some none, some none, none, none, some none, none, none, none, none, none, none, none, none, none, none, none, none])) ad _ _ _ _ _ _ _ _ _
  rw [← hL13]
  have hn13 : ∀ k, k ≠ 116 → L13 k = L12 k := fun k h => by rw [hL13]; exact va_up_ne _ _ h
  have hl13 : sd_loc 123 L13 := by rw [hL13]; exact sd_loc_at hl12 (fun a a2 f e => by show (Sum.inr (10, sd_fv a f 0 [none, none, none, some (some 117), some (some 118), some (some 119), some (some 120), some (some 121), some (some 122), some none, none, some none, some none, some none, some none, some none, some none, some none, some none, some none, none, none, some none, none, none, none, none, none, none, none, none, none, none, none, none]) : va_E) = Sum.inr (10, sd_fv a2 f 0 [none, none, none, some (some 117), some (some 118), some (some 119), some (some 120), some (some 121), some (some 122), some none, none, some none, some none, some none, some none, some none, some none, some none, some none, some none, none, none, some none, none, none, none, none, none, none, none, none, none, none, none, none]); simp only [sd_fv, sd_fx]; rw [e 117 (by omega), e 118 (by omega), e 119 (by omega), e 120 (by omega), e 121 (by omega), e 122 (by omega)])
  have hlo : L13 116 = sd_O 10 [none, none, none, some (some 117), some (some 118), some (some 119), some (some 120), some (some 121), some (some 122), some none, none, some none, some none, some none, some none, some none, some none, some none, some none, some none, none, none, some none, none, none, none, none, none, none, none, none, none, none, none, none] := by rw [hL13]; exact va_up_self _ _ _
  clear hL13
  have hy2 : L13 117 = (sd_I (dA 0) 4) := (hn13 117 (by omega)).trans hy2
  have hy4 : L13 118 = (sd_I (dA 1) 16) := (hn13 118 (by omega)).trans hy4
  have hy6 : L13 119 = (sd_I (dA 0) 16) := (hn13 119 (by omega)).trans hy6
  have hy8 : L13 120 = (sd_I (dA 0) 16) := (hn13 120 (by omega)).trans hy8
  have hy10 : L13 121 = (sd_I (dA 0) 16) := (hn13 121 (by omega)).trans hy10
  have hy12 : L13 122 = (sd_I (dA 1) 16) := (hn13 122 (by omega)).trans hy12
  refine x_aload_n 0 0 d_O_init_56 rfl rfl ?_
  refine x_bipush (v := 16) d_O_init_57 (by decide) ?_
  refine x_newI (rc := 10) (rs := 4987) (n := 123) (t0 := 0) (len := 16) hA12 hl13 (List.forall_mem_cons.mpr ⟨(sd_bel_r (by omega)), fun _ h => absurd h List.not_mem_nil⟩) (List.forall_mem_cons.mpr ⟨(sd_bel_r (by omega)), fun _ h => absurd h List.not_mem_nil⟩) d_O_init_59 rfl (by decide) (List.mem_cons_of_mem _ q598) rfl (by decide) (by decide) (by decide) rfl rfl (fun ad14 M14 hA14 hl14 hu14 hq14 e14 => ?_)
  have hw := hw M14 e14
  clear e14
  have hy14 : va_up L13 123 (sd_I (dA 0) 16) 123 = (sd_I (dA 0) 16) := va_up_self _ _ _
  generalize va_up L13 123 (sd_I (dA 0) 16) = L14 at hl14 hu14 hy14 ⊢
  have hlo : L14 116 = sd_O 10 [none, none, none, some (some 117), some (some 118), some (some 119), some (some 120), some (some 121), some (some 122), some none, none, some none, some none, some none, some none, some none, some none, some none, some none, some none, none, none, some none, none, none, none, none, none, none, none, none, none, none, none, none] := (hu14.2 116 (by omega)).trans hlo
  have hy2 : L14 117 = (sd_I (dA 0) 4) := (hu14.2 117 (by omega)).trans hy2
  have hy4 : L14 118 = (sd_I (dA 1) 16) := (hu14.2 118 (by omega)).trans hy4
  have hy6 : L14 119 = (sd_I (dA 0) 16) := (hu14.2 119 (by omega)).trans hy6
  have hy8 : L14 120 = (sd_I (dA 0) 16) := (hu14.2 120 (by omega)).trans hy8
  have hy10 : L14 121 = (sd_I (dA 0) 16) := (hu14.2 121 (by omega)).trans hy10
  have hy12 : L14 122 = (sd_I (dA 1) 16) := (hu14.2 122 (by omega)).trans hy12
  refine x_putr 9 123 (ty := .array .int) hA14 (fun _ _ _ _ _ _ h => h.2.2.2.2 y_O_init _ _ _ _ rfl) d_O_init_61 (by omega) hlo (Nat.le_of_ble_eq_true rfl) rfl (by decide) lay_O (List.mem_cons_of_mem _ q461) rfl ty_O ty_O_ok nm_O rfl rfl (by decide +kernel) rfl rfl ?_
  obtain ⟨L15, hL15⟩ : ∃ z, z = va_up L14 116 (sd_O 10 [none, none, none, some (some 117), some (some 118), some (some 119), some (some 120), some (some 121), some (some 122), some (some 123), none, some none, some none, some none, some none, some none, some none, some none, some none, some none, none, none, some none, none, none, none, none, none, none, none, none, none, none, none, none]) := ⟨_, rfl⟩
  show sdW l (sdE0 sc) Y_O_init D (sd_tys dA) b _ _ (va_up L14 116 (sd_O 10 [none, none, none, some (some 117), some (some 118), some (some 119), some (some 120), some (some 121), some (some 122), some (some 123), none, some none, some none, some none, some none, some none, some none, some none, some none, some none, none, none, some none, none, none, none, none, none, none, none, none, none, none, none, none])) ad _ _ _ _ _ _ _ _ _
  rw [← hL15]
  have hn15 : ∀ k, k ≠ 116 → L15 k = L14 k := fun k h => by rw [hL15]; exact va_up_ne _ _ h
  have hl15 : sd_loc 124 L15 := by rw [hL15]; exact sd_loc_at hl14 (fun a a2 f e => by show (Sum.inr (10, sd_fv a f 0 [none, none, none, some (some 117), some (some 118), some (some 119), some (some 120), some (some 121), some (some 122), some (some 123), none, some none, some none, some none, some none, some none, some none, some none, some none, some none, none, none, some none, none, none, none, none, none, none, none, none, none, none, none, none]) : va_E) = Sum.inr (10, sd_fv a2 f 0 [none, none, none, some (some 117), some (some 118), some (some 119), some (some 120), some (some 121), some (some 122), some (some 123), none, some none, some none, some none, some none, some none, some none, some none, some none, some none, none, none, some none, none, none, none, none, none, none, none, none, none, none, none, none]); simp only [sd_fv, sd_fx]; rw [e 117 (by omega), e 118 (by omega), e 119 (by omega), e 120 (by omega), e 121 (by omega), e 122 (by omega), e 123 (by omega)])
  have hlo : L15 116 = sd_O 10 [none, none, none, some (some 117), some (some 118), some (some 119), some (some 120), some (some 121), some (some 122), some (some 123), none, some none, some none, some none, some none, some none, some none, some none, some none, some none, none, none, some none, none, none, none, none, none, none, none, none, none, none, none, none] := by rw [hL15]; exact va_up_self _ _ _
  clear hL15
  have hy2 : L15 117 = (sd_I (dA 0) 4) := (hn15 117 (by omega)).trans hy2
  have hy4 : L15 118 = (sd_I (dA 1) 16) := (hn15 118 (by omega)).trans hy4
  have hy6 : L15 119 = (sd_I (dA 0) 16) := (hn15 119 (by omega)).trans hy6
  have hy8 : L15 120 = (sd_I (dA 0) 16) := (hn15 120 (by omega)).trans hy8
  have hy10 : L15 121 = (sd_I (dA 0) 16) := (hn15 121 (by omega)).trans hy10
  have hy12 : L15 122 = (sd_I (dA 1) 16) := (hn15 122 (by omega)).trans hy12
  have hy14 : L15 123 = (sd_I (dA 0) 16) := (hn15 123 (by omega)).trans hy14
  refine x_aload_n 0 0 d_O_init_64 rfl rfl ?_
  refine x_iconst (v := 4) d_O_init_65 (by decide) ?_
  refine x_newI (rc := 9) (rs := 4983) (n := 124) (t0 := 0) (len := 4) hA14 hl15 (List.forall_mem_cons.mpr ⟨(sd_bel_r (by omega)), fun _ h => absurd h List.not_mem_nil⟩) (List.forall_mem_cons.mpr ⟨(sd_bel_r (by omega)), fun _ h => absurd h List.not_mem_nil⟩) d_O_init_66 rfl (by decide) (List.mem_cons_of_mem _ q598) rfl (by decide) (by decide) (by decide) rfl rfl (fun ad16 M16 hA16 hl16 hu16 hq16 e16 => ?_)
  have hw := hw M16 e16
  clear e16
  have hy16 : va_up L15 124 (sd_I (dA 0) 4) 124 = (sd_I (dA 0) 4) := va_up_self _ _ _
  generalize va_up L15 124 (sd_I (dA 0) 4) = L16 at hl16 hu16 hy16 ⊢
  have hlo : L16 116 = sd_O 10 [none, none, none, some (some 117), some (some 118), some (some 119), some (some 120), some (some 121), some (some 122), some (some 123), none, some none, some none, some none, some none, some none, some none, some none, some none, some none, none, none, some none, none, none, none, none, none, none, none, none, none, none, none, none] := (hu16.2 116 (by omega)).trans hlo
  have hy2 : L16 117 = (sd_I (dA 0) 4) := (hu16.2 117 (by omega)).trans hy2
  have hy4 : L16 118 = (sd_I (dA 1) 16) := (hu16.2 118 (by omega)).trans hy4
  have hy6 : L16 119 = (sd_I (dA 0) 16) := (hu16.2 119 (by omega)).trans hy6
  have hy8 : L16 120 = (sd_I (dA 0) 16) := (hu16.2 120 (by omega)).trans hy8
  have hy10 : L16 121 = (sd_I (dA 0) 16) := (hu16.2 121 (by omega)).trans hy10
  have hy12 : L16 122 = (sd_I (dA 1) 16) := (hu16.2 122 (by omega)).trans hy12
  have hy14 : L16 123 = (sd_I (dA 0) 16) := (hu16.2 123 (by omega)).trans hy14
  refine x_putr 11 124 (ty := .array .int) hA16 (fun _ _ _ _ _ _ h => h.2.2.2.2 y_O_init _ _ _ _ rfl) d_O_init_68 (by omega) hlo (Nat.le_of_ble_eq_true rfl) rfl (by decide) lay_O (List.mem_cons_of_mem _ q467) rfl ty_O ty_O_ok nm_O rfl rfl (by decide +kernel) rfl rfl ?_
  obtain ⟨L17, hL17⟩ : ∃ z, z = va_up L16 116 (sd_O 10 [none, none, none, some (some 117), some (some 118), some (some 119), some (some 120), some (some 121), some (some 122), some (some 123), none, some (some 124), some none, some none, some none, some none, some none, some none, some none, some none, none, none, some none, none, none, none, none, none, none, none, none, none, none, none, none]) := ⟨_, rfl⟩
  show sdW l (sdE0 sc) Y_O_init D (sd_tys dA) b _ _ (va_up L16 116 (sd_O 10 [none, none, none, some (some 117), some (some 118), some (some 119), some (some 120), some (some 121), some (some 122), some (some 123), none, some (some 124), some none, some none, some none, some none, some none, some none, some none, some none, none, none, some none, none, none, none, none, none, none, none, none, none, none, none, none])) ad _ _ _ _ _ _ _ _ _
  rw [← hL17]
  have hn17 : ∀ k, k ≠ 116 → L17 k = L16 k := fun k h => by rw [hL17]; exact va_up_ne _ _ h
  have hl17 : sd_loc 125 L17 := by rw [hL17]; exact sd_loc_at hl16 (fun a a2 f e => by show (Sum.inr (10, sd_fv a f 0 [none, none, none, some (some 117), some (some 118), some (some 119), some (some 120), some (some 121), some (some 122), some (some 123), none, some (some 124), some none, some none, some none, some none, some none, some none, some none, some none, none, none, some none, none, none, none, none, none, none, none, none, none, none, none, none]) : va_E) = Sum.inr (10, sd_fv a2 f 0 [none, none, none, some (some 117), some (some 118), some (some 119), some (some 120), some (some 121), some (some 122), some (some 123), none, some (some 124), some none, some none, some none, some none, some none, some none, some none, some none, none, none, some none, none, none, none, none, none, none, none, none, none, none, none, none]); simp only [sd_fv, sd_fx]; rw [e 117 (by omega), e 118 (by omega), e 119 (by omega), e 120 (by omega), e 121 (by omega), e 122 (by omega), e 123 (by omega), e 124 (by omega)])
  have hlo : L17 116 = sd_O 10 [none, none, none, some (some 117), some (some 118), some (some 119), some (some 120), some (some 121), some (some 122), some (some 123), none, some (some 124), some none, some none, some none, some none, some none, some none, some none, some none, none, none, some none, none, none, none, none, none, none, none, none, none, none, none, none] := by rw [hL17]; exact va_up_self _ _ _
  clear hL17
  have hy2 : L17 117 = (sd_I (dA 0) 4) := (hn17 117 (by omega)).trans hy2
  have hy4 : L17 118 = (sd_I (dA 1) 16) := (hn17 118 (by omega)).trans hy4
  have hy6 : L17 119 = (sd_I (dA 0) 16) := (hn17 119 (by omega)).trans hy6
  have hy8 : L17 120 = (sd_I (dA 0) 16) := (hn17 120 (by omega)).trans hy8
  have hy10 : L17 121 = (sd_I (dA 0) 16) := (hn17 121 (by omega)).trans hy10
  have hy12 : L17 122 = (sd_I (dA 1) 16) := (hn17 122 (by omega)).trans hy12
  have hy14 : L17 123 = (sd_I (dA 0) 16) := (hn17 123 (by omega)).trans hy14
  have hy16 : L17 124 = (sd_I (dA 0) 4) := (hn17 124 (by omega)).trans hy16
  refine x_aload_n 0 0 d_O_init_71 rfl rfl ?_
  refine x_iconst (v := 4) d_O_init_72 (by decide) ?_
  refine x_newI (rc := 8) (rs := 4979) (n := 125) (t0 := 0) (len := 4) hA16 hl17 (List.forall_mem_cons.mpr ⟨(sd_bel_r (by omega)), fun _ h => absurd h List.not_mem_nil⟩) (List.forall_mem_cons.mpr ⟨(sd_bel_r (by omega)), fun _ h => absurd h List.not_mem_nil⟩) d_O_init_73 rfl (by decide) (List.mem_cons_of_mem _ q598) rfl (by decide) (by decide) (by decide) rfl rfl (fun ad18 M18 hA18 hl18 hu18 hq18 e18 => ?_)
  have hw := hw M18 e18
  clear e18
  have hy18 : va_up L17 125 (sd_I (dA 0) 4) 125 = (sd_I (dA 0) 4) := va_up_self _ _ _
  generalize va_up L17 125 (sd_I (dA 0) 4) = L18 at hl18 hu18 hy18 ⊢
  have hlo : L18 116 = sd_O 10 [none, none, none, some (some 117), some (some 118), some (some 119), some (some 120), some (some 121), some (some 122), some (some 123), none, some (some 124), some none, some none, some none, some none, some none, some none, some none, some none, none, none, some none, none, none, none, none, none, none, none, none, none, none, none, none] := (hu18.2 116 (by omega)).trans hlo
  have hy2 : L18 117 = (sd_I (dA 0) 4) := (hu18.2 117 (by omega)).trans hy2
  have hy4 : L18 118 = (sd_I (dA 1) 16) := (hu18.2 118 (by omega)).trans hy4
  have hy6 : L18 119 = (sd_I (dA 0) 16) := (hu18.2 119 (by omega)).trans hy6
  have hy8 : L18 120 = (sd_I (dA 0) 16) := (hu18.2 120 (by omega)).trans hy8
  have hy10 : L18 121 = (sd_I (dA 0) 16) := (hu18.2 121 (by omega)).trans hy10
  have hy12 : L18 122 = (sd_I (dA 1) 16) := (hu18.2 122 (by omega)).trans hy12
  have hy14 : L18 123 = (sd_I (dA 0) 16) := (hu18.2 123 (by omega)).trans hy14
  have hy16 : L18 124 = (sd_I (dA 0) 4) := (hu18.2 124 (by omega)).trans hy16
  refine x_putr 12 125 (ty := .array .int) hA18 (fun _ _ _ _ _ _ h => h.2.2.2.2 y_O_init _ _ _ _ rfl) d_O_init_75 (by omega) hlo (Nat.le_of_ble_eq_true rfl) rfl (by decide) lay_O (List.mem_cons_of_mem _ q468) rfl ty_O ty_O_ok nm_O rfl rfl (by decide +kernel) rfl rfl ?_
  obtain ⟨L19, hL19⟩ : ∃ z, z = va_up L18 116 (sd_O 10 [none, none, none, some (some 117), some (some 118), some (some 119), some (some 120), some (some 121), some (some 122), some (some 123), none, some (some 124), some (some 125), some none, some none, some none, some none, some none, some none, some none, none, none, some none, none, none, none, none, none, none, none, none, none, none, none, none]) := ⟨_, rfl⟩
  show sdW l (sdE0 sc) Y_O_init D (sd_tys dA) b _ _ (va_up L18 116 (sd_O 10 [none, none, none, some (some 117), some (some 118), some (some 119), some (some 120), some (some 121), some (some 122), some (some 123), none, some (some 124), some (some 125), some none, some none, some none, some none, some none, some none, some none, none, none, some none, none, none, none, none, none, none, none, none, none, none, none, none])) ad _ _ _ _ _ _ _ _ _
  rw [← hL19]
  have hn19 : ∀ k, k ≠ 116 → L19 k = L18 k := fun k h => by rw [hL19]; exact va_up_ne _ _ h
  have hl19 : sd_loc 126 L19 := by rw [hL19]; exact sd_loc_at hl18 (fun a a2 f e => by show (Sum.inr (10, sd_fv a f 0 [none, none, none, some (some 117), some (some 118), some (some 119), some (some 120), some (some 121), some (some 122), some (some 123), none, some (some 124), some (some 125), some none, some none, some none, some none, some none, some none, some none, none, none, some none, none, none, none, none, none, none, none, none, none, none, none, none]) : va_E) = Sum.inr (10, sd_fv a2 f 0 [none, none, none, some (some 117), some (some 118), some (some 119), some (some 120), some (some 121), some (some 122), some (some 123), none, some (some 124), some (some 125), some none, some none, some none, some none, some none, some none, some none, none, none, some none, none, none, none, none, none, none, none, none, none, none, none, none]); simp only [sd_fv, sd_fx]; rw [e 117 (by omega), e 118 (by omega), e 119 (by omega), e 120 (by omega), e 121 (by omega), e 122 (by omega), e 123 (by omega), e 124 (by omega), e 125 (by omega)])
  have hlo : L19 116 = sd_O 10 [none, none, none, some (some 117), some (some 118), some (some 119), some (some 120), some (some 121), some (some 122), some (some 123), none, some (some 124), some (some 125), some none, some none, some none, some none, some none, some none, some none, none, none, some none, none, none, none, none, none, none, none, none, none, none, none, none] := by rw [hL19]; exact va_up_self _ _ _
  clear hL19
  have hy2 : L19 117 = (sd_I (dA 0) 4) := (hn19 117 (by omega)).trans hy2
  have hy4 : L19 118 = (sd_I (dA 1) 16) := (hn19 118 (by omega)).trans hy4
  have hy6 : L19 119 = (sd_I (dA 0) 16) := (hn19 119 (by omega)).trans hy6
  have hy8 : L19 120 = (sd_I (dA 0) 16) := (hn19 120 (by omega)).trans hy8
  have hy10 : L19 121 = (sd_I (dA 0) 16) := (hn19 121 (by omega)).trans hy10
  have hy12 : L19 122 = (sd_I (dA 1) 16) := (hn19 122 (by omega)).trans hy12
  have hy14 : L19 123 = (sd_I (dA 0) 16) := (hn19 123 (by omega)).trans hy14
  have hy16 : L19 124 = (sd_I (dA 0) 4) := (hn19 124 (by omega)).trans hy16
  have hy18 : L19 125 = (sd_I (dA 0) 4) := (hn19 125 (by omega)).trans hy18
  refine x_aload_n 0 0 d_O_init_78 rfl rfl ?_
  refine x_iconst (v := 4) d_O_init_79 (by decide) ?_
  refine x_newI (rc := 7) (rs := 4975) (n := 126) (t0 := 0) (len := 4) hA18 hl19 (List.forall_mem_cons.mpr ⟨(sd_bel_r (by omega)), fun _ h => absurd h List.not_mem_nil⟩) (List.forall_mem_cons.mpr ⟨(sd_bel_r (by omega)), fun _ h => absurd h List.not_mem_nil⟩) d_O_init_80 rfl (by decide) (List.mem_cons_of_mem _ q598) rfl (by decide) (by decide) (by decide) rfl rfl (fun ad20 M20 hA20 hl20 hu20 hq20 e20 => ?_)
  have hw := hw M20 e20
  clear e20
  have hy20 : va_up L19 126 (sd_I (dA 0) 4) 126 = (sd_I (dA 0) 4) := va_up_self _ _ _
  generalize va_up L19 126 (sd_I (dA 0) 4) = L20 at hl20 hu20 hy20 ⊢
  have hlo : L20 116 = sd_O 10 [none, none, none, some (some 117), some (some 118), some (some 119), some (some 120), some (some 121), some (some 122), some (some 123), none, some (some 124), some (some 125), some none, some none, some none, some none, some none, some none, some none, none, none, some none, none, none, none, none, none, none, none, none, none, none, none, none] := (hu20.2 116 (by omega)).trans hlo
  have hy2 : L20 117 = (sd_I (dA 0) 4) := (hu20.2 117 (by omega)).trans hy2
  have hy4 : L20 118 = (sd_I (dA 1) 16) := (hu20.2 118 (by omega)).trans hy4
  have hy6 : L20 119 = (sd_I (dA 0) 16) := (hu20.2 119 (by omega)).trans hy6
  have hy8 : L20 120 = (sd_I (dA 0) 16) := (hu20.2 120 (by omega)).trans hy8
  have hy10 : L20 121 = (sd_I (dA 0) 16) := (hu20.2 121 (by omega)).trans hy10
  have hy12 : L20 122 = (sd_I (dA 1) 16) := (hu20.2 122 (by omega)).trans hy12
  have hy14 : L20 123 = (sd_I (dA 0) 16) := (hu20.2 123 (by omega)).trans hy14
  have hy16 : L20 124 = (sd_I (dA 0) 4) := (hu20.2 124 (by omega)).trans hy16
  have hy18 : L20 125 = (sd_I (dA 0) 4) := (hu20.2 125 (by omega)).trans hy18
  refine x_putr 13 126 (ty := .array .int) hA20 (fun _ _ _ _ _ _ h => h.2.2.2.2 y_O_init _ _ _ _ rfl) d_O_init_82 (by omega) hlo (Nat.le_of_ble_eq_true rfl) rfl (by decide) lay_O (List.mem_cons_of_mem _ q469) rfl ty_O ty_O_ok nm_O rfl rfl (by decide +kernel) rfl rfl ?_
  obtain ⟨L21, hL21⟩ : ∃ z, z = va_up L20 116 (sd_O 10 [none, none, none, some (some 117), some (some 118), some (some 119), some (some 120), some (some 121), some (some 122), some (some 123), none, some (some 124), some (some 125), some (some 126), some none, some none, some none, some none, some none, some none, none, none, some none, none, none, none, none, none, none, none, none, none, none, none, none]) := ⟨_, rfl⟩
  show sdW l (sdE0 sc) Y_O_init D (sd_tys dA) b _ _ (va_up L20 116 (sd_O 10 [none, none, none, some (some 117), some (some 118), some (some 119), some (some 120), some (some 121), some (some 122), some (some 123), none, some (some 124), some (some 125), some (some 126), some none, some none, some none, some none, some none, some none, none, none, some none, none, none, none, none, none, none, none, none, none, none, none, none])) ad _ _ _ _ _ _ _ _ _
  rw [← hL21]
  have hn21 : ∀ k, k ≠ 116 → L21 k = L20 k := fun k h => by rw [hL21]; exact va_up_ne _ _ h
  have hl21 : sd_loc 127 L21 := by rw [hL21]; exact sd_loc_at hl20 (fun a a2 f e => by show (Sum.inr (10, sd_fv a f 0 [none, none, none, some (some 117), some (some 118), some (some 119), some (some 120), some (some 121), some (some 122), some (some 123), none, some (some 124), some (some 125), some (some 126), some none, some none, some none, some none, some none, some none, none, none, some none, none, none, none, none, none, none, none, none, none, none, none, none]) : va_E) = Sum.inr (10, sd_fv a2 f 0 [none, none, none, some (some 117), some (some 118), some (some 119), some (some 120), some (some 121), some (some 122), some (some 123), none, some (some 124), some (some 125), some (some 126), some none, some none, some none, some none, some none, some none, none, none, some none, none, none, none, none, none, none, none, none, none, none, none, none]); simp only [sd_fv, sd_fx]; rw [e 117 (by omega), e 118 (by omega), e 119 (by omega), e 120 (by omega), e 121 (by omega), e 122 (by omega), e 123 (by omega), e 124 (by omega), e 125 (by omega), e 126 (by omega)])
  have hlo : L21 116 = sd_O 10 [none, none, none, some (some 117), some (some 118), some (some 119), some (some 120), some (some 121), some (some 122), some (some 123), none, some (some 124), some (some 125), some (some 126), some none, some none, some none, some none, some none, some none, none, none, some none, none, none, none, none, none, none, none, none, none, none, none, none] := by rw [hL21]; exact va_up_self _ _ _
  clear hL21
  have hy2 : L21 117 = (sd_I (dA 0) 4) := (hn21 117 (by omega)).trans hy2
  have hy4 : L21 118 = (sd_I (dA 1) 16) := (hn21 118 (by omega)).trans hy4
  have hy6 : L21 119 = (sd_I (dA 0) 16) := (hn21 119 (by omega)).trans hy6
  have hy8 : L21 120 = (sd_I (dA 0) 16) := (hn21 120 (by omega)).trans hy8
  have hy10 : L21 121 = (sd_I (dA 0) 16) := (hn21 121 (by omega)).trans hy10
  have hy12 : L21 122 = (sd_I (dA 1) 16) := (hn21 122 (by omega)).trans hy12
  have hy14 : L21 123 = (sd_I (dA 0) 16) := (hn21 123 (by omega)).trans hy14
  have hy16 : L21 124 = (sd_I (dA 0) 4) := (hn21 124 (by omega)).trans hy16
  have hy18 : L21 125 = (sd_I (dA 0) 4) := (hn21 125 (by omega)).trans hy18
  have hy20 : L21 126 = (sd_I (dA 0) 4) := (hn21 126 (by omega)).trans hy20
  refine x_aload_n 0 0 d_O_init_85 rfl rfl ?_
  refine x_iconst (v := 4) d_O_init_86 (by decide) ?_
  refine x_newI (rc := 6) (rs := 4971) (n := 127) (t0 := 0) (len := 4) hA20 hl21 (List.forall_mem_cons.mpr ⟨(sd_bel_r (by omega)), fun _ h => absurd h List.not_mem_nil⟩) (List.forall_mem_cons.mpr ⟨(sd_bel_r (by omega)), fun _ h => absurd h List.not_mem_nil⟩) d_O_init_87 rfl (by decide) (List.mem_cons_of_mem _ q598) rfl (by decide) (by decide) (by decide) rfl rfl (fun ad22 M22 hA22 hl22 hu22 hq22 e22 => ?_)
  have hw := hw M22 e22
  clear e22
  have hy22 : va_up L21 127 (sd_I (dA 0) 4) 127 = (sd_I (dA 0) 4) := va_up_self _ _ _
  generalize va_up L21 127 (sd_I (dA 0) 4) = L22 at hl22 hu22 hy22 ⊢
  have hlo : L22 116 = sd_O 10 [none, none, none, some (some 117), some (some 118), some (some 119), some (some 120), some (some 121), some (some 122), some (some 123), none, some (some 124), some (some 125), some (some 126), some none, some none, some none, some none, some none, some none, none, none, some none, none, none, none, none, none, none, none, none, none, none, none, none] := (hu22.2 116 (by omega)).trans hlo
  have hy2 : L22 117 = (sd_I (dA 0) 4) := (hu22.2 117 (by omega)).trans hy2
  have hy4 : L22 118 = (sd_I (dA 1) 16) := (hu22.2 118 (by omega)).trans hy4
  have hy6 : L22 119 = (sd_I (dA 0) 16) := (hu22.2 119 (by omega)).trans hy6
  have hy8 : L22 120 = (sd_I (dA 0) 16) := (hu22.2 120 (by omega)).trans hy8
  have hy10 : L22 121 = (sd_I (dA 0) 16) := (hu22.2 121 (by omega)).trans hy10
  have hy12 : L22 122 = (sd_I (dA 1) 16) := (hu22.2 122 (by omega)).trans hy12
  have hy14 : L22 123 = (sd_I (dA 0) 16) := (hu22.2 123 (by omega)).trans hy14
  have hy16 : L22 124 = (sd_I (dA 0) 4) := (hu22.2 124 (by omega)).trans hy16
  have hy18 : L22 125 = (sd_I (dA 0) 4) := (hu22.2 125 (by omega)).trans hy18
  have hy20 : L22 126 = (sd_I (dA 0) 4) := (hu22.2 126 (by omega)).trans hy20
  refine x_putr 14 127 (ty := .array .int) hA22 (fun _ _ _ _ _ _ h => h.2.2.2.2 y_O_init _ _ _ _ rfl) d_O_init_89 (by omega) hlo (Nat.le_of_ble_eq_true rfl) rfl (by decide) lay_O (List.mem_cons_of_mem _ q470) rfl ty_O ty_O_ok nm_O rfl rfl (by decide +kernel) rfl rfl ?_
  obtain ⟨L23, hL23⟩ : ∃ z, z = va_up L22 116 (sd_O 10 [none, none, none, some (some 117), some (some 118), some (some 119), some (some 120), some (some 121), some (some 122), some (some 123), none, some (some 124), some (some 125), some (some 126), some (some 127), some none, some none, some none, some none, some none, none, none, some none, none, none, none, none, none, none, none, none, none, none, none, none]) := ⟨_, rfl⟩
  show sdW l (sdE0 sc) Y_O_init D (sd_tys dA) b _ _ (va_up L22 116 (sd_O 10 [none, none, none, some (some 117), some (some 118), some (some 119), some (some 120), some (some 121), some (some 122), some (some 123), none, some (some 124), some (some 125), some (some 126), some (some 127), some none, some none, some none, some none, some none, none, none, some none, none, none, none, none, none, none, none, none, none, none, none, none])) ad _ _ _ _ _ _ _ _ _
  rw [← hL23]
  have hn23 : ∀ k, k ≠ 116 → L23 k = L22 k := fun k h => by rw [hL23]; exact va_up_ne _ _ h
  have hl23 : sd_loc 128 L23 := by rw [hL23]; exact sd_loc_at hl22 (fun a a2 f e => by show (Sum.inr (10, sd_fv a f 0 [none, none, none, some (some 117), some (some 118), some (some 119), some (some 120), some (some 121), some (some 122), some (some 123), none, some (some 124), some (some 125), some (some 126), some (some 127), some none, some none, some none, some none, some none, none, none, some none, none, none, none, none, none, none, none, none, none, none, none, none]) : va_E) = Sum.inr (10, sd_fv a2 f 0 [none, none, none, some (some 117), some (some 118), some (some 119), some (some 120), some (some 121), some (some 122), some (some 123), none, some (some 124), some (some 125), some (some 126), some (some 127), some none, some none, some none, some none, some none, none, none, some none, none, none, none, none, none, none, none, none, none, none, none, none]); simp only [sd_fv, sd_fx]; rw [e 117 (by omega), e 118 (by omega), e 119 (by omega), e 120 (by omega), e 121 (by omega), e 122 (by omega), e 123 (by omega), e 124 (by omega), e 125 (by omega), e 126 (by omega), e 127 (by omega)])
  have hlo : L23 116 = sd_O 10 [none, none, none, some (some 117), some (some 118), some (some 119), some (some 120), some (some 121), some (some 122), some (some 123), none, some (some 124), some (some 125), some (some 126), some (some 127), some none, some none, some none, some none, some none, none, none, some none, none, none, none, none, none, none, none, none, none, none, none, none] := by rw [hL23]; exact va_up_self _ _ _
  clear hL23
  have hy2 : L23 117 = (sd_I (dA 0) 4) := (hn23 117 (by omega)).trans hy2
  have hy4 : L23 118 = (sd_I (dA 1) 16) := (hn23 118 (by omega)).trans hy4
  have hy6 : L23 119 = (sd_I (dA 0) 16) := (hn23 119 (by omega)).trans hy6
  have hy8 : L23 120 = (sd_I (dA 0) 16) := (hn23 120 (by omega)).trans hy8
  have hy10 : L23 121 = (sd_I (dA 0) 16) := (hn23 121 (by omega)).trans hy10
  have hy12 : L23 122 = (sd_I (dA 1) 16) := (hn23 122 (by omega)).trans hy12
  have hy14 : L23 123 = (sd_I (dA 0) 16) := (hn23 123 (by omega)).trans hy14
  have hy16 : L23 124 = (sd_I (dA 0) 4) := (hn23 124 (by omega)).trans hy16
  have hy18 : L23 125 = (sd_I (dA 0) 4) := (hn23 125 (by omega)).trans hy18
  have hy20 : L23 126 = (sd_I (dA 0) 4) := (hn23 126 (by omega)).trans hy20
  have hy22 : L23 127 = (sd_I (dA 0) 4) := (hn23 127 (by omega)).trans hy22
  refine x_aload_n 0 0 d_O_init_92 rfl rfl ?_
  refine x_iconst (v := 4) d_O_init_93 (by decide) ?_
  refine x_newI (rc := 5) (rs := 4967) (n := 128) (t0 := 1) (len := 4) hA22 hl23 (List.forall_mem_cons.mpr ⟨(sd_bel_r (by omega)), fun _ h => absurd h List.not_mem_nil⟩) (List.forall_mem_cons.mpr ⟨(sd_bel_r (by omega)), fun _ h => absurd h List.not_mem_nil⟩) d_O_init_94 rfl (by decide) (List.mem_cons_of_mem _ q634) rfl (by decide) (by decide) (by decide) rfl rfl (fun ad24 M24 hA24 hl24 hu24 hq24 e24 => ?_)
  have hw := hw M24 e24
  clear e24
  have hy24 : va_up L23 128 (sd_I (dA 1) 4) 128 = (sd_I (dA 1) 4) := va_up_self _ _ _
  generalize va_up L23 128 (sd_I (dA 1) 4) = L24 at hl24 hu24 hy24 ⊢
  have hlo : L24 116 = sd_O 10 [none, none, none, some (some 117), some (some 118), some (some 119), some (some 120), some (some 121), some (some 122), some (some 123), none, some (some 124), some (some 125), some (some 126), some (some 127), some none, some none, some none, some none, some none, none, none, some none, none, none, none, none, none, none, none, none, none, none, none, none] := (hu24.2 116 (by omega)).trans hlo
  have hy2 : L24 117 = (sd_I (dA 0) 4) := (hu24.2 117 (by omega)).trans hy2
  have hy4 : L24 118 = (sd_I (dA 1) 16) := (hu24.2 118 (by omega)).trans hy4
  have hy6 : L24 119 = (sd_I (dA 0) 16) := (hu24.2 119 (by omega)).trans hy6
  have hy8 : L24 120 = (sd_I (dA 0) 16) := (hu24.2 120 (by omega)).trans hy8
  have hy10 : L24 121 = (sd_I (dA 0) 16) := (hu24.2 121 (by omega)).trans hy10
  have hy12 : L24 122 = (sd_I (dA 1) 16) := (hu24.2 122 (by omega)).trans hy12
  have hy14 : L24 123 = (sd_I (dA 0) 16) := (hu24.2 123 (by omega)).trans hy14
  have hy16 : L24 124 = (sd_I (dA 0) 4) := (hu24.2 124 (by omega)).trans hy16
  have hy18 : L24 125 = (sd_I (dA 0) 4) := (hu24.2 125 (by omega)).trans hy18
  have hy20 : L24 126 = (sd_I (dA 0) 4) := (hu24.2 126 (by omega)).trans hy20
  have hy22 : L24 127 = (sd_I (dA 0) 4) := (hu24.2 127 (by omega)).trans hy22
  refine x_putr 15 128 (ty := .array .boolean) hA24 (fun _ _ _ _ _ _ h => h.2.2.2.2 y_O_init _ _ _ _ rfl) d_O_init_96 (by omega) hlo (Nat.le_of_ble_eq_true rfl) rfl (by decide) lay_O (List.mem_cons_of_mem _ q471) rfl ty_O ty_O_ok nm_O rfl rfl (by decide +kernel) rfl rfl ?_
  obtain ⟨L25, hL25⟩ : ∃ z, z = va_up L24 116 (sd_O 10 [none, none, none, some (some 117), some (some 118), some (some 119), some (some 120), some (some 121), some (some 122), some (some 123), none, some (some 124), some (some 125), some (some 126), some (some 127), some (some 128), some none, some none, some none, some none, none, none, some none, none, none, none, none, none, none, none, none, none, none, none, none]) := ⟨_, rfl⟩
  show sdW l (sdE0 sc) Y_O_init D (sd_tys dA) b _ _ (va_up L24 116 (sd_O 10 [none, none, none, some (some 117), some (some 118), some (some 119), some (some 120), some (some 121), some (some 122), some (some 123), none, some (some 124), some (some 125), some (some 126), some (some 127), some (some 128), some none, some none, some none, some none, none, none, some none, none, none, none, none, none, none, none, none, none, none, none, none])) ad _ _ _ _ _ _ _ _ _
  rw [← hL25]
  have hn25 : ∀ k, k ≠ 116 → L25 k = L24 k := fun k h => by rw [hL25]; exact va_up_ne _ _ h
  have hl25 : sd_loc 129 L25 := by rw [hL25]; exact sd_loc_at hl24 (fun a a2 f e => by show (Sum.inr (10, sd_fv a f 0 [none, none, none, some (some 117), some (some 118), some (some 119), some (some 120), some (some 121), some (some 122), some (some 123), none, some (some 124), some (some 125), some (some 126), some (some 127), some (some 128), some none, some none, some none, some none, none, none, some none, none, none, none, none, none, none, none, none, none, none, none, none]) : va_E) = Sum.inr (10, sd_fv a2 f 0 [none, none, none, some (some 117), some (some 118), some (some 119), some (some 120), some (some 121), some (some 122), some (some 123), none, some (some 124), some (some 125), some (some 126), some (some 127), some (some 128), some none, some none, some none, some none, none, none, some none, none, none, none, none, none, none, none, none, none, none, none, none]); simp only [sd_fv, sd_fx]; rw [e 117 (by omega), e 118 (by omega), e 119 (by omega), e 120 (by omega), e 121 (by omega), e 122 (by omega), e 123 (by omega), e 124 (by omega), e 125 (by omega), e 126 (by omega), e 127 (by omega), e 128 (by omega)])
  have hlo : L25 116 = sd_O 10 [none, none, none, some (some 117), some (some 118), some (some 119), some (some 120), some (some 121), some (some 122), some (some 123), none, some (some 124), some (some 125), some (some 126), some (some 127), some (some 128), some none, some none, some none, some none, none, none, some none, none, none, none, none, none, none, none, none, none, none, none, none] := by rw [hL25]; exact va_up_self _ _ _
  clear hL25
  have hy2 : L25 117 = (sd_I (dA 0) 4) := (hn25 117 (by omega)).trans hy2
  have hy4 : L25 118 = (sd_I (dA 1) 16) := (hn25 118 (by omega)).trans hy4
  have hy6 : L25 119 = (sd_I (dA 0) 16) := (hn25 119 (by omega)).trans hy6
  have hy8 : L25 120 = (sd_I (dA 0) 16) := (hn25 120 (by omega)).trans hy8
  have hy10 : L25 121 = (sd_I (dA 0) 16) := (hn25 121 (by omega)).trans hy10
  have hy12 : L25 122 = (sd_I (dA 1) 16) := (hn25 122 (by omega)).trans hy12
  have hy14 : L25 123 = (sd_I (dA 0) 16) := (hn25 123 (by omega)).trans hy14
  have hy16 : L25 124 = (sd_I (dA 0) 4) := (hn25 124 (by omega)).trans hy16
  have hy18 : L25 125 = (sd_I (dA 0) 4) := (hn25 125 (by omega)).trans hy18
  have hy20 : L25 126 = (sd_I (dA 0) 4) := (hn25 126 (by omega)).trans hy20
  have hy22 : L25 127 = (sd_I (dA 0) 4) := (hn25 127 (by omega)).trans hy22
  have hy24 : L25 128 = (sd_I (dA 1) 4) := (hn25 128 (by omega)).trans hy24
  refine x_aload_n 0 0 d_O_init_99 rfl rfl ?_
  refine x_bipush (v := 68) d_O_init_100 (by decide) ?_
  refine x_newI (rc := 4) (rs := 4899) (n := 129) (t0 := 0) (len := 68) hA24 hl25 (List.forall_mem_cons.mpr ⟨(sd_bel_r (by omega)), fun _ h => absurd h List.not_mem_nil⟩) (List.forall_mem_cons.mpr ⟨(sd_bel_r (by omega)), fun _ h => absurd h List.not_mem_nil⟩) d_O_init_102 rfl (by decide) (List.mem_cons_of_mem _ q598) rfl (by decide) (by decide) (by decide) rfl rfl (fun ad26 M26 hA26 hl26 hu26 hq26 e26 => ?_)
  have hw := hw M26 e26
  clear e26
  have hy26 : va_up L25 129 (sd_I (dA 0) 68) 129 = (sd_I (dA 0) 68) := va_up_self _ _ _
  generalize va_up L25 129 (sd_I (dA 0) 68) = L26 at hl26 hu26 hy26 ⊢
  have hlo : L26 116 = sd_O 10 [none, none, none, some (some 117), some (some 118), some (some 119), some (some 120), some (some 121), some (some 122), some (some 123), none, some (some 124), some (some 125), some (some 126), some (some 127), some (some 128), some none, some none, some none, some none, none, none, some none, none, none, none, none, none, none, none, none, none, none, none, none] := (hu26.2 116 (by omega)).trans hlo
  have hy2 : L26 117 = (sd_I (dA 0) 4) := (hu26.2 117 (by omega)).trans hy2
  have hy4 : L26 118 = (sd_I (dA 1) 16) := (hu26.2 118 (by omega)).trans hy4
  have hy6 : L26 119 = (sd_I (dA 0) 16) := (hu26.2 119 (by omega)).trans hy6
  have hy8 : L26 120 = (sd_I (dA 0) 16) := (hu26.2 120 (by omega)).trans hy8
  have hy10 : L26 121 = (sd_I (dA 0) 16) := (hu26.2 121 (by omega)).trans hy10
  have hy12 : L26 122 = (sd_I (dA 1) 16) := (hu26.2 122 (by omega)).trans hy12
  have hy14 : L26 123 = (sd_I (dA 0) 16) := (hu26.2 123 (by omega)).trans hy14
  have hy16 : L26 124 = (sd_I (dA 0) 4) := (hu26.2 124 (by omega)).trans hy16
  have hy18 : L26 125 = (sd_I (dA 0) 4) := (hu26.2 125 (by omega)).trans hy18
  have hy20 : L26 126 = (sd_I (dA 0) 4) := (hu26.2 126 (by omega)).trans hy20
  have hy22 : L26 127 = (sd_I (dA 0) 4) := (hu26.2 127 (by omega)).trans hy22
  have hy24 : L26 128 = (sd_I (dA 1) 4) := (hu26.2 128 (by omega)).trans hy24
  refine x_putr 16 129 (ty := .array .int) hA26 (fun _ _ _ _ _ _ h => h.2.2.2.2 y_O_init _ _ _ _ rfl) d_O_init_104 (by omega) hlo (Nat.le_of_ble_eq_true rfl) rfl (by decide) lay_O (List.mem_cons_of_mem _ q478) rfl ty_O ty_O_ok nm_O rfl rfl (by decide +kernel) rfl rfl ?_
  obtain ⟨L27, hL27⟩ : ∃ z, z = va_up L26 116 (sd_O 10 [none, none, none, some (some 117), some (some 118), some (some 119), some (some 120), some (some 121), some (some 122), some (some 123), none, some (some 124), some (some 125), some (some 126), some (some 127), some (some 128), some (some 129), some none, some none, some none, none, none, some none, none, none, none, none, none, none, none, none, none, none, none, none]) := ⟨_, rfl⟩
  show sdW l (sdE0 sc) Y_O_init D (sd_tys dA) b _ _ (va_up L26 116 (sd_O 10 [none, none, none, some (some 117), some (some 118), some (some 119), some (some 120), some (some 121), some (some 122), some (some 123), none, some (some 124), some (some 125), some (some 126), some (some 127), some (some 128), some (some 129), some none, some none, some none, none, none, some none, none, none, none, none, none, none, none, none, none, none, none, none])) ad _ _ _ _ _ _ _ _ _
  rw [← hL27]
  have hn27 : ∀ k, k ≠ 116 → L27 k = L26 k := fun k h => by rw [hL27]; exact va_up_ne _ _ h
  have hl27 : sd_loc 130 L27 := by rw [hL27]; exact sd_loc_at hl26 (fun a a2 f e => by show (Sum.inr (10, sd_fv a f 0 [none, none, none, some (some 117), some (some 118), some (some 119), some (some 120), some (some 121), some (some 122), some (some 123), none, some (some 124), some (some 125), some (some 126), some (some 127), some (some 128), some (some 129), some none, some none, some none, none, none, some none, none, none, none, none, none, none, none, none, none, none, none, none]) : va_E) = Sum.inr (10, sd_fv a2 f 0 [none, none, none, some (some 117), some (some 118), some (some 119), some (some 120), some (some 121), some (some 122), some (some 123), none, some (some 124), some (some 125), some (some 126), some (some 127), some (some 128), some (some 129), some none, some none, some none, none, none, some none, none, none, none, none, none, none, none, none, none, none, none, none]); simp only [sd_fv, sd_fx]; rw [e 117 (by omega), e 118 (by omega), e 119 (by omega), e 120 (by omega), e 121 (by omega), e 122 (by omega), e 123 (by omega), e 124 (by omega), e 125 (by omega), e 126 (by omega), e 127 (by omega), e 128 (by omega), e 129 (by omega)])
  have hlo : L27 116 = sd_O 10 [none, none, none, some (some 117), some (some 118), some (some 119), some (some 120), some (some 121), some (some 122), some (some 123), none, some (some 124), some (some 125), some (some 126), some (some 127), some (some 128), some (some 129), some none, some none, some none, none, none, some none, none, none, none, none, none, none, none, none, none, none, none, none] := by rw [hL27]; exact va_up_self _ _ _
  clear hL27
  have hy2 : L27 117 = (sd_I (dA 0) 4) := (hn27 117 (by omega)).trans hy2
  have hy4 : L27 118 = (sd_I (dA 1) 16) := (hn27 118 (by omega)).trans hy4
  have hy6 : L27 119 = (sd_I (dA 0) 16) := (hn27 119 (by omega)).trans hy6
  have hy8 : L27 120 = (sd_I (dA 0) 16) := (hn27 120 (by omega)).trans hy8
  have hy10 : L27 121 = (sd_I (dA 0) 16) := (hn27 121 (by omega)).trans hy10
  have hy12 : L27 122 = (sd_I (dA 1) 16) := (hn27 122 (by omega)).trans hy12
  have hy14 : L27 123 = (sd_I (dA 0) 16) := (hn27 123 (by omega)).trans hy14
  have hy16 : L27 124 = (sd_I (dA 0) 4) := (hn27 124 (by omega)).trans hy16
  have hy18 : L27 125 = (sd_I (dA 0) 4) := (hn27 125 (by omega)).trans hy18
  have hy20 : L27 126 = (sd_I (dA 0) 4) := (hn27 126 (by omega)).trans hy20
  have hy22 : L27 127 = (sd_I (dA 0) 4) := (hn27 127 (by omega)).trans hy22
  have hy24 : L27 128 = (sd_I (dA 1) 4) := (hn27 128 (by omega)).trans hy24
  have hy26 : L27 129 = (sd_I (dA 0) 68) := (hn27 129 (by omega)).trans hy26
  refine x_aload_n 0 0 d_O_init_107 rfl rfl ?_
  refine x_sipush (v := 816) d_O_init_108 (by decide) ?_
  refine x_newI (rc := 3) (rs := 4083) (n := 130) (t0 := 0) (len := 816) hA26 hl27 (List.forall_mem_cons.mpr ⟨(sd_bel_r (by omega)), fun _ h => absurd h List.not_mem_nil⟩) (List.forall_mem_cons.mpr ⟨(sd_bel_r (by omega)), fun _ h => absurd h List.not_mem_nil⟩) d_O_init_111 rfl (by decide) (List.mem_cons_of_mem _ q598) rfl (by decide) (by decide) (by decide) rfl rfl (fun ad28 M28 hA28 hl28 hu28 hq28 e28 => ?_)
  have hw := hw M28 e28
  clear e28
  have hy28 : va_up L27 130 (sd_I (dA 0) 816) 130 = (sd_I (dA 0) 816) := va_up_self _ _ _
  generalize va_up L27 130 (sd_I (dA 0) 816) = L28 at hl28 hu28 hy28 ⊢
  have hlo : L28 116 = sd_O 10 [none, none, none, some (some 117), some (some 118), some (some 119), some (some 120), some (some 121), some (some 122), some (some 123), none, some (some 124), some (some 125), some (some 126), some (some 127), some (some 128), some (some 129), some none, some none, some none, none, none, some none, none, none, none, none, none, none, none, none, none, none, none, none] := (hu28.2 116 (by omega)).trans hlo
  have hy2 : L28 117 = (sd_I (dA 0) 4) := (hu28.2 117 (by omega)).trans hy2
  have hy4 : L28 118 = (sd_I (dA 1) 16) := (hu28.2 118 (by omega)).trans hy4
  have hy6 : L28 119 = (sd_I (dA 0) 16) := (hu28.2 119 (by omega)).trans hy6
  have hy8 : L28 120 = (sd_I (dA 0) 16) := (hu28.2 120 (by omega)).trans hy8
  have hy10 : L28 121 = (sd_I (dA 0) 16) := (hu28.2 121 (by omega)).trans hy10
  have hy12 : L28 122 = (sd_I (dA 1) 16) := (hu28.2 122 (by omega)).trans hy12
  have hy14 : L28 123 = (sd_I (dA 0) 16) := (hu28.2 123 (by omega)).trans hy14
  have hy16 : L28 124 = (sd_I (dA 0) 4) := (hu28.2 124 (by omega)).trans hy16
  have hy18 : L28 125 = (sd_I (dA 0) 4) := (hu28.2 125 (by omega)).trans hy18
  have hy20 : L28 126 = (sd_I (dA 0) 4) := (hu28.2 126 (by omega)).trans hy20
  have hy22 : L28 127 = (sd_I (dA 0) 4) := (hu28.2 127 (by omega)).trans hy22
  have hy24 : L28 128 = (sd_I (dA 1) 4) := (hu28.2 128 (by omega)).trans hy24
  have hy26 : L28 129 = (sd_I (dA 0) 68) := (hu28.2 129 (by omega)).trans hy26
  refine x_putr 17 130 (ty := .array .int) hA28 (fun _ _ _ _ _ _ h => h.2.2.2.2 y_O_init _ _ _ _ rfl) d_O_init_113 (by omega) hlo (Nat.le_of_ble_eq_true rfl) rfl (by decide) lay_O (List.mem_cons_of_mem _ q479) rfl ty_O ty_O_ok nm_O rfl rfl (by decide +kernel) rfl rfl ?_
  obtain ⟨L29, hL29⟩ : ∃ z, z = va_up L28 116 (sd_O 10 [none, none, none, some (some 117), some (some 118), some (some 119), some (some 120), some (some 121), some (some 122), some (some 123), none, some (some 124), some (some 125), some (some 126), some (some 127), some (some 128), some (some 129), some (some 130), some none, some none, none, none, some none, none, none, none, none, none, none, none, none, none, none, none, none]) := ⟨_, rfl⟩
  show sdW l (sdE0 sc) Y_O_init D (sd_tys dA) b _ _ (va_up L28 116 (sd_O 10 [none, none, none, some (some 117), some (some 118), some (some 119), some (some 120), some (some 121), some (some 122), some (some 123), none, some (some 124), some (some 125), some (some 126), some (some 127), some (some 128), some (some 129), some (some 130), some none, some none, none, none, some none, none, none, none, none, none, none, none, none, none, none, none, none])) ad _ _ _ _ _ _ _ _ _
  rw [← hL29]
  have hn29 : ∀ k, k ≠ 116 → L29 k = L28 k := fun k h => by rw [hL29]; exact va_up_ne _ _ h
  have hl29 : sd_loc 131 L29 := by rw [hL29]; exact sd_loc_at hl28 (fun a a2 f e => by show (Sum.inr (10, sd_fv a f 0 [none, none, none, some (some 117), some (some 118), some (some 119), some (some 120), some (some 121), some (some 122), some (some 123), none, some (some 124), some (some 125), some (some 126), some (some 127), some (some 128), some (some 129), some (some 130), some none, some none, none, none, some none, none, none, none, none, none, none, none, none, none, none, none, none]) : va_E) = Sum.inr (10, sd_fv a2 f 0 [none, none, none, some (some 117), some (some 118), some (some 119), some (some 120), some (some 121), some (some 122), some (some 123), none, some (some 124), some (some 125), some (some 126), some (some 127), some (some 128), some (some 129), some (some 130), some none, some none, none, none, some none, none, none, none, none, none, none, none, none, none, none, none, none]); simp only [sd_fv, sd_fx]; rw [e 117 (by omega), e 118 (by omega), e 119 (by omega), e 120 (by omega), e 121 (by omega), e 122 (by omega), e 123 (by omega), e 124 (by omega), e 125 (by omega), e 126 (by omega), e 127 (by omega), e 128 (by omega), e 129 (by omega), e 130 (by omega)])
  have hlo : L29 116 = sd_O 10 [none, none, none, some (some 117), some (some 118), some (some 119), some (some 120), some (some 121), some (some 122), some (some 123), none, some (some 124), some (some 125), some (some 126), some (some 127), some (some 128), some (some 129), some (some 130), some none, some none, none, none, some none, none, none, none, none, none, none, none, none, none, none, none, none] := by rw [hL29]; exact va_up_self _ _ _
  clear hL29
  have hy2 : L29 117 = (sd_I (dA 0) 4) := (hn29 117 (by omega)).trans hy2
  have hy4 : L29 118 = (sd_I (dA 1) 16) := (hn29 118 (by omega)).trans hy4
  have hy6 : L29 119 = (sd_I (dA 0) 16) := (hn29 119 (by omega)).trans hy6
  have hy8 : L29 120 = (sd_I (dA 0) 16) := (hn29 120 (by omega)).trans hy8
  have hy10 : L29 121 = (sd_I (dA 0) 16) := (hn29 121 (by omega)).trans hy10
  have hy12 : L29 122 = (sd_I (dA 1) 16) := (hn29 122 (by omega)).trans hy12
  have hy14 : L29 123 = (sd_I (dA 0) 16) := (hn29 123 (by omega)).trans hy14
  have hy16 : L29 124 = (sd_I (dA 0) 4) := (hn29 124 (by omega)).trans hy16
  have hy18 : L29 125 = (sd_I (dA 0) 4) := (hn29 125 (by omega)).trans hy18
  have hy20 : L29 126 = (sd_I (dA 0) 4) := (hn29 126 (by omega)).trans hy20
  have hy22 : L29 127 = (sd_I (dA 0) 4) := (hn29 127 (by omega)).trans hy22
  have hy24 : L29 128 = (sd_I (dA 1) 4) := (hn29 128 (by omega)).trans hy24
  have hy26 : L29 129 = (sd_I (dA 0) 68) := (hn29 129 (by omega)).trans hy26
  have hy28 : L29 130 = (sd_I (dA 0) 816) := (hn29 130 (by omega)).trans hy28
  refine x_aload_n 0 0 d_O_init_116 rfl rfl ?_
  refine x_sipush (v := 816) d_O_init_117 (by decide) ?_
  refine x_newI (rc := 2) (rs := 3267) (n := 131) (t0 := 0) (len := 816) hA28 hl29 (List.forall_mem_cons.mpr ⟨(sd_bel_r (by omega)), fun _ h => absurd h List.not_mem_nil⟩) (List.forall_mem_cons.mpr ⟨(sd_bel_r (by omega)), fun _ h => absurd h List.not_mem_nil⟩) d_O_init_120 rfl (by decide) (List.mem_cons_of_mem _ q598) rfl (by decide) (by decide) (by decide) rfl rfl (fun ad30 M30 hA30 hl30 hu30 hq30 e30 => ?_)
  have hw := hw M30 e30
  clear e30
  have hy30 : va_up L29 131 (sd_I (dA 0) 816) 131 = (sd_I (dA 0) 816) := va_up_self _ _ _
  generalize va_up L29 131 (sd_I (dA 0) 816) = L30 at hl30 hu30 hy30 ⊢
  have hlo : L30 116 = sd_O 10 [none, none, none, some (some 117), some (some 118), some (some 119), some (some 120), some (some 121), some (some 122), some (some 123), none, some (some 124), some (some 125), some (some 126), some (some 127), some (some 128), some (some 129), some (some 130), some none, some none, none, none, some none, none, none, none, none, none, none, none, none, none, none, none, none] := (hu30.2 116 (by omega)).trans hlo
  have hy2 : L30 117 = (sd_I (dA 0) 4) := (hu30.2 117 (by omega)).trans hy2
  have hy4 : L30 118 = (sd_I (dA 1) 16) := (hu30.2 118 (by omega)).trans hy4
  have hy6 : L30 119 = (sd_I (dA 0) 16) := (hu30.2 119 (by omega)).trans hy6
  have hy8 : L30 120 = (sd_I (dA 0) 16) := (hu30.2 120 (by omega)).trans hy8
  have hy10 : L30 121 = (sd_I (dA 0) 16) := (hu30.2 121 (by omega)).trans hy10
  have hy12 : L30 122 = (sd_I (dA 1) 16) := (hu30.2 122 (by omega)).trans hy12
  have hy14 : L30 123 = (sd_I (dA 0) 16) := (hu30.2 123 (by omega)).trans hy14
  have hy16 : L30 124 = (sd_I (dA 0) 4) := (hu30.2 124 (by omega)).trans hy16
  have hy18 : L30 125 = (sd_I (dA 0) 4) := (hu30.2 125 (by omega)).trans hy18
  have hy20 : L30 126 = (sd_I (dA 0) 4) := (hu30.2 126 (by omega)).trans hy20
  have hy22 : L30 127 = (sd_I (dA 0) 4) := (hu30.2 127 (by omega)).trans hy22
  have hy24 : L30 128 = (sd_I (dA 1) 4) := (hu30.2 128 (by omega)).trans hy24
  have hy26 : L30 129 = (sd_I (dA 0) 68) := (hu30.2 129 (by omega)).trans hy26
  have hy28 : L30 130 = (sd_I (dA 0) 816) := (hu30.2 130 (by omega)).trans hy28
  refine x_putr 18 131 (ty := .array .int) hA30 (fun _ _ _ _ _ _ h => h.2.2.2.2 y_O_init _ _ _ _ rfl) d_O_init_122 (by omega) hlo (Nat.le_of_ble_eq_true rfl) rfl (by decide) lay_O (List.mem_cons_of_mem _ q472) rfl ty_O ty_O_ok nm_O rfl rfl (by decide +kernel) rfl rfl ?_
  obtain ⟨L31, hL31⟩ : ∃ z, z = va_up L30 116 (sd_O 10 [none, none, none, some (some 117), some (some 118), some (some 119), some (some 120), some (some 121), some (some 122), some (some 123), none, some (some 124), some (some 125), some (some 126), some (some 127), some (some 128), some (some 129), some (some 130), some (some 131), some none, none, none, some none, none, none, none, none, none, none, none, none, none, none, none, none]) := ⟨_, rfl⟩
  show sdW l (sdE0 sc) Y_O_init D (sd_tys dA) b _ _ (va_up L30 116 (sd_O 10 [none, none, none, some (some 117), some (some 118), some (some 119), some (some 120), some (some 121), some (some 122), some (some 123), none, some (some 124), some (some 125), some (some 126), some (some 127), some (some 128), some (some 129), some (some 130), some (some 131), some none, none, none, some none, none, none, none, none, none, none, none, none, none, none, none, none])) ad _ _ _ _ _ _ _ _ _
  rw [← hL31]
  have hn31 : ∀ k, k ≠ 116 → L31 k = L30 k := fun k h => by rw [hL31]; exact va_up_ne _ _ h
  have hl31 : sd_loc 132 L31 := by rw [hL31]; exact sd_loc_at hl30 (fun a a2 f e => by show (Sum.inr (10, sd_fv a f 0 [none, none, none, some (some 117), some (some 118), some (some 119), some (some 120), some (some 121), some (some 122), some (some 123), none, some (some 124), some (some 125), some (some 126), some (some 127), some (some 128), some (some 129), some (some 130), some (some 131), some none, none, none, some none, none, none, none, none, none, none, none, none, none, none, none, none]) : va_E) = Sum.inr (10, sd_fv a2 f 0 [none, none, none, some (some 117), some (some 118), some (some 119), some (some 120), some (some 121), some (some 122), some (some 123), none, some (some 124), some (some 125), some (some 126), some (some 127), some (some 128), some (some 129), some (some 130), some (some 131), some none, none, none, some none, none, none, none, none, none, none, none, none, none, none, none, none]); simp only [sd_fv, sd_fx]; rw [e 117 (by omega), e 118 (by omega), e 119 (by omega), e 120 (by omega), e 121 (by omega), e 122 (by omega), e 123 (by omega), e 124 (by omega), e 125 (by omega), e 126 (by omega), e 127 (by omega), e 128 (by omega), e 129 (by omega), e 130 (by omega), e 131 (by omega)])
  have hlo : L31 116 = sd_O 10 [none, none, none, some (some 117), some (some 118), some (some 119), some (some 120), some (some 121), some (some 122), some (some 123), none, some (some 124), some (some 125), some (some 126), some (some 127), some (some 128), some (some 129), some (some 130), some (some 131), some none, none, none, some none, none, none, none, none, none, none, none, none, none, none, none, none] := by rw [hL31]; exact va_up_self _ _ _
  clear hL31
  have hy2 : L31 117 = (sd_I (dA 0) 4) := (hn31 117 (by omega)).trans hy2
  have hy4 : L31 118 = (sd_I (dA 1) 16) := (hn31 118 (by omega)).trans hy4
  have hy6 : L31 119 = (sd_I (dA 0) 16) := (hn31 119 (by omega)).trans hy6
  have hy8 : L31 120 = (sd_I (dA 0) 16) := (hn31 120 (by omega)).trans hy8
  have hy10 : L31 121 = (sd_I (dA 0) 16) := (hn31 121 (by omega)).trans hy10
  have hy12 : L31 122 = (sd_I (dA 1) 16) := (hn31 122 (by omega)).trans hy12
  have hy14 : L31 123 = (sd_I (dA 0) 16) := (hn31 123 (by omega)).trans hy14
  have hy16 : L31 124 = (sd_I (dA 0) 4) := (hn31 124 (by omega)).trans hy16
  have hy18 : L31 125 = (sd_I (dA 0) 4) := (hn31 125 (by omega)).trans hy18
  have hy20 : L31 126 = (sd_I (dA 0) 4) := (hn31 126 (by omega)).trans hy20
  have hy22 : L31 127 = (sd_I (dA 0) 4) := (hn31 127 (by omega)).trans hy22
  have hy24 : L31 128 = (sd_I (dA 1) 4) := (hn31 128 (by omega)).trans hy24
  have hy26 : L31 129 = (sd_I (dA 0) 68) := (hn31 129 (by omega)).trans hy26
  have hy28 : L31 130 = (sd_I (dA 0) 816) := (hn31 130 (by omega)).trans hy28
  have hy30 : L31 131 = (sd_I (dA 0) 816) := (hn31 131 (by omega)).trans hy30
  refine x_aload_n 0 0 d_O_init_125 rfl rfl ?_
  refine x_sipush (v := 3264) d_O_init_126 (by decide) ?_
  refine x_newI (rc := 1) (rs := 3) (n := 132) (t0 := 0) (len := 3264) hA30 hl31 (List.forall_mem_cons.mpr ⟨(sd_bel_r (by omega)), fun _ h => absurd h List.not_mem_nil⟩) (List.forall_mem_cons.mpr ⟨(sd_bel_r (by omega)), fun _ h => absurd h List.not_mem_nil⟩) d_O_init_129 rfl (by decide) (List.mem_cons_of_mem _ q598) rfl (by decide) (by decide) (by decide) rfl rfl (fun ad32 M32 hA32 hl32 hu32 hq32 e32 => ?_)
  have hw := hw M32 e32
  clear e32
  have hy32 : va_up L31 132 (sd_I (dA 0) 3264) 132 = (sd_I (dA 0) 3264) := va_up_self _ _ _
  generalize va_up L31 132 (sd_I (dA 0) 3264) = L32 at hl32 hu32 hy32 ⊢
  have hlo : L32 116 = sd_O 10 [none, none, none, some (some 117), some (some 118), some (some 119), some (some 120), some (some 121), some (some 122), some (some 123), none, some (some 124), some (some 125), some (some 126), some (some 127), some (some 128), some (some 129), some (some 130), some (some 131), some none, none, none, some none, none, none, none, none, none, none, none, none, none, none, none, none] := (hu32.2 116 (by omega)).trans hlo
  have hy2 : L32 117 = (sd_I (dA 0) 4) := (hu32.2 117 (by omega)).trans hy2
  have hy4 : L32 118 = (sd_I (dA 1) 16) := (hu32.2 118 (by omega)).trans hy4
  have hy6 : L32 119 = (sd_I (dA 0) 16) := (hu32.2 119 (by omega)).trans hy6
  have hy8 : L32 120 = (sd_I (dA 0) 16) := (hu32.2 120 (by omega)).trans hy8
  have hy10 : L32 121 = (sd_I (dA 0) 16) := (hu32.2 121 (by omega)).trans hy10
  have hy12 : L32 122 = (sd_I (dA 1) 16) := (hu32.2 122 (by omega)).trans hy12
  have hy14 : L32 123 = (sd_I (dA 0) 16) := (hu32.2 123 (by omega)).trans hy14
  have hy16 : L32 124 = (sd_I (dA 0) 4) := (hu32.2 124 (by omega)).trans hy16
  have hy18 : L32 125 = (sd_I (dA 0) 4) := (hu32.2 125 (by omega)).trans hy18
  have hy20 : L32 126 = (sd_I (dA 0) 4) := (hu32.2 126 (by omega)).trans hy20
  have hy22 : L32 127 = (sd_I (dA 0) 4) := (hu32.2 127 (by omega)).trans hy22
  have hy24 : L32 128 = (sd_I (dA 1) 4) := (hu32.2 128 (by omega)).trans hy24
  have hy26 : L32 129 = (sd_I (dA 0) 68) := (hu32.2 129 (by omega)).trans hy26
  have hy28 : L32 130 = (sd_I (dA 0) 816) := (hu32.2 130 (by omega)).trans hy28
  have hy30 : L32 131 = (sd_I (dA 0) 816) := (hu32.2 131 (by omega)).trans hy30
  refine x_putr 19 132 (ty := .array .int) hA32 (fun _ _ _ _ _ _ h => h.2.2.2.2 y_O_init _ _ _ _ rfl) d_O_init_131 (by omega) hlo (Nat.le_of_ble_eq_true rfl) rfl (by decide) lay_O (List.mem_cons_of_mem _ q477) rfl ty_O ty_O_ok nm_O rfl rfl (by decide +kernel) rfl rfl ?_
  obtain ⟨L33, hL33⟩ : ∃ z, z = va_up L32 116 (sd_O 10 [none, none, none, some (some 117), some (some 118), some (some 119), some (some 120), some (some 121), some (some 122), some (some 123), none, some (some 124), some (some 125), some (some 126), some (some 127), some (some 128), some (some 129), some (some 130), some (some 131), some (some 132), none, none, some none, none, none, none, none, none, none, none, none, none, none, none, none]) := ⟨_, rfl⟩
  show sdW l (sdE0 sc) Y_O_init D (sd_tys dA) b _ _ (va_up L32 116 (sd_O 10 [none, none, none, some (some 117), some (some 118), some (some 119), some (some 120), some (some 121), some (some 122), some (some 123), none, some (some 124), some (some 125), some (some 126), some (some 127), some (some 128), some (some 129), some (some 130), some (some 131), some (some 132), none, none, some none, none, none, none, none, none, none, none, none, none, none, none, none])) ad _ _ _ _ _ _ _ _ _
  rw [← hL33]
  have hn33 : ∀ k, k ≠ 116 → L33 k = L32 k := fun k h => by rw [hL33]; exact va_up_ne _ _ h
  have hl33 : sd_loc 133 L33 := by rw [hL33]; exact sd_loc_at hl32 (fun a a2 f e => by show (Sum.inr (10, sd_fv a f 0 [none, none, none, some (some 117), some (some 118), some (some 119), some (some 120), some (some 121), some (some 122), some (some 123), none, some (some 124), some (some 125), some (some 126), some (some 127), some (some 128), some (some 129), some (some 130), some (some 131), some (some 132), none, none, some none, none, none, none, none, none, none, none, none, none, none, none, none]) : va_E) = Sum.inr (10, sd_fv a2 f 0 [none, none, none, some (some 117), some (some 118), some (some 119), some (some 120), some (some 121), some (some 122), some (some 123), none, some (some 124), some (some 125), some (some 126), some (some 127), some (some 128), some (some 129), some (some 130), some (some 131), some (some 132), none, none, some none, none, none, none, none, none, none, none, none, none, none, none, none]); simp only [sd_fv, sd_fx]; rw [e 117 (by omega), e 118 (by omega), e 119 (by omega), e 120 (by omega), e 121 (by omega), e 122 (by omega), e 123 (by omega), e 124 (by omega), e 125 (by omega), e 126 (by omega), e 127 (by omega), e 128 (by omega), e 129 (by omega), e 130 (by omega), e 131 (by omega), e 132 (by omega)])
  have hlo : L33 116 = sd_O 10 [none, none, none, some (some 117), some (some 118), some (some 119), some (some 120), some (some 121), some (some 122), some (some 123), none, some (some 124), some (some 125), some (some 126), some (some 127), some (some 128), some (some 129), some (some 130), some (some 131), some (some 132), none, none, some none, none, none, none, none, none, none, none, none, none, none, none, none] := by rw [hL33]; exact va_up_self _ _ _
  clear hL33
  have hy2 : L33 117 = (sd_I (dA 0) 4) := (hn33 117 (by omega)).trans hy2
  have hy4 : L33 118 = (sd_I (dA 1) 16) := (hn33 118 (by omega)).trans hy4
  have hy6 : L33 119 = (sd_I (dA 0) 16) := (hn33 119 (by omega)).trans hy6
  have hy8 : L33 120 = (sd_I (dA 0) 16) := (hn33 120 (by omega)).trans hy8
  have hy10 : L33 121 = (sd_I (dA 0) 16) := (hn33 121 (by omega)).trans hy10
  have hy12 : L33 122 = (sd_I (dA 1) 16) := (hn33 122 (by omega)).trans hy12
  have hy14 : L33 123 = (sd_I (dA 0) 16) := (hn33 123 (by omega)).trans hy14
  have hy16 : L33 124 = (sd_I (dA 0) 4) := (hn33 124 (by omega)).trans hy16
  have hy18 : L33 125 = (sd_I (dA 0) 4) := (hn33 125 (by omega)).trans hy18
  have hy20 : L33 126 = (sd_I (dA 0) 4) := (hn33 126 (by omega)).trans hy20
  have hy22 : L33 127 = (sd_I (dA 0) 4) := (hn33 127 (by omega)).trans hy22
  have hy24 : L33 128 = (sd_I (dA 1) 4) := (hn33 128 (by omega)).trans hy24
  have hy26 : L33 129 = (sd_I (dA 0) 68) := (hn33 129 (by omega)).trans hy26
  have hy28 : L33 130 = (sd_I (dA 0) 816) := (hn33 130 (by omega)).trans hy28
  have hy30 : L33 131 = (sd_I (dA 0) 816) := (hn33 131 (by omega)).trans hy30
  have hy32 : L33 132 = (sd_I (dA 0) 3264) := (hn33 132 (by omega)).trans hy32
  refine x_aload_n 0 0 d_O_init_134 rfl rfl ?_
  refine x_iconst (v := 3) d_O_init_135 (by decide) ?_
  refine x_newI (rc := 0) (rs := 0) (n := 133) (t0 := 1) (len := 3) hA32 hl33 (List.forall_mem_cons.mpr ⟨(sd_bel_r (by omega)), fun _ h => absurd h List.not_mem_nil⟩) (List.forall_mem_cons.mpr ⟨(sd_bel_r (by omega)), fun _ h => absurd h List.not_mem_nil⟩) d_O_init_136 rfl (by decide) (List.mem_cons_of_mem _ q634) rfl (by decide) (by decide) (by decide) rfl rfl (fun ad34 M34 hA34 hl34 hu34 hq34 e34 => ?_)
  have hw := hw M34 e34
  clear e34
  have hy34 : va_up L33 133 (sd_I (dA 1) 3) 133 = (sd_I (dA 1) 3) := va_up_self _ _ _
  generalize va_up L33 133 (sd_I (dA 1) 3) = L34 at hl34 hu34 hy34 ⊢
  have hlo : L34 116 = sd_O 10 [none, none, none, some (some 117), some (some 118), some (some 119), some (some 120), some (some 121), some (some 122), some (some 123), none, some (some 124), some (some 125), some (some 126), some (some 127), some (some 128), some (some 129), some (some 130), some (some 131), some (some 132), none, none, some none, none, none, none, none, none, none, none, none, none, none, none, none] := (hu34.2 116 (by omega)).trans hlo
  have hy2 : L34 117 = (sd_I (dA 0) 4) := (hu34.2 117 (by omega)).trans hy2
  have hy4 : L34 118 = (sd_I (dA 1) 16) := (hu34.2 118 (by omega)).trans hy4
  have hy6 : L34 119 = (sd_I (dA 0) 16) := (hu34.2 119 (by omega)).trans hy6
  have hy8 : L34 120 = (sd_I (dA 0) 16) := (hu34.2 120 (by omega)).trans hy8
  have hy10 : L34 121 = (sd_I (dA 0) 16) := (hu34.2 121 (by omega)).trans hy10
  have hy12 : L34 122 = (sd_I (dA 1) 16) := (hu34.2 122 (by omega)).trans hy12
  have hy14 : L34 123 = (sd_I (dA 0) 16) := (hu34.2 123 (by omega)).trans hy14
  have hy16 : L34 124 = (sd_I (dA 0) 4) := (hu34.2 124 (by omega)).trans hy16
  have hy18 : L34 125 = (sd_I (dA 0) 4) := (hu34.2 125 (by omega)).trans hy18
  have hy20 : L34 126 = (sd_I (dA 0) 4) := (hu34.2 126 (by omega)).trans hy20
  have hy22 : L34 127 = (sd_I (dA 0) 4) := (hu34.2 127 (by omega)).trans hy22
  have hy24 : L34 128 = (sd_I (dA 1) 4) := (hu34.2 128 (by omega)).trans hy24
  have hy26 : L34 129 = (sd_I (dA 0) 68) := (hu34.2 129 (by omega)).trans hy26
  have hy28 : L34 130 = (sd_I (dA 0) 816) := (hu34.2 130 (by omega)).trans hy28
  have hy30 : L34 131 = (sd_I (dA 0) 816) := (hu34.2 131 (by omega)).trans hy30
  have hy32 : L34 132 = (sd_I (dA 0) 3264) := (hu34.2 132 (by omega)).trans hy32
  refine x_putr 22 133 (ty := .array .boolean) hA34 (fun _ _ _ _ _ _ h => h.2.2.2.2 y_O_init _ _ _ _ rfl) d_O_init_138 (by omega) hlo (Nat.le_of_ble_eq_true rfl) rfl (by decide) lay_O (List.mem_cons_of_mem _ q519) rfl ty_O ty_O_ok nm_O rfl rfl (by decide +kernel) rfl rfl ?_
  obtain ⟨L35, hL35⟩ : ∃ z, z = va_up L34 116 (sd_O 10 [none, none, none, some (some 117), some (some 118), some (some 119), some (some 120), some (some 121), some (some 122), some (some 123), none, some (some 124), some (some 125), some (some 126), some (some 127), some (some 128), some (some 129), some (some 130), some (some 131), some (some 132), none, none, some (some 133), none, none, none, none, none, none, none, none, none, none, none, none]) := ⟨_, rfl⟩
  show sdW l (sdE0 sc) Y_O_init D (sd_tys dA) b _ _ (va_up L34 116 (sd_O 10 [none, none, none, some (some 117), some (some 118), some (some 119), some (some 120), some (some 121), some (some 122), some (some 123), none, some (some 124), some (some 125), some (some 126), some (some 127), some (some 128), some (some 129), some (some 130), some (some 131), some (some 132), none, none, some (some 133), none, none, none, none, none, none, none, none, none, none, none, none])) ad _ _ _ _ _ _ _ _ _
  rw [← hL35]
  have hn35 : ∀ k, k ≠ 116 → L35 k = L34 k := fun k h => by rw [hL35]; exact va_up_ne _ _ h
  have hl35 : sd_loc 134 L35 := by rw [hL35]; exact sd_loc_at hl34 (fun a a2 f e => by show (Sum.inr (10, sd_fv a f 0 [none, none, none, some (some 117), some (some 118), some (some 119), some (some 120), some (some 121), some (some 122), some (some 123), none, some (some 124), some (some 125), some (some 126), some (some 127), some (some 128), some (some 129), some (some 130), some (some 131), some (some 132), none, none, some (some 133), none, none, none, none, none, none, none, none, none, none, none, none]) : va_E) = Sum.inr (10, sd_fv a2 f 0 [none, none, none, some (some 117), some (some 118), some (some 119), some (some 120), some (some 121), some (some 122), some (some 123), none, some (some 124), some (some 125), some (some 126), some (some 127), some (some 128), some (some 129), some (some 130), some (some 131), some (some 132), none, none, some (some 133), none, none, none, none, none, none, none, none, none, none, none, none]); simp only [sd_fv, sd_fx]; rw [e 117 (by omega), e 118 (by omega), e 119 (by omega), e 120 (by omega), e 121 (by omega), e 122 (by omega), e 123 (by omega), e 124 (by omega), e 125 (by omega), e 126 (by omega), e 127 (by omega), e 128 (by omega), e 129 (by omega), e 130 (by omega), e 131 (by omega), e 132 (by omega), e 133 (by omega)])
  have hlo : L35 116 = sd_O 10 [none, none, none, some (some 117), some (some 118), some (some 119), some (some 120), some (some 121), some (some 122), some (some 123), none, some (some 124), some (some 125), some (some 126), some (some 127), some (some 128), some (some 129), some (some 130), some (some 131), some (some 132), none, none, some (some 133), none, none, none, none, none, none, none, none, none, none, none, none] := by rw [hL35]; exact va_up_self _ _ _
  clear hL35
  have hy2 : L35 117 = (sd_I (dA 0) 4) := (hn35 117 (by omega)).trans hy2
  have hy4 : L35 118 = (sd_I (dA 1) 16) := (hn35 118 (by omega)).trans hy4
  have hy6 : L35 119 = (sd_I (dA 0) 16) := (hn35 119 (by omega)).trans hy6
  have hy8 : L35 120 = (sd_I (dA 0) 16) := (hn35 120 (by omega)).trans hy8
  have hy10 : L35 121 = (sd_I (dA 0) 16) := (hn35 121 (by omega)).trans hy10
  have hy12 : L35 122 = (sd_I (dA 1) 16) := (hn35 122 (by omega)).trans hy12
  have hy14 : L35 123 = (sd_I (dA 0) 16) := (hn35 123 (by omega)).trans hy14
  have hy16 : L35 124 = (sd_I (dA 0) 4) := (hn35 124 (by omega)).trans hy16
  have hy18 : L35 125 = (sd_I (dA 0) 4) := (hn35 125 (by omega)).trans hy18
  have hy20 : L35 126 = (sd_I (dA 0) 4) := (hn35 126 (by omega)).trans hy20
  have hy22 : L35 127 = (sd_I (dA 0) 4) := (hn35 127 (by omega)).trans hy22
  have hy24 : L35 128 = (sd_I (dA 1) 4) := (hn35 128 (by omega)).trans hy24
  have hy26 : L35 129 = (sd_I (dA 0) 68) := (hn35 129 (by omega)).trans hy26
  have hy28 : L35 130 = (sd_I (dA 0) 816) := (hn35 130 (by omega)).trans hy28
  have hy30 : L35 131 = (sd_I (dA 0) 816) := (hn35 131 (by omega)).trans hy30
  have hy32 : L35 132 = (sd_I (dA 0) 3264) := (hn35 132 (by omega)).trans hy32
  have hy34 : L35 133 = (sd_I (dA 1) 3) := (hn35 133 (by omega)).trans hy34
  refine x_aload_n 0 0 d_O_init_141 rfl rfl ?_
  refine x_iconst (v := (-1)) d_O_init_142 (by decide) ?_
  refine x_puti 23 (ty := .int) hA34 d_O_init_143 (by omega) hlo rfl rfl (by decide) lay_O (List.mem_cons_of_mem _ q561) rfl ty_O ty_O_ok nm_O rfl (by decide +kernel) rfl rfl (fun M36 e36 => ?_)
  have hw := hw M36 e36
  clear e36
  refine x_iconst (v := 0) d_O_init_146 (by decide) ?_
  refine x_istore_n 1 [(1, .int 0), (0, .ref 116)] d_O_init_147 rfl (by decide) rfl ?_
  refine x_iload_n 1 0 d_O_init_148 rfl rfl ?_
  refine x_bipush (v := 17) d_O_init_149 (by decide) ?_
  refine x_icmp_ge 169 d_O_init_151 rfl (fun hc => absurd hc (by decide)) (fun _ => ?_)
  refine x_aload_n 0 1 d_O_init_154 rfl rfl ?_
  refine x_getr 16 129 d_O_init_155 (by omega) hlo rfl rfl (by decide) lay_O (List.mem_cons_of_mem _ q478) rfl ?_
  refine x_iconst (v := 4) d_O_init_158 (by decide) ?_
  refine x_iload_n 1 0 d_O_init_159 rfl rfl ?_
  refine x_imul d_O_init_160 ?_
  rw [show (4 : Int32) * 0 = 0 by decide]
  refine x_iconst (v := 1) d_O_init_161 (by decide) ?_
  refine x_iast hA34 d_O_init_162 (by omega) hy26 rfl (vp_in_nI (n := 0) (N := 68) (by decide) (by decide)) (fun M37 e37 => ?_)
  have hw := hw M37 e37
  clear e37
  refine x_iinc 1 0 [(1, .int 1), (0, .ref 116)] d_O_init_163 rfl (by decide) (by decide) rfl ?_
  refine x_goto 148 d_O_init_166 rfl ?_
  refine x_iload_n 1 0 d_O_init_148 rfl rfl ?_
  refine x_bipush (v := 17) d_O_init_149 (by decide) ?_
  refine x_icmp_ge 169 d_O_init_151 rfl (fun hc => absurd hc (by decide)) (fun _ => ?_)
  refine x_aload_n 0 1 d_O_init_154 rfl rfl ?_
  refine x_getr 16 129 d_O_init_155 (by omega) hlo rfl rfl (by decide) lay_O (List.mem_cons_of_mem _ q478) rfl ?_
  refine x_iconst (v := 4) d_O_init_158 (by decide) ?_
  refine x_iload_n 1 0 d_O_init_159 rfl rfl ?_
  refine x_imul d_O_init_160 ?_
  rw [show (4 : Int32) * 1 = 4 by decide]
  refine x_iconst (v := 1) d_O_init_161 (by decide) ?_
  refine x_iast hA34 d_O_init_162 (by omega) hy26 rfl (vp_in_nI (n := 4) (N := 68) (by decide) (by decide)) (fun M38 e38 => ?_)
  have hw := hw M38 e38
  clear e38
  refine x_iinc 1 0 [(1, .int 2), (0, .ref 116)] d_O_init_163 rfl (by decide) (by decide) rfl ?_
  refine x_goto 148 d_O_init_166 rfl ?_
  refine x_iload_n 1 0 d_O_init_148 rfl rfl ?_
  refine x_bipush (v := 17) d_O_init_149 (by decide) ?_
  refine x_icmp_ge 169 d_O_init_151 rfl (fun hc => absurd hc (by decide)) (fun _ => ?_)
  refine x_aload_n 0 1 d_O_init_154 rfl rfl ?_
  refine x_getr 16 129 d_O_init_155 (by omega) hlo rfl rfl (by decide) lay_O (List.mem_cons_of_mem _ q478) rfl ?_
  refine x_iconst (v := 4) d_O_init_158 (by decide) ?_
  refine x_iload_n 1 0 d_O_init_159 rfl rfl ?_
  refine x_imul d_O_init_160 ?_
  rw [show (4 : Int32) * 2 = 8 by decide]
  refine x_iconst (v := 1) d_O_init_161 (by decide) ?_
  refine x_iast hA34 d_O_init_162 (by omega) hy26 rfl (vp_in_nI (n := 8) (N := 68) (by decide) (by decide)) (fun M39 e39 => ?_)
  have hw := hw M39 e39
  clear e39
  refine x_iinc 1 0 [(1, .int 3), (0, .ref 116)] d_O_init_163 rfl (by decide) (by decide) rfl ?_
  refine x_goto 148 d_O_init_166 rfl ?_
  refine x_iload_n 1 0 d_O_init_148 rfl rfl ?_
  refine x_bipush (v := 17) d_O_init_149 (by decide) ?_
  refine x_icmp_ge 169 d_O_init_151 rfl (fun hc => absurd hc (by decide)) (fun _ => ?_)
  refine x_aload_n 0 1 d_O_init_154 rfl rfl ?_
  refine x_getr 16 129 d_O_init_155 (by omega) hlo rfl rfl (by decide) lay_O (List.mem_cons_of_mem _ q478) rfl ?_
  refine x_iconst (v := 4) d_O_init_158 (by decide) ?_
  refine x_iload_n 1 0 d_O_init_159 rfl rfl ?_
  refine x_imul d_O_init_160 ?_
  rw [show (4 : Int32) * 3 = 12 by decide]
  refine x_iconst (v := 1) d_O_init_161 (by decide) ?_
  refine x_iast hA34 d_O_init_162 (by omega) hy26 rfl (vp_in_nI (n := 12) (N := 68) (by decide) (by decide)) (fun M40 e40 => ?_)
  have hw := hw M40 e40
  clear e40
  refine x_iinc 1 0 [(1, .int 4), (0, .ref 116)] d_O_init_163 rfl (by decide) (by decide) rfl ?_
  refine x_goto 148 d_O_init_166 rfl ?_
  refine x_iload_n 1 0 d_O_init_148 rfl rfl ?_
  refine x_bipush (v := 17) d_O_init_149 (by decide) ?_
  refine x_icmp_ge 169 d_O_init_151 rfl (fun hc => absurd hc (by decide)) (fun _ => ?_)
  refine x_aload_n 0 1 d_O_init_154 rfl rfl ?_
  refine x_getr 16 129 d_O_init_155 (by omega) hlo rfl rfl (by decide) lay_O (List.mem_cons_of_mem _ q478) rfl ?_
  refine x_iconst (v := 4) d_O_init_158 (by decide) ?_
  refine x_iload_n 1 0 d_O_init_159 rfl rfl ?_
  refine x_imul d_O_init_160 ?_
  rw [show (4 : Int32) * 4 = 16 by decide]
  refine x_iconst (v := 1) d_O_init_161 (by decide) ?_
  refine x_iast hA34 d_O_init_162 (by omega) hy26 rfl (vp_in_nI (n := 16) (N := 68) (by decide) (by decide)) (fun M41 e41 => ?_)
  have hw := hw M41 e41
  clear e41
  refine x_iinc 1 0 [(1, .int 5), (0, .ref 116)] d_O_init_163 rfl (by decide) (by decide) rfl ?_
  refine x_goto 148 d_O_init_166 rfl ?_
  refine x_iload_n 1 0 d_O_init_148 rfl rfl ?_
  refine x_bipush (v := 17) d_O_init_149 (by decide) ?_
  refine x_icmp_ge 169 d_O_init_151 rfl (fun hc => absurd hc (by decide)) (fun _ => ?_)
  refine x_aload_n 0 1 d_O_init_154 rfl rfl ?_
  refine x_getr 16 129 d_O_init_155 (by omega) hlo rfl rfl (by decide) lay_O (List.mem_cons_of_mem _ q478) rfl ?_
  refine x_iconst (v := 4) d_O_init_158 (by decide) ?_
  refine x_iload_n 1 0 d_O_init_159 rfl rfl ?_
  refine x_imul d_O_init_160 ?_
  rw [show (4 : Int32) * 5 = 20 by decide]
  refine x_iconst (v := 1) d_O_init_161 (by decide) ?_
  refine x_iast hA34 d_O_init_162 (by omega) hy26 rfl (vp_in_nI (n := 20) (N := 68) (by decide) (by decide)) (fun M42 e42 => ?_)
  have hw := hw M42 e42
  clear e42
  refine x_iinc 1 0 [(1, .int 6), (0, .ref 116)] d_O_init_163 rfl (by decide) (by decide) rfl ?_
  refine x_goto 148 d_O_init_166 rfl ?_
  refine x_iload_n 1 0 d_O_init_148 rfl rfl ?_
  refine x_bipush (v := 17) d_O_init_149 (by decide) ?_
  refine x_icmp_ge 169 d_O_init_151 rfl (fun hc => absurd hc (by decide)) (fun _ => ?_)
  refine x_aload_n 0 1 d_O_init_154 rfl rfl ?_
  refine x_getr 16 129 d_O_init_155 (by omega) hlo rfl rfl (by decide) lay_O (List.mem_cons_of_mem _ q478) rfl ?_
  refine x_iconst (v := 4) d_O_init_158 (by decide) ?_
  refine x_iload_n 1 0 d_O_init_159 rfl rfl ?_
  refine x_imul d_O_init_160 ?_
  rw [show (4 : Int32) * 6 = 24 by decide]
  refine x_iconst (v := 1) d_O_init_161 (by decide) ?_
  refine x_iast hA34 d_O_init_162 (by omega) hy26 rfl (vp_in_nI (n := 24) (N := 68) (by decide) (by decide)) (fun M43 e43 => ?_)
  have hw := hw M43 e43
  clear e43
  refine x_iinc 1 0 [(1, .int 7), (0, .ref 116)] d_O_init_163 rfl (by decide) (by decide) rfl ?_
  refine x_goto 148 d_O_init_166 rfl ?_
  refine x_iload_n 1 0 d_O_init_148 rfl rfl ?_
  refine x_bipush (v := 17) d_O_init_149 (by decide) ?_
  refine x_icmp_ge 169 d_O_init_151 rfl (fun hc => absurd hc (by decide)) (fun _ => ?_)
  refine x_aload_n 0 1 d_O_init_154 rfl rfl ?_
  refine x_getr 16 129 d_O_init_155 (by omega) hlo rfl rfl (by decide) lay_O (List.mem_cons_of_mem _ q478) rfl ?_
  refine x_iconst (v := 4) d_O_init_158 (by decide) ?_
  refine x_iload_n 1 0 d_O_init_159 rfl rfl ?_
  refine x_imul d_O_init_160 ?_
  rw [show (4 : Int32) * 7 = 28 by decide]
  refine x_iconst (v := 1) d_O_init_161 (by decide) ?_
  refine x_iast hA34 d_O_init_162 (by omega) hy26 rfl (vp_in_nI (n := 28) (N := 68) (by decide) (by decide)) (fun M44 e44 => ?_)
  have hw := hw M44 e44
  clear e44
  refine x_iinc 1 0 [(1, .int 8), (0, .ref 116)] d_O_init_163 rfl (by decide) (by decide) rfl ?_
  refine x_goto 148 d_O_init_166 rfl ?_
  refine x_iload_n 1 0 d_O_init_148 rfl rfl ?_
  refine x_bipush (v := 17) d_O_init_149 (by decide) ?_
  refine x_icmp_ge 169 d_O_init_151 rfl (fun hc => absurd hc (by decide)) (fun _ => ?_)
  refine x_aload_n 0 1 d_O_init_154 rfl rfl ?_
  refine x_getr 16 129 d_O_init_155 (by omega) hlo rfl rfl (by decide) lay_O (List.mem_cons_of_mem _ q478) rfl ?_
  refine x_iconst (v := 4) d_O_init_158 (by decide) ?_
  refine x_iload_n 1 0 d_O_init_159 rfl rfl ?_
  refine x_imul d_O_init_160 ?_
  rw [show (4 : Int32) * 8 = 32 by decide]
  refine x_iconst (v := 1) d_O_init_161 (by decide) ?_
  refine x_iast hA34 d_O_init_162 (by omega) hy26 rfl (vp_in_nI (n := 32) (N := 68) (by decide) (by decide)) (fun M45 e45 => ?_)
  have hw := hw M45 e45
  clear e45
  refine x_iinc 1 0 [(1, .int 9), (0, .ref 116)] d_O_init_163 rfl (by decide) (by decide) rfl ?_
  refine x_goto 148 d_O_init_166 rfl ?_
  refine x_iload_n 1 0 d_O_init_148 rfl rfl ?_
  refine x_bipush (v := 17) d_O_init_149 (by decide) ?_
  refine x_icmp_ge 169 d_O_init_151 rfl (fun hc => absurd hc (by decide)) (fun _ => ?_)
  refine x_aload_n 0 1 d_O_init_154 rfl rfl ?_
  refine x_getr 16 129 d_O_init_155 (by omega) hlo rfl rfl (by decide) lay_O (List.mem_cons_of_mem _ q478) rfl ?_
  refine x_iconst (v := 4) d_O_init_158 (by decide) ?_
  refine x_iload_n 1 0 d_O_init_159 rfl rfl ?_
  refine x_imul d_O_init_160 ?_
  rw [show (4 : Int32) * 9 = 36 by decide]
  refine x_iconst (v := 1) d_O_init_161 (by decide) ?_
  refine x_iast hA34 d_O_init_162 (by omega) hy26 rfl (vp_in_nI (n := 36) (N := 68) (by decide) (by decide)) (fun M46 e46 => ?_)
  have hw := hw M46 e46
  clear e46
  refine x_iinc 1 0 [(1, .int 10), (0, .ref 116)] d_O_init_163 rfl (by decide) (by decide) rfl ?_
  refine x_goto 148 d_O_init_166 rfl ?_
  refine x_iload_n 1 0 d_O_init_148 rfl rfl ?_
  refine x_bipush (v := 17) d_O_init_149 (by decide) ?_
  refine x_icmp_ge 169 d_O_init_151 rfl (fun hc => absurd hc (by decide)) (fun _ => ?_)
  refine x_aload_n 0 1 d_O_init_154 rfl rfl ?_
  refine x_getr 16 129 d_O_init_155 (by omega) hlo rfl rfl (by decide) lay_O (List.mem_cons_of_mem _ q478) rfl ?_
  refine x_iconst (v := 4) d_O_init_158 (by decide) ?_
  refine x_iload_n 1 0 d_O_init_159 rfl rfl ?_
  refine x_imul d_O_init_160 ?_
  rw [show (4 : Int32) * 10 = 40 by decide]
  refine x_iconst (v := 1) d_O_init_161 (by decide) ?_
  refine x_iast hA34 d_O_init_162 (by omega) hy26 rfl (vp_in_nI (n := 40) (N := 68) (by decide) (by decide)) (fun M47 e47 => ?_)
  have hw := hw M47 e47
  clear e47
  refine x_iinc 1 0 [(1, .int 11), (0, .ref 116)] d_O_init_163 rfl (by decide) (by decide) rfl ?_
  refine x_goto 148 d_O_init_166 rfl ?_
  refine x_iload_n 1 0 d_O_init_148 rfl rfl ?_
  refine x_bipush (v := 17) d_O_init_149 (by decide) ?_
  refine x_icmp_ge 169 d_O_init_151 rfl (fun hc => absurd hc (by decide)) (fun _ => ?_)
  refine x_aload_n 0 1 d_O_init_154 rfl rfl ?_
  refine x_getr 16 129 d_O_init_155 (by omega) hlo rfl rfl (by decide) lay_O (List.mem_cons_of_mem _ q478) rfl ?_
  refine x_iconst (v := 4) d_O_init_158 (by decide) ?_
  refine x_iload_n 1 0 d_O_init_159 rfl rfl ?_
  refine x_imul d_O_init_160 ?_
  rw [show (4 : Int32) * 11 = 44 by decide]
  refine x_iconst (v := 1) d_O_init_161 (by decide) ?_
  refine x_iast hA34 d_O_init_162 (by omega) hy26 rfl (vp_in_nI (n := 44) (N := 68) (by decide) (by decide)) (fun M48 e48 => ?_)
  have hw := hw M48 e48
  clear e48
  refine x_iinc 1 0 [(1, .int 12), (0, .ref 116)] d_O_init_163 rfl (by decide) (by decide) rfl ?_
  refine x_goto 148 d_O_init_166 rfl ?_
  refine x_iload_n 1 0 d_O_init_148 rfl rfl ?_
  refine x_bipush (v := 17) d_O_init_149 (by decide) ?_
  refine x_icmp_ge 169 d_O_init_151 rfl (fun hc => absurd hc (by decide)) (fun _ => ?_)
  refine x_aload_n 0 1 d_O_init_154 rfl rfl ?_
  refine x_getr 16 129 d_O_init_155 (by omega) hlo rfl rfl (by decide) lay_O (List.mem_cons_of_mem _ q478) rfl ?_
  refine x_iconst (v := 4) d_O_init_158 (by decide) ?_
  refine x_iload_n 1 0 d_O_init_159 rfl rfl ?_
  refine x_imul d_O_init_160 ?_
  rw [show (4 : Int32) * 12 = 48 by decide]
  refine x_iconst (v := 1) d_O_init_161 (by decide) ?_
  refine x_iast hA34 d_O_init_162 (by omega) hy26 rfl (vp_in_nI (n := 48) (N := 68) (by decide) (by decide)) (fun M49 e49 => ?_)
  have hw := hw M49 e49
  clear e49
  refine x_iinc 1 0 [(1, .int 13), (0, .ref 116)] d_O_init_163 rfl (by decide) (by decide) rfl ?_
  refine x_goto 148 d_O_init_166 rfl ?_
  refine x_iload_n 1 0 d_O_init_148 rfl rfl ?_
  refine x_bipush (v := 17) d_O_init_149 (by decide) ?_
  refine x_icmp_ge 169 d_O_init_151 rfl (fun hc => absurd hc (by decide)) (fun _ => ?_)
  refine x_aload_n 0 1 d_O_init_154 rfl rfl ?_
  refine x_getr 16 129 d_O_init_155 (by omega) hlo rfl rfl (by decide) lay_O (List.mem_cons_of_mem _ q478) rfl ?_
  refine x_iconst (v := 4) d_O_init_158 (by decide) ?_
  refine x_iload_n 1 0 d_O_init_159 rfl rfl ?_
  refine x_imul d_O_init_160 ?_
  rw [show (4 : Int32) * 13 = 52 by decide]
  refine x_iconst (v := 1) d_O_init_161 (by decide) ?_
  refine x_iast hA34 d_O_init_162 (by omega) hy26 rfl (vp_in_nI (n := 52) (N := 68) (by decide) (by decide)) (fun M50 e50 => ?_)
  have hw := hw M50 e50
  clear e50
  refine x_iinc 1 0 [(1, .int 14), (0, .ref 116)] d_O_init_163 rfl (by decide) (by decide) rfl ?_
  refine x_goto 148 d_O_init_166 rfl ?_
  refine x_iload_n 1 0 d_O_init_148 rfl rfl ?_
  refine x_bipush (v := 17) d_O_init_149 (by decide) ?_
  refine x_icmp_ge 169 d_O_init_151 rfl (fun hc => absurd hc (by decide)) (fun _ => ?_)
  refine x_aload_n 0 1 d_O_init_154 rfl rfl ?_
  refine x_getr 16 129 d_O_init_155 (by omega) hlo rfl rfl (by decide) lay_O (List.mem_cons_of_mem _ q478) rfl ?_
  refine x_iconst (v := 4) d_O_init_158 (by decide) ?_
  refine x_iload_n 1 0 d_O_init_159 rfl rfl ?_
  refine x_imul d_O_init_160 ?_
  rw [show (4 : Int32) * 14 = 56 by decide]
  refine x_iconst (v := 1) d_O_init_161 (by decide) ?_
  refine x_iast hA34 d_O_init_162 (by omega) hy26 rfl (vp_in_nI (n := 56) (N := 68) (by decide) (by decide)) (fun M51 e51 => ?_)
  have hw := hw M51 e51
  clear e51
  refine x_iinc 1 0 [(1, .int 15), (0, .ref 116)] d_O_init_163 rfl (by decide) (by decide) rfl ?_
  refine x_goto 148 d_O_init_166 rfl ?_
  refine x_iload_n 1 0 d_O_init_148 rfl rfl ?_
  refine x_bipush (v := 17) d_O_init_149 (by decide) ?_
  refine x_icmp_ge 169 d_O_init_151 rfl (fun hc => absurd hc (by decide)) (fun _ => ?_)
  refine x_aload_n 0 1 d_O_init_154 rfl rfl ?_
  refine x_getr 16 129 d_O_init_155 (by omega) hlo rfl rfl (by decide) lay_O (List.mem_cons_of_mem _ q478) rfl ?_
  refine x_iconst (v := 4) d_O_init_158 (by decide) ?_
  refine x_iload_n 1 0 d_O_init_159 rfl rfl ?_
  refine x_imul d_O_init_160 ?_
  rw [show (4 : Int32) * 15 = 60 by decide]
  refine x_iconst (v := 1) d_O_init_161 (by decide) ?_
  refine x_iast hA34 d_O_init_162 (by omega) hy26 rfl (vp_in_nI (n := 60) (N := 68) (by decide) (by decide)) (fun M52 e52 => ?_)
  have hw := hw M52 e52
  clear e52
  refine x_iinc 1 0 [(1, .int 16), (0, .ref 116)] d_O_init_163 rfl (by decide) (by decide) rfl ?_
  refine x_goto 148 d_O_init_166 rfl ?_
  refine x_iload_n 1 0 d_O_init_148 rfl rfl ?_
  refine x_bipush (v := 17) d_O_init_149 (by decide) ?_
  refine x_icmp_ge 169 d_O_init_151 rfl (fun hc => absurd hc (by decide)) (fun _ => ?_)
  refine x_aload_n 0 1 d_O_init_154 rfl rfl ?_
  refine x_getr 16 129 d_O_init_155 (by omega) hlo rfl rfl (by decide) lay_O (List.mem_cons_of_mem _ q478) rfl ?_
  refine x_iconst (v := 4) d_O_init_158 (by decide) ?_
  refine x_iload_n 1 0 d_O_init_159 rfl rfl ?_
  refine x_imul d_O_init_160 ?_
  rw [show (4 : Int32) * 16 = 64 by decide]
  refine x_iconst (v := 1) d_O_init_161 (by decide) ?_
  refine x_iast hA34 d_O_init_162 (by omega) hy26 rfl (vp_in_nI (n := 64) (N := 68) (by decide) (by decide)) (fun M53 e53 => ?_)
  have hw := hw M53 e53
  clear e53
  refine x_iinc 1 0 [(1, .int 17), (0, .ref 116)] d_O_init_163 rfl (by decide) (by decide) rfl ?_
  refine x_goto 148 d_O_init_166 rfl ?_
  refine x_iload_n 1 0 d_O_init_148 rfl rfl ?_
  refine x_bipush (v := 17) d_O_init_149 (by decide) ?_
  refine x_icmp_ge 169 d_O_init_151 rfl (fun _ => ?_) (fun hc => absurd (by decide) hc)
  exact x_vret d_O_init_169 rfl (fun H h => ⟨ad34, L35, (fun k hk => ((hq34 k (by omega)).trans ((hq32 k (by omega)).trans ((hq30 k (by omega)).trans ((hq28 k (by omega)).trans ((hq26 k (by omega)).trans ((hq24 k (by omega)).trans ((hq22 k (by omega)).trans ((hq20 k (by omega)).trans ((hq18 k (by omega)).trans ((hq16 k (by omega)).trans ((hq14 k (by omega)).trans ((hq12 k (by omega)).trans ((hq10 k (by omega)).trans ((hq8 k (by omega)).trans ((hq6 k (by omega)).trans ((hq4 k (by omega)).trans (hq2 k (by omega))))))))))))))))))), hA34, hl35, (fun k hk => ((hn35 k (by omega)).trans ((hu34.2 k (by omega)).trans ((hn33 k (by omega)).trans ((hu32.2 k (by omega)).trans ((hn31 k (by omega)).trans ((hu30.2 k (by omega)).trans ((hn29 k (by omega)).trans ((hu28.2 k (by omega)).trans ((hn27 k (by omega)).trans ((hu26.2 k (by omega)).trans ((hn25 k (by omega)).trans ((hu24.2 k (by omega)).trans ((hn23 k (by omega)).trans ((hu22.2 k (by omega)).trans ((hn21 k (by omega)).trans ((hu20.2 k (by omega)).trans ((hn19 k (by omega)).trans ((hu18.2 k (by omega)).trans ((hn17 k (by omega)).trans ((hu16.2 k (by omega)).trans ((hn15 k (by omega)).trans ((hu14.2 k (by omega)).trans ((hn13 k (by omega)).trans ((hu12.2 k (by omega)).trans ((hn11 k (by omega)).trans ((hu10.2 k (by omega)).trans ((hn9 k (by omega)).trans ((hu8.2 k (by omega)).trans ((hn7 k (by omega)).trans ((hu6.2 k (by omega)).trans ((hn5 k (by omega)).trans ((hu4.2 k (by omega)).trans ((hn3 k (by omega)).trans (hu2.2 k (by omega)))))))))))))))))))))))))))))))))))), ⟨by omega, hlo, ⟨by omega, hy2⟩, ⟨by omega, hy4⟩, ⟨by omega, hy6⟩, ⟨by omega, hy8⟩, ⟨by omega, hy10⟩, ⟨by omega, hy12⟩, ⟨by omega, hy14⟩, ⟨by omega, hy16⟩, ⟨by omega, hy18⟩, ⟨by omega, hy20⟩, ⟨by omega, hy22⟩, ⟨by omega, hy24⟩, ⟨by omega, hy26⟩, ⟨by omega, hy28⟩, ⟨by omega, hy30⟩, ⟨by omega, hy32⟩, ⟨by omega, hy34⟩⟩, h⟩) ⟨rfl, hw⟩
end
end
