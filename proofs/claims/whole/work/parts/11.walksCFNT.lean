theorem q63 : (.methodLink "SettingsDesk$Leaf" 3 ⟨"java/lang/Object", "<init>", "()V"⟩ : Cond) ∈ sdB0 := sd_tb1 44 rfl rfl
theorem q64 : (.instanceMethod ⟨"java/lang/Object", "<init>", "()V"⟩ : Cond) ∈ sdB0 := sd_tb1 28 rfl rfl
theorem q65 : (.code ⟨"java/lang/Object", "<init>", "()V"⟩ object_method_1_code 1 none : Cond) ∈ sdB0 := sd_tb1 29 rfl rfl
abbrev y_F_init : MethodName := ⟨"SettingsDesk$Leaf", "<init>", "()V"⟩
theorem d_F_init_0 : decode prog_4_method_1_code 0 = .ok (.aload_n 0, 1) := by decide +kernel
theorem d_F_init_1 : decode prog_4_method_1_code 1 = .ok (.invokespecial 3, 3) := by decide +kernel
theorem d_F_init_4 : decode prog_4_method_1_code 4 = .ok (.return_, 1) := by decide +kernel
def Y_F_init : sdY := ("SettingsDesk$Leaf", prog_4_method_1_code, 1, none, .code y_F_init prog_4_method_1_code 1 none :: sdB0, { frames := 1, cells := 0, slots := 0, locals := 12 }, 0, 0, [])
section
variable {l : Launch} {D : va_G} {dA : Nat → ClassId} {b n : Nat} {ad : Nat → Nat} {L : Nat → sdL} {sc : Option (Nat × Nat × (Nat → Int32))}
def w_F_init (o : Nat) (M : sdM) (Q : sdM → Prop) : Prop := Q M
set_option maxHeartbeats 1000000 in
theorem c_F_init {o : Nat} (hA : sd_ad b n ad) (hT : l.stackTraces = false) (ho : isF n L o) {Q : sdM → Prop} {M : sdM} (hw : w_F_init o M Q) : sd_Cn l (sdE0 sc) y_F_init Y_F_init.2.2.2.2.1 Y_F_init.2.2.2.2.2.1 0 0 D (sd_tys dA) b n ad L M [.ref o] (sd_qv Q) sd_xf := by
  refine sd_enter (Y := Y_F_init) rfl rfl rfl rfl (Nat.le_of_ble_eq_true rfl) ?_
  show sdW l (sdE0 sc) Y_F_init D (sd_tys dA) b n ad L ad (sd_H D (sdE0 sc).1 n ad L) (sd_qv Q) sd_xf 0 [(0, .ref o)] [] M 0 0
  unfold w_F_init at hw
  refine x_aload_n 0 0 d_F_init_0 rfl rfl ?_
  refine x_objInit d_F_init_1 (List.mem_cons_of_mem _ q63) (List.mem_cons_of_mem _ q64) (List.mem_cons_of_mem _ q65) (by decide) (Nat.le_of_ble_eq_true rfl) ?_
  exact x_vret d_F_init_4 rfl (fun _ h => h) ⟨rfl, hw⟩
end
theorem q66 : (.methodLink "SettingsDesk$Rule" 1 ⟨"java/lang/Object", "<init>", "()V"⟩ : Cond) ∈ sdB0 := sd_tb1 82 rfl rfl
abbrev y_R_init : MethodName := ⟨"SettingsDesk$Rule", "<init>", "()V"⟩
theorem d_R_init_0 : decode prog_6_method_1_code 0 = .ok (.aload_n 0, 1) := by decide +kernel
theorem d_R_init_1 : decode prog_6_method_1_code 1 = .ok (.invokespecial 1, 3) := by decide +kernel
theorem d_R_init_4 : decode prog_6_method_1_code 4 = .ok (.return_, 1) := by decide +kernel
def Y_R_init : sdY := ("SettingsDesk$Rule", prog_6_method_1_code, 1, none, .code y_R_init prog_6_method_1_code 1 none :: sdB0, { frames := 1, cells := 0, slots := 0, locals := 12 }, 0, 0, [])
section
variable {l : Launch} {D : va_G} {dA : Nat → ClassId} {b n : Nat} {ad : Nat → Nat} {L : Nat → sdL} {sc : Option (Nat × Nat × (Nat → Int32))}
def w_R_init (o : Nat) (M : sdM) (Q : sdM → Prop) : Prop := Q M
set_option maxHeartbeats 1000000 in
theorem c_R_init {o : Nat} (hA : sd_ad b n ad) (hT : l.stackTraces = false) (ho : isR n L o) {Q : sdM → Prop} {M : sdM} (hw : w_R_init o M Q) : sd_Cn l (sdE0 sc) y_R_init Y_R_init.2.2.2.2.1 Y_R_init.2.2.2.2.2.1 0 0 D (sd_tys dA) b n ad L M [.ref o] (sd_qv Q) sd_xf := by
  refine sd_enter (Y := Y_R_init) rfl rfl rfl rfl (Nat.le_of_ble_eq_true rfl) ?_
  show sdW l (sdE0 sc) Y_R_init D (sd_tys dA) b n ad L ad (sd_H D (sdE0 sc).1 n ad L) (sd_qv Q) sd_xf 0 [(0, .ref o)] [] M 0 0
  unfold w_R_init at hw
  refine x_aload_n 0 0 d_R_init_0 rfl rfl ?_
  refine x_objInit d_R_init_1 (List.mem_cons_of_mem _ q66) (List.mem_cons_of_mem _ q64) (List.mem_cons_of_mem _ q65) (by decide) (Nat.le_of_ble_eq_true rfl) ?_
  exact x_vret d_R_init_4 rfl (fun _ h => h) ⟨rfl, hw⟩
end
theorem q67 : (.methodLink "SettingsDesk$Trouble" 1 ⟨"java/lang/Object", "<init>", "()V"⟩ : Cond) ∈ sdB0 := sd_tb1 161 rfl rfl
theorem q68 : (.fieldLink "SettingsDesk$Trouble" 7 "SettingsDesk$Trouble" "fault" "I" : Cond) ∈ sdB0 := sd_tb1 162 rfl rfl
theorem q69 : (.fieldLink "SettingsDesk$Trouble" 13 "SettingsDesk$Trouble" "atList" "I" : Cond) ∈ sdB0 := sd_tb1 164 rfl rfl
theorem q70 : (.fieldLink "SettingsDesk$Trouble" 16 "SettingsDesk$Trouble" "atKey" "I" : Cond) ∈ sdB0 := sd_tb1 166 rfl rfl
theorem q71 : (.fieldLink "SettingsDesk$Trouble" 19 "SettingsDesk$Trouble" "atPart" "I" : Cond) ∈ sdB0 := sd_tb1 168 rfl rfl
abbrev y_T_init : MethodName := ⟨"SettingsDesk$Trouble", "<init>", "()V"⟩
theorem d_T_init_0 : decode prog_10_method_1_code 0 = .ok (.aload_n 0, 1) := by decide +kernel
theorem d_T_init_1 : decode prog_10_method_1_code 1 = .ok (.invokespecial 1, 3) := by decide +kernel
theorem d_T_init_4 : decode prog_10_method_1_code 4 = .ok (.aload_n 0, 1) := by decide +kernel
theorem d_T_init_5 : decode prog_10_method_1_code 5 = .ok (.iconst 0, 1) := by decide +kernel
theorem d_T_init_6 : decode prog_10_method_1_code 6 = .ok (.putfield 7, 3) := by decide +kernel
theorem d_T_init_9 : decode prog_10_method_1_code 9 = .ok (.aload_n 0, 1) := by decide +kernel
theorem d_T_init_10 : decode prog_10_method_1_code 10 = .ok (.iconst 0, 1) := by decide +kernel
theorem d_T_init_11 : decode prog_10_method_1_code 11 = .ok (.putfield 13, 3) := by decide +kernel
theorem d_T_init_14 : decode prog_10_method_1_code 14 = .ok (.aload_n 0, 1) := by decide +kernel
theorem d_T_init_15 : decode prog_10_method_1_code 15 = .ok (.iconst 0, 1) := by decide +kernel
theorem d_T_init_16 : decode prog_10_method_1_code 16 = .ok (.putfield 16, 3) := by decide +kernel
theorem d_T_init_19 : decode prog_10_method_1_code 19 = .ok (.aload_n 0, 1) := by decide +kernel
theorem d_T_init_20 : decode prog_10_method_1_code 20 = .ok (.iconst 0, 1) := by decide +kernel
theorem d_T_init_21 : decode prog_10_method_1_code 21 = .ok (.putfield 19, 3) := by decide +kernel
theorem d_T_init_24 : decode prog_10_method_1_code 24 = .ok (.return_, 1) := by decide +kernel
def Y_T_init : sdY := ("SettingsDesk$Trouble", prog_10_method_1_code, 1, none, .code y_T_init prog_10_method_1_code 1 none :: sdB0, { frames := 1, cells := 0, slots := 0, locals := 12 }, 0, 0, [])
section
variable {l : Launch} {D : va_G} {dA : Nat → ClassId} {b n : Nat} {ad : Nat → Nat} {L : Nat → sdL} {sc : Option (Nat × Nat × (Nat → Int32))}
def w_T_init (o : Nat) (M : sdM) (Q : sdM → Prop) : Prop := ∀ M9 : sdM, M9 = sd_s M o 0 (0 : Int32) → ∀ M11 : sdM, M11 = sd_s M9 o 1 (0 : Int32) → ∀ M13 : sdM, M13 = sd_s M11 o 2 (0 : Int32) → ∀ M15 : sdM, M15 = sd_s M13 o 3 (0 : Int32) → Q M15
set_option maxHeartbeats 1000000 in
theorem c_T_init {o : Nat} (hA : sd_ad b n ad) (hT : l.stackTraces = false) (ho : isT n L o) {Q : sdM → Prop} {M : sdM} (hw : w_T_init o M Q) : sd_Cn l (sdE0 sc) y_T_init Y_T_init.2.2.2.2.1 Y_T_init.2.2.2.2.2.1 0 0 D (sd_tys dA) b n ad L M [.ref o] (sd_qv Q) sd_xf := by
  refine sd_enter (Y := Y_T_init) rfl rfl rfl rfl (Nat.le_of_ble_eq_true rfl) ?_
  show sdW l (sdE0 sc) Y_T_init D (sd_tys dA) b n ad L ad (sd_H D (sdE0 sc).1 n ad L) (sd_qv Q) sd_xf 0 [(0, .ref o)] [] M 0 0
  unfold w_T_init at hw
  refine x_aload_n 0 0 d_T_init_0 rfl rfl ?_
  refine x_objInit d_T_init_1 (List.mem_cons_of_mem _ q67) (List.mem_cons_of_mem _ q64) (List.mem_cons_of_mem _ q65) (by decide) (Nat.le_of_ble_eq_true rfl) ?_
  refine x_aload_n 0 0 d_T_init_4 rfl rfl ?_
  refine x_iconst (v := 0) d_T_init_5 (by decide) ?_
  refine x_puti 0 (ty := .int) hA d_T_init_6 ho.1 ho.2 rfl rfl (by decide) lay_T (List.mem_cons_of_mem _ q68) rfl ty_T ty_T_ok nm_T rfl (by decide +kernel) rfl rfl (fun M9 e10 => ?_)
  have hw := hw M9 e10
  clear e10
  refine x_aload_n 0 0 d_T_init_9 rfl rfl ?_
  refine x_iconst (v := 0) d_T_init_10 (by decide) ?_
  refine x_puti 1 (ty := .int) hA d_T_init_11 ho.1 ho.2 rfl rfl (by decide) lay_T (List.mem_cons_of_mem _ q69) rfl ty_T ty_T_ok nm_T rfl (by decide +kernel) rfl rfl (fun M11 e12 => ?_)
  have hw := hw M11 e12
  clear e12
  refine x_aload_n 0 0 d_T_init_14 rfl rfl ?_
  refine x_iconst (v := 0) d_T_init_15 (by decide) ?_
  refine x_puti 2 (ty := .int) hA d_T_init_16 ho.1 ho.2 rfl rfl (by decide) lay_T (List.mem_cons_of_mem _ q70) rfl ty_T ty_T_ok nm_T rfl (by decide +kernel) rfl rfl (fun M13 e14 => ?_)
  have hw := hw M13 e14
  clear e14
  refine x_aload_n 0 0 d_T_init_19 rfl rfl ?_
  refine x_iconst (v := 0) d_T_init_20 (by decide) ?_
  refine x_puti 3 (ty := .int) hA d_T_init_21 ho.1 ho.2 rfl rfl (by decide) lay_T (List.mem_cons_of_mem _ q71) rfl ty_T ty_T_ok nm_T rfl (by decide +kernel) rfl rfl (fun M15 e16 => ?_)
  have hw := hw M15 e16
  clear e16
  exact x_vret d_T_init_24 rfl (fun _ h => h) ⟨rfl, hw⟩
end
theorem q72 : (.fieldLink "SettingsDesk$Schema" 15 "SettingsDesk$Schema" "lists" "I" : Cond) ∈ sdB0 := sd_tb1 106 rfl rfl
abbrev y_C_hasList : MethodName := ⟨"SettingsDesk$Schema", "hasList", "(I)Z"⟩
theorem d_C_hasList_0 : decode prog_7_method_2_code 0 = .ok (.iload_n 1, 1) := by decide +kernel
theorem d_C_hasList_1 : decode prog_7_method_2_code 1 = .ok (.ifCond .lt (15), 3) := by decide +kernel
theorem d_C_hasList_4 : decode prog_7_method_2_code 4 = .ok (.iload_n 1, 1) := by decide +kernel
theorem d_C_hasList_5 : decode prog_7_method_2_code 5 = .ok (.aload_n 0, 1) := by decide +kernel
theorem d_C_hasList_6 : decode prog_7_method_2_code 6 = .ok (.getfield 15, 3) := by decide +kernel
theorem d_C_hasList_9 : decode prog_7_method_2_code 9 = .ok (.if_icmp .ge (7), 3) := by decide +kernel
theorem d_C_hasList_12 : decode prog_7_method_2_code 12 = .ok (.iconst 1, 1) := by decide +kernel
theorem d_C_hasList_13 : decode prog_7_method_2_code 13 = .ok (.goto (4), 3) := by decide +kernel
theorem d_C_hasList_16 : decode prog_7_method_2_code 16 = .ok (.iconst 0, 1) := by decide +kernel
theorem d_C_hasList_17 : decode prog_7_method_2_code 17 = .ok (.ireturn, 1) := by decide +kernel
def Y_C_hasList : sdY := ("SettingsDesk$Schema", prog_7_method_2_code, 2, (some .boolean), .code y_C_hasList prog_7_method_2_code 2 (some .boolean) :: sdB0, { frames := 0, cells := 0, slots := 0, locals := 0 }, 0, 0, [])
section
variable {l : Launch} {D : va_G} {dA : Nat → ClassId} {b n : Nat} {ad : Nat → Nat} {L : Nat → sdL} {sc : Option (Nat × Nat × (Nat → Int32))}
def k_C_hasList_17 (Q : Int32 → sdM → Prop) (M : sdM) (s0 : Int32) : Prop := sdB s0 ∧ Q s0 M
set_option maxHeartbeats 1000000 in
theorem t_C_hasList_17 (hA : sd_ad b n ad) (hT : l.stackTraces = false) (hC : isC n L dA) {Q : Int32 → sdM → Prop} (M : sdM) (s0 : Int32) (hw : k_C_hasList_17 Q M s0) : sdW l (sdE0 sc) Y_C_hasList D (sd_tys dA) b n ad L ad (sd_H D (sdE0 sc).1 n ad L) (sd_qi Q) sd_xf 17 [] [.int s0] M 0 0 := by
  unfold k_C_hasList_17 at hw
  exact x_zret d_C_hasList_17 rfl (sdB_n hw.1) (fun _ h => h) ⟨_, rfl, hw.2⟩
def k_C_hasList_16 (Q : Int32 → sdM → Prop) (M : sdM) : Prop := k_C_hasList_17 Q M (0 : Int32)
set_option maxHeartbeats 1000000 in
theorem t_C_hasList_16 (hA : sd_ad b n ad) (hT : l.stackTraces = false) (hC : isC n L dA) {Q : Int32 → sdM → Prop} (M : sdM) (hw : k_C_hasList_16 Q M ) : sdW l (sdE0 sc) Y_C_hasList D (sd_tys dA) b n ad L ad (sd_H D (sdE0 sc).1 n ad L) (sd_qi Q) sd_xf 16 [] [] M 0 0 := by
  unfold k_C_hasList_16 at hw
  refine x_iconst (v := 0) d_C_hasList_16 (by decide) ?_
  exact t_C_hasList_17 hA hT hC M (0 : Int32) hw
def w_C_hasList (M : sdM) (a1 : Int32) (Q : Int32 → sdM → Prop) : Prop := (a1 < 0 → k_C_hasList_16 Q M) ∧ (¬ a1 < 0 → ((M 1 1) ≤ a1 → k_C_hasList_16 Q M) ∧ (¬ (M 1 1) ≤ a1 → k_C_hasList_17 Q M (1 : Int32)))
set_option maxHeartbeats 1000000 in
theorem c_C_hasList {a1 : Int32} (hA : sd_ad b n ad) (hT : l.stackTraces = false) (hC : isC n L dA) {Q : Int32 → sdM → Prop} {M : sdM} (hw : w_C_hasList M a1 Q) : sd_Cn l (sdE0 sc) y_C_hasList Y_C_hasList.2.2.2.2.1 Y_C_hasList.2.2.2.2.2.1 0 0 D (sd_tys dA) b n ad L M [.ref 1, .int a1] (sd_qi Q) sd_xf := by
  refine sd_enter (Y := Y_C_hasList) rfl rfl rfl rfl (Nat.le_of_ble_eq_true rfl) ?_
  show sdW l (sdE0 sc) Y_C_hasList D (sd_tys dA) b n ad L ad (sd_H D (sdE0 sc).1 n ad L) (sd_qi Q) sd_xf 0 [(0, .ref 1), (1, .int a1)] [] M 0 0
  unfold w_C_hasList at hw
  refine x_iload_n 1 1 d_C_hasList_0 rfl rfl ?_
  refine x_if_lt 16 d_C_hasList_1 rfl (fun hc => ?_) (fun hc => ?_)
  · have hw := hw.1 hc
    refine x_sub [] [] rfl ?_
    exact t_C_hasList_16 hA hT hC M hw
  · have hw := hw.2 hc
    refine x_iload_n 1 1 d_C_hasList_4 rfl rfl ?_
    refine x_aload_n 0 0 d_C_hasList_5 rfl rfl ?_
    refine x_geti 1 d_C_hasList_6 hC.1 hC.2.1 rfl rfl (by decide) lay_C (List.mem_cons_of_mem _ q72) rfl ?_
    refine x_icmp_ge 16 d_C_hasList_9 rfl (fun hc => ?_) (fun hc => ?_)
    · have hw := hw.1 hc
      refine x_sub [] [] rfl ?_
      exact t_C_hasList_16 hA hT hC M hw
    · have hw := hw.2 hc
      refine x_iconst (v := 1) d_C_hasList_12 (by decide) ?_
      refine x_goto 17 d_C_hasList_13 rfl ?_
      refine x_sub [] [] rfl ?_
      exact t_C_hasList_17 hA hT hC M (1 : Int32) hw
end
theorem q73 : (.methodLink "SettingsDesk$Schema" 40 ⟨"SettingsDesk$Schema", "hasList", "(I)Z"⟩ : Cond) ∈ sdB0 := sd_tb2 178 rfl rfl
theorem q74 : (.code ⟨"SettingsDesk$Schema", "hasList", "(I)Z"⟩ prog_7_method_2_code 2 (some .boolean) : Cond) ∈ sdB0 := sd_tb2 156 rfl rfl
theorem q75 : (.instanceMethod ⟨"SettingsDesk$Schema", "hasList", "(I)Z"⟩ : Cond) ∈ sdB0 := sd_tb2 154 rfl rfl
theorem q76 : (.selects "SettingsDesk$Schema" ⟨"SettingsDesk$Schema", "hasList", "(I)Z"⟩ ⟨"SettingsDesk$Schema", "hasList", "(I)Z"⟩ : Cond) ∈ sdB0 := sd_tb2 155 rfl rfl
theorem q77 : (.initialized "SettingsDesk$Schema" : Cond) ∈ sdB0 := sd_tb1 2 rfl rfl
abbrev y_C_allowsLeaf : MethodName := ⟨"SettingsDesk$Schema", "allowsLeaf", "(III)Z"⟩
theorem d_C_allowsLeaf_0 : decode prog_7_method_5_code 0 = .ok (.iload_n 1, 1) := by decide +kernel
theorem d_C_allowsLeaf_1 : decode prog_7_method_5_code 1 = .ok (.ifCond .ne (14), 3) := by decide +kernel
theorem d_C_allowsLeaf_4 : decode prog_7_method_5_code 4 = .ok (.iload_n 2, 1) := by decide +kernel
theorem d_C_allowsLeaf_5 : decode prog_7_method_5_code 5 = .ok (.iload_n 3, 1) := by decide +kernel
theorem d_C_allowsLeaf_6 : decode prog_7_method_5_code 6 = .ok (.if_icmp .gt (7), 3) := by decide +kernel
theorem d_C_allowsLeaf_9 : decode prog_7_method_5_code 9 = .ok (.iconst 1, 1) := by decide +kernel
theorem d_C_allowsLeaf_10 : decode prog_7_method_5_code 10 = .ok (.goto (4), 3) := by decide +kernel
theorem d_C_allowsLeaf_13 : decode prog_7_method_5_code 13 = .ok (.iconst 0, 1) := by decide +kernel
theorem d_C_allowsLeaf_14 : decode prog_7_method_5_code 14 = .ok (.ireturn, 1) := by decide +kernel
theorem d_C_allowsLeaf_15 : decode prog_7_method_5_code 15 = .ok (.iload_n 1, 1) := by decide +kernel
theorem d_C_allowsLeaf_16 : decode prog_7_method_5_code 16 = .ok (.iconst 1, 1) := by decide +kernel
theorem d_C_allowsLeaf_17 : decode prog_7_method_5_code 17 = .ok (.if_icmp .ne (19), 3) := by decide +kernel
theorem d_C_allowsLeaf_20 : decode prog_7_method_5_code 20 = .ok (.iload_n 2, 1) := by decide +kernel
theorem d_C_allowsLeaf_21 : decode prog_7_method_5_code 21 = .ok (.ifCond .eq (15), 3) := by decide +kernel
theorem d_C_allowsLeaf_24 : decode prog_7_method_5_code 24 = .ok (.aload_n 0, 1) := by decide +kernel
theorem d_C_allowsLeaf_25 : decode prog_7_method_5_code 25 = .ok (.iload_n 2, 1) := by decide +kernel
theorem d_C_allowsLeaf_26 : decode prog_7_method_5_code 26 = .ok (.invokevirtual 40, 3) := by decide +kernel
theorem d_C_allowsLeaf_29 : decode prog_7_method_5_code 29 = .ok (.ifCond .eq (7), 3) := by decide +kernel
theorem d_C_allowsLeaf_32 : decode prog_7_method_5_code 32 = .ok (.iconst 1, 1) := by decide +kernel
theorem d_C_allowsLeaf_33 : decode prog_7_method_5_code 33 = .ok (.goto (4), 3) := by decide +kernel
theorem d_C_allowsLeaf_36 : decode prog_7_method_5_code 36 = .ok (.iconst 0, 1) := by decide +kernel
theorem d_C_allowsLeaf_37 : decode prog_7_method_5_code 37 = .ok (.ireturn, 1) := by decide +kernel
def Y_C_allowsLeaf : sdY := ("SettingsDesk$Schema", prog_7_method_5_code, 4, (some .boolean), .code y_C_allowsLeaf prog_7_method_5_code 4 (some .boolean) :: sdB0, { frames := 1, cells := 0, slots := 0, locals := 21 }, 0, 0, [])
theorem cw_C_allowsLeaf_C_hasList_40 : sd_cwV Y_C_allowsLeaf Y_C_hasList y_C_hasList 40 1 "SettingsDesk$Schema" := ⟨sd_goodV q73 q75 q76 q77 q74, ⟨_, rfl⟩, ⟨rfl, rfl, rfl, rfl⟩, ⟨rfl, by decide, by decide, by decide +kernel⟩, ⟨by decide, by decide⟩⟩
section
variable {l : Launch} {D : va_G} {dA : Nat → ClassId} {b n : Nat} {ad : Nat → Nat} {L : Nat → sdL} {sc : Option (Nat × Nat × (Nat → Int32))}
def k_C_allowsLeaf_37 (Q : Int32 → sdM → Prop) (M : sdM) (s0 : Int32) : Prop := sdB s0 ∧ Q s0 M
set_option maxHeartbeats 1000000 in
theorem t_C_allowsLeaf_37 (hA : sd_ad b n ad) (hT : l.stackTraces = false) (hC : isC n L dA) {Q : Int32 → sdM → Prop} (M : sdM) (s0 : Int32) (hw : k_C_allowsLeaf_37 Q M s0) : sdW l (sdE0 sc) Y_C_allowsLeaf D (sd_tys dA) b n ad L ad (sd_H D (sdE0 sc).1 n ad L) (sd_qi Q) sd_xf 37 [] [.int s0] M 0 0 := by
  unfold k_C_allowsLeaf_37 at hw
  exact x_zret d_C_allowsLeaf_37 rfl (sdB_n hw.1) (fun _ h => h) ⟨_, rfl, hw.2⟩
def k_C_allowsLeaf_36 (Q : Int32 → sdM → Prop) (M : sdM) : Prop := k_C_allowsLeaf_37 Q M (0 : Int32)
set_option maxHeartbeats 1000000 in
theorem t_C_allowsLeaf_36 (hA : sd_ad b n ad) (hT : l.stackTraces = false) (hC : isC n L dA) {Q : Int32 → sdM → Prop} (M : sdM) (hw : k_C_allowsLeaf_36 Q M ) : sdW l (sdE0 sc) Y_C_allowsLeaf D (sd_tys dA) b n ad L ad (sd_H D (sdE0 sc).1 n ad L) (sd_qi Q) sd_xf 36 [] [] M 0 0 := by
  unfold k_C_allowsLeaf_36 at hw
  refine x_iconst (v := 0) d_C_allowsLeaf_36 (by decide) ?_
  exact t_C_allowsLeaf_37 hA hT hC M (0 : Int32) hw
def k_C_allowsLeaf_14 (Q : Int32 → sdM → Prop) (M : sdM) (s0 : Int32) : Prop := sdB s0 ∧ Q s0 M
set_option maxHeartbeats 1000000 in
theorem t_C_allowsLeaf_14 (hA : sd_ad b n ad) (hT : l.stackTraces = false) (hC : isC n L dA) {Q : Int32 → sdM → Prop} (M : sdM) (s0 : Int32) (hw : k_C_allowsLeaf_14 Q M s0) : sdW l (sdE0 sc) Y_C_allowsLeaf D (sd_tys dA) b n ad L ad (sd_H D (sdE0 sc).1 n ad L) (sd_qi Q) sd_xf 14 [] [.int s0] M 0 0 := by
  unfold k_C_allowsLeaf_14 at hw
  exact x_zret d_C_allowsLeaf_14 rfl (sdB_n hw.1) (fun _ h => h) ⟨_, rfl, hw.2⟩
def w_C_allowsLeaf (M : sdM) (a1 : Int32) (a2 : Int32) (a3 : Int32) (Q : Int32 → sdM → Prop) : Prop := (¬ a1 = 0 → (¬ a1 = (1 : Int32) → k_C_allowsLeaf_36 Q M) ∧ (a1 = (1 : Int32) → (a2 = 0 → k_C_allowsLeaf_36 Q M) ∧ (¬ a2 = 0 → w_C_hasList M a2 (fun r4 M3 => (r4 = 0 → k_C_allowsLeaf_36 Q M3) ∧ (¬ r4 = 0 → k_C_allowsLeaf_37 Q M3 (1 : Int32)))))) ∧ (a1 = 0 → (a3 < a2 → k_C_allowsLeaf_14 Q M (0 : Int32)) ∧ (¬ a3 < a2 → k_C_allowsLeaf_14 Q M (1 : Int32)))
set_option maxHeartbeats 1000000 in
theorem c_C_allowsLeaf {a1 : Int32} {a2 : Int32} {a3 : Int32} (hA : sd_ad b n ad) (hT : l.stackTraces = false) (hC : isC n L dA) {Q : Int32 → sdM → Prop} {M : sdM} (hw : w_C_allowsLeaf M a1 a2 a3 Q) : sd_Cn l (sdE0 sc) y_C_allowsLeaf Y_C_allowsLeaf.2.2.2.2.1 Y_C_allowsLeaf.2.2.2.2.2.1 0 0 D (sd_tys dA) b n ad L M [.ref 1, .int a1, .int a2, .int a3] (sd_qi Q) sd_xf := by
  refine sd_enter (Y := Y_C_allowsLeaf) rfl rfl rfl rfl (Nat.le_of_ble_eq_true rfl) ?_
  show sdW l (sdE0 sc) Y_C_allowsLeaf D (sd_tys dA) b n ad L ad (sd_H D (sdE0 sc).1 n ad L) (sd_qi Q) sd_xf 0 [(0, .ref 1), (1, .int a1), (2, .int a2), (3, .int a3)] [] M 0 0
  unfold w_C_allowsLeaf at hw
  refine x_iload_n 1 1 d_C_allowsLeaf_0 rfl rfl ?_
  refine x_if_ne 15 d_C_allowsLeaf_1 rfl (fun hc => ?_) (fun hc => ?_)
  · have hw := hw.1 hc
    refine x_iload_n 1 1 d_C_allowsLeaf_15 rfl rfl ?_
    refine x_iconst (v := 1) d_C_allowsLeaf_16 (by decide) ?_
    refine x_icmp_ne 36 d_C_allowsLeaf_17 rfl (fun hc => ?_) (fun hc => ?_)
    · have hw := hw.1 hc
      refine x_sub [] [] rfl ?_
      exact t_C_allowsLeaf_36 hA hT hC M hw
    · have hw := hw.2 hc
      refine x_iload_n 2 2 d_C_allowsLeaf_20 rfl rfl ?_
      refine x_if_eq 36 d_C_allowsLeaf_21 rfl (fun hc => ?_) (fun hc => ?_)
      · have hw := hw.1 hc
        refine x_sub [] [] rfl ?_
        exact t_C_allowsLeaf_36 hA hT hC M hw
      · have hw := hw.2 hc
        refine x_aload_n 0 0 d_C_allowsLeaf_24 rfl rfl ?_
        refine x_iload_n 2 2 d_C_allowsLeaf_25 rfl rfl ?_
        refine x_callVi (As := [.int a2]) (t := 1) (rest := []) (rc := 0) (rs := 0) (c_C_hasList hA hT hC hw) cw_C_allowsLeaf_C_hasList_40 hC.1 hC.2.1 rfl d_C_allowsLeaf_26 rfl rfl (Nat.le_of_ble_eq_true rfl) rfl (fun _ _ h => h.elim) (fun _ _ h => h) (fun r4 M3 hw => ?_)
        refine x_if_eq 36 d_C_allowsLeaf_29 rfl (fun hc => ?_) (fun hc => ?_)
        · have hw := hw.1 hc
          refine x_sub [] [] rfl ?_
          exact t_C_allowsLeaf_36 hA hT hC M3 hw
        · have hw := hw.2 hc
          refine x_iconst (v := 1) d_C_allowsLeaf_32 (by decide) ?_
          refine x_goto 37 d_C_allowsLeaf_33 rfl ?_
          refine x_sub [] [] rfl ?_
          exact t_C_allowsLeaf_37 hA hT hC M3 (1 : Int32) hw
  · have hw := hw.2 hc
    refine x_iload_n 2 2 d_C_allowsLeaf_4 rfl rfl ?_
    refine x_iload_n 3 3 d_C_allowsLeaf_5 rfl rfl ?_
    refine x_icmp_gt 13 d_C_allowsLeaf_6 rfl (fun hc => ?_) (fun hc => ?_)
    · have hw := hw.1 hc
      refine x_iconst (v := 0) d_C_allowsLeaf_13 (by decide) ?_
      refine x_sub [] [] rfl ?_
      exact t_C_allowsLeaf_14 hA hT hC M (0 : Int32) hw
    · have hw := hw.2 hc
      refine x_iconst (v := 1) d_C_allowsLeaf_9 (by decide) ?_
      refine x_goto 14 d_C_allowsLeaf_10 rfl ?_
      refine x_sub [] [] rfl ?_
      exact t_C_allowsLeaf_14 hA hT hC M (1 : Int32) hw
end
theorem q78 : (.fieldLink "SettingsDesk$Schema" 25 "SettingsDesk$Schema" "leafTable" "[LSettingsDesk$Leaf;" : Cond) ∈ sdB0 := sd_tb1 112 rfl rfl
abbrev y_C_leafAt : MethodName := ⟨"SettingsDesk$Schema", "leafAt", "(II)LSettingsDesk$Leaf;"⟩
theorem d_C_leafAt_0 : decode prog_7_method_4_code 0 = .ok (.aload_n 0, 1) := by decide +kernel
theorem d_C_leafAt_1 : decode prog_7_method_4_code 1 = .ok (.getfield 25, 3) := by decide +kernel
theorem d_C_leafAt_4 : decode prog_7_method_4_code 4 = .ok (.iload_n 1, 1) := by decide +kernel
theorem d_C_leafAt_5 : decode prog_7_method_4_code 5 = .ok (.iconst 4, 1) := by decide +kernel
theorem d_C_leafAt_6 : decode prog_7_method_4_code 6 = .ok (.imul, 1) := by decide +kernel
theorem d_C_leafAt_7 : decode prog_7_method_4_code 7 = .ok (.iload_n 2, 1) := by decide +kernel
theorem d_C_leafAt_8 : decode prog_7_method_4_code 8 = .ok (.iadd, 1) := by decide +kernel
theorem d_C_leafAt_9 : decode prog_7_method_4_code 9 = .ok (.aaload, 1) := by decide +kernel
theorem d_C_leafAt_10 : decode prog_7_method_4_code 10 = .ok (.areturn, 1) := by decide +kernel
def Y_C_leafAt : sdY := ("SettingsDesk$Schema", prog_7_method_4_code, 3, (some (.object "SettingsDesk$Leaf")), .code y_C_leafAt prog_7_method_4_code 3 (some (.object "SettingsDesk$Leaf")) :: sdB0, { frames := 0, cells := 0, slots := 0, locals := 0 }, 0, 0, [])
section
variable {l : Launch} {D : va_G} {dA : Nat → ClassId} {b n : Nat} {ad : Nat → Nat} {L : Nat → sdL} {sc : Option (Nat × Nat × (Nat → Int32))}
def w_C_leafAt (M : sdM) (a1 : Int32) (a2 : Int32) (Q : Nat → sdM → Prop) : Prop := vp_in ((a1 * (4 : Int32)) + a2) 16 ∧ Q (5 + ((a1 * (4 : Int32)) + a2).toNatClampNeg) M
set_option maxHeartbeats 1000000 in
theorem c_C_leafAt {a1 : Int32} {a2 : Int32} (hA : sd_ad b n ad) (hT : l.stackTraces = false) (hC : isC n L dA) {Q : Nat → sdM → Prop} {M : sdM} (hw : w_C_leafAt M a1 a2 Q) : sd_Cn l (sdE0 sc) y_C_leafAt Y_C_leafAt.2.2.2.2.1 Y_C_leafAt.2.2.2.2.2.1 0 0 D (sd_tys dA) b n ad L M [.ref 1, .int a1, .int a2] (sd_qr (fun t => isF n L t) Q) sd_xf := by
  refine sd_enter (Y := Y_C_leafAt) rfl rfl rfl rfl (Nat.le_of_ble_eq_true rfl) ?_
  show sdW l (sdE0 sc) Y_C_leafAt D (sd_tys dA) b n ad L ad (sd_H D (sdE0 sc).1 n ad L) (sd_qr (fun t => isF n L t) Q) sd_xf 0 [(0, .ref 1), (1, .int a1), (2, .int a2)] [] M 0 0
  unfold w_C_leafAt at hw
  refine x_aload_n 0 0 d_C_leafAt_0 rfl rfl ?_
  refine x_getr 3 3 d_C_leafAt_1 hC.1 hC.2.1 rfl rfl (by decide) lay_C (List.mem_cons_of_mem _ q78) rfl ?_
  refine x_iload_n 1 1 d_C_leafAt_4 rfl rfl ?_
  refine x_iconst (v := 4) d_C_leafAt_5 (by decide) ?_
  refine x_imul d_C_leafAt_6 ?_
  refine x_iload_n 2 2 d_C_leafAt_7 rfl rfl ?_
  refine x_iadd d_C_leafAt_8 ?_
  obtain ⟨hi2, hw⟩ := hw
  refine x_aald (5 + ((a1 * (4 : Int32)) + a2).toNatClampNeg) d_C_leafAt_9 hC.leafTable.1 hC.leafTable.2 (t0 := 3) rfl hi2 rfl ?_
  exact x_aret d_C_leafAt_10 rfl rfl (fun _ h => h) ⟨_, rfl, (hC.leafTableAt hi2), hw⟩
end
theorem q79 : (.fieldLink "SettingsDesk$Schema" 19 "SettingsDesk$Schema" "leaves" "[I" : Cond) ∈ sdB0 := sd_tb1 109 rfl rfl
theorem q80 : (.fieldLink "SettingsDesk$Schema" 48 "SettingsDesk$Leaf" "isReference" "Z" : Cond) ∈ sdB0 := sd_tb1 47 rfl rfl
theorem q81 : (.fieldLink "SettingsDesk$Schema" 51 "SettingsDesk$Leaf" "low" "I" : Cond) ∈ sdB0 := sd_tb1 50 rfl rfl
theorem q82 : (.fieldLink "SettingsDesk$Schema" 54 "SettingsDesk$Leaf" "high" "I" : Cond) ∈ sdB0 := sd_tb1 53 rfl rfl
theorem q83 : (.fieldLink "SettingsDesk$Schema" 57 "SettingsDesk$Leaf" "required" "Z" : Cond) ∈ sdB0 := sd_tb1 55 rfl rfl
theorem q84 : (.fieldLink "SettingsDesk$Schema" 60 "SettingsDesk$Leaf" "unique" "Z" : Cond) ∈ sdB0 := sd_tb1 56 rfl rfl
theorem q85 : (.methodLink "SettingsDesk$Schema" 44 ⟨"SettingsDesk$Schema", "leafAt", "(II)LSettingsDesk$Leaf;"⟩ : Cond) ∈ sdB0 := sd_tb2 199 rfl rfl
theorem q86 : (.code ⟨"SettingsDesk$Schema", "leafAt", "(II)LSettingsDesk$Leaf;"⟩ prog_7_method_4_code 3 (some (.object "SettingsDesk$Leaf")) : Cond) ∈ sdB0 := sd_tb2 202 rfl rfl
theorem q87 : (.instanceMethod ⟨"SettingsDesk$Schema", "leafAt", "(II)LSettingsDesk$Leaf;"⟩ : Cond) ∈ sdB0 := sd_tb2 200 rfl rfl
theorem q88 : (.selects "SettingsDesk$Schema" ⟨"SettingsDesk$Schema", "leafAt", "(II)LSettingsDesk$Leaf;"⟩ ⟨"SettingsDesk$Schema", "leafAt", "(II)LSettingsDesk$Leaf;"⟩ : Cond) ∈ sdB0 := sd_tb2 201 rfl rfl
abbrev y_C_addLeaf : MethodName := ⟨"SettingsDesk$Schema", "addLeaf", "(IIIII)I"⟩
theorem d_C_addLeaf_0 : decode prog_7_method_6_code 0 = .ok (.aload_n 0, 1) := by decide +kernel
theorem d_C_addLeaf_1 : decode prog_7_method_6_code 1 = .ok (.getfield 19, 3) := by decide +kernel
theorem d_C_addLeaf_4 : decode prog_7_method_6_code 4 = .ok (.iload_n 1, 1) := by decide +kernel
theorem d_C_addLeaf_5 : decode prog_7_method_6_code 5 = .ok (.iaload, 1) := by decide +kernel
theorem d_C_addLeaf_6 : decode prog_7_method_6_code 6 = .ok (.istore 6, 2) := by decide +kernel
theorem d_C_addLeaf_8 : decode prog_7_method_6_code 8 = .ok (.aload_n 0, 1) := by decide +kernel
theorem d_C_addLeaf_9 : decode prog_7_method_6_code 9 = .ok (.iload_n 1, 1) := by decide +kernel
theorem d_C_addLeaf_10 : decode prog_7_method_6_code 10 = .ok (.iload 6, 2) := by decide +kernel
theorem d_C_addLeaf_12 : decode prog_7_method_6_code 12 = .ok (.invokevirtual 44, 3) := by decide +kernel
theorem d_C_addLeaf_15 : decode prog_7_method_6_code 15 = .ok (.astore 7, 2) := by decide +kernel
theorem d_C_addLeaf_17 : decode prog_7_method_6_code 17 = .ok (.aload 7, 2) := by decide +kernel
theorem d_C_addLeaf_19 : decode prog_7_method_6_code 19 = .ok (.iload_n 2, 1) := by decide +kernel
theorem d_C_addLeaf_20 : decode prog_7_method_6_code 20 = .ok (.iconst 1, 1) := by decide +kernel
theorem d_C_addLeaf_21 : decode prog_7_method_6_code 21 = .ok (.if_icmp .ne (7), 3) := by decide +kernel
theorem d_C_addLeaf_24 : decode prog_7_method_6_code 24 = .ok (.iconst 1, 1) := by decide +kernel
theorem d_C_addLeaf_25 : decode prog_7_method_6_code 25 = .ok (.goto (4), 3) := by decide +kernel
theorem d_C_addLeaf_28 : decode prog_7_method_6_code 28 = .ok (.iconst 0, 1) := by decide +kernel
theorem d_C_addLeaf_29 : decode prog_7_method_6_code 29 = .ok (.putfield 48, 3) := by decide +kernel
theorem d_C_addLeaf_32 : decode prog_7_method_6_code 32 = .ok (.aload 7, 2) := by decide +kernel
theorem d_C_addLeaf_34 : decode prog_7_method_6_code 34 = .ok (.iload_n 3, 1) := by decide +kernel
theorem d_C_addLeaf_35 : decode prog_7_method_6_code 35 = .ok (.putfield 51, 3) := by decide +kernel
theorem d_C_addLeaf_38 : decode prog_7_method_6_code 38 = .ok (.aload 7, 2) := by decide +kernel
theorem d_C_addLeaf_40 : decode prog_7_method_6_code 40 = .ok (.iload 4, 2) := by decide +kernel
theorem d_C_addLeaf_42 : decode prog_7_method_6_code 42 = .ok (.putfield 54, 3) := by decide +kernel
theorem d_C_addLeaf_45 : decode prog_7_method_6_code 45 = .ok (.aload 7, 2) := by decide +kernel
theorem d_C_addLeaf_47 : decode prog_7_method_6_code 47 = .ok (.iload 5, 2) := by decide +kernel
theorem d_C_addLeaf_49 : decode prog_7_method_6_code 49 = .ok (.iconst 1, 1) := by decide +kernel
theorem d_C_addLeaf_50 : decode prog_7_method_6_code 50 = .ok (.iand, 1) := by decide +kernel
theorem d_C_addLeaf_51 : decode prog_7_method_6_code 51 = .ok (.ifCond .eq (7), 3) := by decide +kernel
theorem d_C_addLeaf_54 : decode prog_7_method_6_code 54 = .ok (.iconst 1, 1) := by decide +kernel
theorem d_C_addLeaf_55 : decode prog_7_method_6_code 55 = .ok (.goto (4), 3) := by decide +kernel
theorem d_C_addLeaf_58 : decode prog_7_method_6_code 58 = .ok (.iconst 0, 1) := by decide +kernel
theorem d_C_addLeaf_59 : decode prog_7_method_6_code 59 = .ok (.putfield 57, 3) := by decide +kernel
theorem d_C_addLeaf_62 : decode prog_7_method_6_code 62 = .ok (.aload 7, 2) := by decide +kernel
theorem d_C_addLeaf_64 : decode prog_7_method_6_code 64 = .ok (.iload 5, 2) := by decide +kernel
theorem d_C_addLeaf_66 : decode prog_7_method_6_code 66 = .ok (.iconst 2, 1) := by decide +kernel
theorem d_C_addLeaf_67 : decode prog_7_method_6_code 67 = .ok (.iand, 1) := by decide +kernel
theorem d_C_addLeaf_68 : decode prog_7_method_6_code 68 = .ok (.ifCond .eq (7), 3) := by decide +kernel
theorem d_C_addLeaf_71 : decode prog_7_method_6_code 71 = .ok (.iconst 1, 1) := by decide +kernel
theorem d_C_addLeaf_72 : decode prog_7_method_6_code 72 = .ok (.goto (4), 3) := by decide +kernel
theorem d_C_addLeaf_75 : decode prog_7_method_6_code 75 = .ok (.iconst 0, 1) := by decide +kernel
theorem d_C_addLeaf_76 : decode prog_7_method_6_code 76 = .ok (.putfield 60, 3) := by decide +kernel
theorem d_C_addLeaf_79 : decode prog_7_method_6_code 79 = .ok (.aload_n 0, 1) := by decide +kernel
theorem d_C_addLeaf_80 : decode prog_7_method_6_code 80 = .ok (.getfield 19, 3) := by decide +kernel
theorem d_C_addLeaf_83 : decode prog_7_method_6_code 83 = .ok (.iload_n 1, 1) := by decide +kernel
theorem d_C_addLeaf_84 : decode prog_7_method_6_code 84 = .ok (.dup2, 1) := by decide +kernel
theorem d_C_addLeaf_85 : decode prog_7_method_6_code 85 = .ok (.iaload, 1) := by decide +kernel
theorem d_C_addLeaf_86 : decode prog_7_method_6_code 86 = .ok (.iconst 1, 1) := by decide +kernel
theorem d_C_addLeaf_87 : decode prog_7_method_6_code 87 = .ok (.iadd, 1) := by decide +kernel
theorem d_C_addLeaf_88 : decode prog_7_method_6_code 88 = .ok (.iastore, 1) := by decide +kernel
theorem d_C_addLeaf_89 : decode prog_7_method_6_code 89 = .ok (.iload 6, 2) := by decide +kernel
theorem d_C_addLeaf_91 : decode prog_7_method_6_code 91 = .ok (.ireturn, 1) := by decide +kernel
def Y_C_addLeaf : sdY := ("SettingsDesk$Schema", prog_7_method_6_code, 8, (some .int), .code y_C_addLeaf prog_7_method_6_code 8 (some .int) :: sdB0, { frames := 1, cells := 0, slots := 0, locals := 22 }, 0, 0, [])
theorem cw_C_addLeaf_C_leafAt_44 : sd_cwV Y_C_addLeaf Y_C_leafAt y_C_leafAt 44 2 "SettingsDesk$Schema" := ⟨sd_goodV q85 q87 q88 q77 q86, ⟨_, rfl⟩, ⟨rfl, rfl, rfl, rfl⟩, ⟨rfl, by decide, by decide, by decide +kernel⟩, ⟨by decide, by decide⟩⟩
section
variable {l : Launch} {D : va_G} {dA : Nat → ClassId} {b n : Nat} {ad : Nat → Nat} {L : Nat → sdL} {sc : Option (Nat × Nat × (Nat → Int32))}
def k_C_addLeaf_76 (Q : Int32 → sdM → Prop) (M : sdM) (x1 : Int32) (x6 : Int32) (u0 : Nat) (s1 : Int32) : Prop := sdB s1 ∧ ∀ M22 : sdM, M22 = sd_s M u0 4 s1 → vp_in x1 4 ∧ vp_in x1 4 ∧ ∀ M27 : sdM, M27 = sd_s M22 2 x1.toNatClampNeg ((M22 2 x1.toNatClampNeg) + (1 : Int32)) → Q x6 M27
set_option maxHeartbeats 1000000 in
theorem t_C_addLeaf_76 (hA : sd_ad b n ad) (hT : l.stackTraces = false) (hC : isC n L dA) {Q : Int32 → sdM → Prop} (M : sdM) (x1 : Int32) (x6 : Int32) (u0 : Nat) (s1 : Int32) (hu0 : isF n L u0) (hw : k_C_addLeaf_76 Q M x1 x6 u0 s1) : sdW l (sdE0 sc) Y_C_addLeaf D (sd_tys dA) b n ad L ad (sd_H D (sdE0 sc).1 n ad L) (sd_qi Q) sd_xf 76 [(0, .ref 1), (1, .int x1), (6, .int x6)] [.int s1, .ref u0] M 0 0 := by
  unfold k_C_addLeaf_76 at hw
  obtain ⟨hb24, hw⟩ := hw
  refine x_puti 4 (ty := .boolean) hA d_C_addLeaf_76 hu0.1 hu0.2 rfl rfl (by decide) lay_F (List.mem_cons_of_mem _ q84) rfl ty_F ty_F_ok nm_F rfl (by decide +kernel) (sdB_n hb24) (sdB_f hb24) (fun M22 e23 => ?_)
  have hw := hw M22 e23
  clear e23
  refine x_aload_n 0 0 d_C_addLeaf_79 rfl rfl ?_
  refine x_getr 2 2 d_C_addLeaf_80 hC.1 hC.2.1 rfl rfl (by decide) lay_C (List.mem_cons_of_mem _ q79) rfl ?_
  refine x_iload_n 1 1 d_C_addLeaf_83 rfl rfl ?_
  refine x_dup2 d_C_addLeaf_84 rfl rfl ?_
  obtain ⟨hi25, hw⟩ := hw
  refine x_iald d_C_addLeaf_85 hC.leaves.1 hC.leaves.2 rfl hi25 ?_
  refine x_iconst (v := 1) d_C_addLeaf_86 (by decide) ?_
  refine x_iadd d_C_addLeaf_87 ?_
  obtain ⟨hi26, hw⟩ := hw
  refine x_iast hA d_C_addLeaf_88 hC.leaves.1 hC.leaves.2 rfl hi26 (fun M27 e28 => ?_)
  have hw := hw M27 e28
  clear e28
  refine x_iload 6 2 d_C_addLeaf_89 rfl ?_
  exact x_iret d_C_addLeaf_91 rfl (fun _ h => h) ⟨_, rfl, hw⟩
def k_C_addLeaf_59 (Q : Int32 → sdM → Prop) (M : sdM) (x1 : Int32) (x5 : Int32) (x6 : Int32) (o7 : Nat) (u0 : Nat) (s1 : Int32) : Prop := sdB s1 ∧ ∀ M29 : sdM, M29 = sd_s M u0 3 s1 → ((x5 &&& (2 : Int32)) = 0 → k_C_addLeaf_76 Q M29 x1 x6 o7 (0 : Int32)) ∧ (¬ (x5 &&& (2 : Int32)) = 0 → k_C_addLeaf_76 Q M29 x1 x6 o7 (1 : Int32))
set_option maxHeartbeats 1000000 in
theorem t_C_addLeaf_59 (hA : sd_ad b n ad) (hT : l.stackTraces = false) (hC : isC n L dA) {Q : Int32 → sdM → Prop} (M : sdM) (x1 : Int32) (x5 : Int32) (x6 : Int32) (o7 : Nat) (u0 : Nat) (s1 : Int32) (ho7 : isF n L o7) (hu0 : isF n L u0) (hw : k_C_addLeaf_59 Q M x1 x5 x6 o7 u0 s1) : sdW l (sdE0 sc) Y_C_addLeaf D (sd_tys dA) b n ad L ad (sd_H D (sdE0 sc).1 n ad L) (sd_qi Q) sd_xf 59 [(0, .ref 1), (1, .int x1), (5, .int x5), (6, .int x6), (7, .ref o7)] [.int s1, .ref u0] M 0 0 := by
  unfold k_C_addLeaf_59 at hw
  obtain ⟨hb31, hw⟩ := hw
  refine x_puti 3 (ty := .boolean) hA d_C_addLeaf_59 hu0.1 hu0.2 rfl rfl (by decide) lay_F (List.mem_cons_of_mem _ q83) rfl ty_F ty_F_ok nm_F rfl (by decide +kernel) (sdB_n hb31) (sdB_f hb31) (fun M29 e30 => ?_)
  have hw := hw M29 e30
  clear e30
  refine x_aload 7 4 d_C_addLeaf_62 rfl ?_
  refine x_iload 5 2 d_C_addLeaf_64 rfl ?_
  refine x_iconst (v := 2) d_C_addLeaf_66 (by decide) ?_
  refine x_iand d_C_addLeaf_67 ?_
  refine x_if_eq 75 d_C_addLeaf_68 rfl (fun hc => ?_) (fun hc => ?_)
  · have hw := hw.1 hc
    refine x_iconst (v := 0) d_C_addLeaf_75 (by decide) ?_
    refine x_sub [0, 1, 3] [(0, .ref 1), (1, .int x1), (6, .int x6)] rfl ?_
    exact t_C_addLeaf_76 hA hT hC M29 x1 x6 o7 (0 : Int32) ho7 hw
  · have hw := hw.2 hc
    refine x_iconst (v := 1) d_C_addLeaf_71 (by decide) ?_
    refine x_goto 76 d_C_addLeaf_72 rfl ?_
    refine x_sub [0, 1, 3] [(0, .ref 1), (1, .int x1), (6, .int x6)] rfl ?_
    exact t_C_addLeaf_76 hA hT hC M29 x1 x6 o7 (1 : Int32) ho7 hw
def k_C_addLeaf_29 (Q : Int32 → sdM → Prop) (M : sdM) (x1 : Int32) (x3 : Int32) (x4 : Int32) (x5 : Int32) (x6 : Int32) (o7 : Nat) (u0 : Nat) (s1 : Int32) : Prop := sdB s1 ∧ ∀ M32 : sdM, M32 = sd_s M u0 0 s1 → ∀ M35 : sdM, M35 = sd_s M32 o7 1 x3 → ∀ M37 : sdM, M37 = sd_s M35 o7 2 x4 → ((x5 &&& (1 : Int32)) = 0 → k_C_addLeaf_59 Q M37 x1 x5 x6 o7 o7 (0 : Int32)) ∧ (¬ (x5 &&& (1 : Int32)) = 0 → k_C_addLeaf_59 Q M37 x1 x5 x6 o7 o7 (1 : Int32))
set_option maxHeartbeats 1000000 in
theorem t_C_addLeaf_29 (hA : sd_ad b n ad) (hT : l.stackTraces = false) (hC : isC n L dA) {Q : Int32 → sdM → Prop} (M : sdM) (x1 : Int32) (x3 : Int32) (x4 : Int32) (x5 : Int32) (x6 : Int32) (o7 : Nat) (u0 : Nat) (s1 : Int32) (ho7 : isF n L o7) (hu0 : isF n L u0) (hw : k_C_addLeaf_29 Q M x1 x3 x4 x5 x6 o7 u0 s1) : sdW l (sdE0 sc) Y_C_addLeaf D (sd_tys dA) b n ad L ad (sd_H D (sdE0 sc).1 n ad L) (sd_qi Q) sd_xf 29 [(0, .ref 1), (1, .int x1), (3, .int x3), (4, .int x4), (5, .int x5), (6, .int x6), (7, .ref o7)] [.int s1, .ref u0] M 0 0 := by
  unfold k_C_addLeaf_29 at hw
  obtain ⟨hb34, hw⟩ := hw
  refine x_puti 0 (ty := .boolean) hA d_C_addLeaf_29 hu0.1 hu0.2 rfl rfl (by decide) lay_F (List.mem_cons_of_mem _ q80) rfl ty_F ty_F_ok nm_F rfl (by decide +kernel) (sdB_n hb34) (sdB_f hb34) (fun M32 e33 => ?_)
  have hw := hw M32 e33
  clear e33
  refine x_aload 7 6 d_C_addLeaf_32 rfl ?_
  refine x_iload_n 3 2 d_C_addLeaf_34 rfl rfl ?_
  refine x_puti 1 (ty := .int) hA d_C_addLeaf_35 ho7.1 ho7.2 rfl rfl (by decide) lay_F (List.mem_cons_of_mem _ q81) rfl ty_F ty_F_ok nm_F rfl (by decide +kernel) rfl rfl (fun M35 e36 => ?_)
  have hw := hw M35 e36
  clear e36
  refine x_aload 7 6 d_C_addLeaf_38 rfl ?_
  refine x_iload 4 3 d_C_addLeaf_40 rfl ?_
  refine x_puti 2 (ty := .int) hA d_C_addLeaf_42 ho7.1 ho7.2 rfl rfl (by decide) lay_F (List.mem_cons_of_mem _ q82) rfl ty_F ty_F_ok nm_F rfl (by decide +kernel) rfl rfl (fun M37 e38 => ?_)
  have hw := hw M37 e38
  clear e38
  refine x_aload 7 6 d_C_addLeaf_45 rfl ?_
  refine x_iload 5 4 d_C_addLeaf_47 rfl ?_
  refine x_iconst (v := 1) d_C_addLeaf_49 (by decide) ?_
  refine x_iand d_C_addLeaf_50 ?_
  refine x_if_eq 58 d_C_addLeaf_51 rfl (fun hc => ?_) (fun hc => ?_)
  · have hw := hw.1 hc
    refine x_iconst (v := 0) d_C_addLeaf_58 (by decide) ?_
    refine x_sub [0, 1, 4, 5, 6] [(0, .ref 1), (1, .int x1), (5, .int x5), (6, .int x6), (7, .ref o7)] rfl ?_
    exact t_C_addLeaf_59 hA hT hC M37 x1 x5 x6 o7 o7 (0 : Int32) ho7 ho7 hw
  · have hw := hw.2 hc
    refine x_iconst (v := 1) d_C_addLeaf_54 (by decide) ?_
    refine x_goto 59 d_C_addLeaf_55 rfl ?_
    refine x_sub [0, 1, 4, 5, 6] [(0, .ref 1), (1, .int x1), (5, .int x5), (6, .int x6), (7, .ref o7)] rfl ?_
    exact t_C_addLeaf_59 hA hT hC M37 x1 x5 x6 o7 o7 (1 : Int32) ho7 ho7 hw
def w_C_addLeaf (M : sdM) (a1 : Int32) (a2 : Int32) (a3 : Int32) (a4 : Int32) (a5 : Int32) (Q : Int32 → sdM → Prop) : Prop := vp_in a1 4 ∧ w_C_leafAt M a1 (M 2 a1.toNatClampNeg) (fun t41 M40 => (¬ a2 = (1 : Int32) → k_C_addLeaf_29 Q M40 a1 a3 a4 a5 (M 2 a1.toNatClampNeg) t41 t41 (0 : Int32)) ∧ (a2 = (1 : Int32) → k_C_addLeaf_29 Q M40 a1 a3 a4 a5 (M 2 a1.toNatClampNeg) t41 t41 (1 : Int32)))
set_option maxHeartbeats 1000000 in
theorem c_C_addLeaf {a1 : Int32} {a2 : Int32} {a3 : Int32} {a4 : Int32} {a5 : Int32} (hA : sd_ad b n ad) (hT : l.stackTraces = false) (hC : isC n L dA) {Q : Int32 → sdM → Prop} {M : sdM} (hw : w_C_addLeaf M a1 a2 a3 a4 a5 Q) : sd_Cn l (sdE0 sc) y_C_addLeaf Y_C_addLeaf.2.2.2.2.1 Y_C_addLeaf.2.2.2.2.2.1 0 0 D (sd_tys dA) b n ad L M [.ref 1, .int a1, .int a2, .int a3, .int a4, .int a5] (sd_qi Q) sd_xf := by
  refine sd_enter (Y := Y_C_addLeaf) rfl rfl rfl rfl (Nat.le_of_ble_eq_true rfl) ?_
  show sdW l (sdE0 sc) Y_C_addLeaf D (sd_tys dA) b n ad L ad (sd_H D (sdE0 sc).1 n ad L) (sd_qi Q) sd_xf 0 [(0, .ref 1), (1, .int a1), (2, .int a2), (3, .int a3), (4, .int a4), (5, .int a5)] [] M 0 0
  unfold w_C_addLeaf at hw
  refine x_aload_n 0 0 d_C_addLeaf_0 rfl rfl ?_
  refine x_getr 2 2 d_C_addLeaf_1 hC.1 hC.2.1 rfl rfl (by decide) lay_C (List.mem_cons_of_mem _ q79) rfl ?_
  refine x_iload_n 1 1 d_C_addLeaf_4 rfl rfl ?_
  obtain ⟨hi39, hw⟩ := hw
  refine x_iald d_C_addLeaf_5 hC.leaves.1 hC.leaves.2 rfl hi39 ?_
  refine x_istore 6 [(6, .int (M 2 a1.toNatClampNeg)), (0, .ref 1), (1, .int a1), (2, .int a2), (3, .int a3), (4, .int a4), (5, .int a5)] d_C_addLeaf_6 (by decide) rfl ?_
  refine x_aload_n 0 1 d_C_addLeaf_8 rfl rfl ?_
  refine x_iload_n 1 2 d_C_addLeaf_9 rfl rfl ?_
  refine x_iload 6 0 d_C_addLeaf_10 rfl ?_
  refine x_callVr (As := [.int a1, .int (M 2 a1.toNatClampNeg)]) (t := 1) (rest := []) (rc := 0) (rs := 0) (c_C_leafAt hA hT hC hw) cw_C_addLeaf_C_leafAt_44 hC.1 hC.2.1 rfl d_C_addLeaf_12 rfl rfl (Nat.le_of_ble_eq_true rfl) rfl (fun _ _ h => h.elim) (fun _ _ h => h) (fun t41 M40 ht42 hw => ?_)
  refine x_astore 7 [(7, .ref t41), (6, .int (M 2 a1.toNatClampNeg)), (0, .ref 1), (1, .int a1), (2, .int a2), (3, .int a3), (4, .int a4), (5, .int a5)] d_C_addLeaf_15 (by decide) rfl ?_
  refine x_aload 7 0 d_C_addLeaf_17 rfl ?_
  refine x_iload_n 2 4 d_C_addLeaf_19 rfl rfl ?_
  refine x_iconst (v := 1) d_C_addLeaf_20 (by decide) ?_
  refine x_icmp_ne 28 d_C_addLeaf_21 rfl (fun hc => ?_) (fun hc => ?_)
  · have hw := hw.1 hc
    refine x_iconst (v := 0) d_C_addLeaf_28 (by decide) ?_
    refine x_sub [2, 3, 5, 6, 7, 1, 0] [(0, .ref 1), (1, .int a1), (3, .int a3), (4, .int a4), (5, .int a5), (6, .int (M 2 a1.toNatClampNeg)), (7, .ref t41)] rfl ?_
    exact t_C_addLeaf_29 hA hT hC M40 a1 a3 a4 a5 (M 2 a1.toNatClampNeg) t41 t41 (0 : Int32) ht42 ht42 hw
  · have hw := hw.2 hc
    refine x_iconst (v := 1) d_C_addLeaf_24 (by decide) ?_
    refine x_goto 29 d_C_addLeaf_25 rfl ?_
    refine x_sub [2, 3, 5, 6, 7, 1, 0] [(0, .ref 1), (1, .int a1), (3, .int a3), (4, .int a4), (5, .int a5), (6, .int (M 2 a1.toNatClampNeg)), (7, .ref t41)] rfl ?_
    exact t_C_addLeaf_29 hA hT hC M40 a1 a3 a4 a5 (M 2 a1.toNatClampNeg) t41 t41 (1 : Int32) ht42 ht42 hw
end
abbrev y_C_hasLeaf : MethodName := ⟨"SettingsDesk$Schema", "hasLeaf", "(II)Z"⟩
theorem d_C_hasLeaf_0 : decode prog_7_method_3_code 0 = .ok (.aload_n 0, 1) := by decide +kernel
theorem d_C_hasLeaf_1 : decode prog_7_method_3_code 1 = .ok (.iload_n 1, 1) := by decide +kernel
theorem d_C_hasLeaf_2 : decode prog_7_method_3_code 2 = .ok (.invokevirtual 40, 3) := by decide +kernel
theorem d_C_hasLeaf_5 : decode prog_7_method_3_code 5 = .ok (.ifCond .eq (21), 3) := by decide +kernel
theorem d_C_hasLeaf_8 : decode prog_7_method_3_code 8 = .ok (.iload_n 2, 1) := by decide +kernel
theorem d_C_hasLeaf_9 : decode prog_7_method_3_code 9 = .ok (.ifCond .lt (17), 3) := by decide +kernel
theorem d_C_hasLeaf_12 : decode prog_7_method_3_code 12 = .ok (.iload_n 2, 1) := by decide +kernel
theorem d_C_hasLeaf_13 : decode prog_7_method_3_code 13 = .ok (.aload_n 0, 1) := by decide +kernel
theorem d_C_hasLeaf_14 : decode prog_7_method_3_code 14 = .ok (.getfield 19, 3) := by decide +kernel
theorem d_C_hasLeaf_17 : decode prog_7_method_3_code 17 = .ok (.iload_n 1, 1) := by decide +kernel
theorem d_C_hasLeaf_18 : decode prog_7_method_3_code 18 = .ok (.iaload, 1) := by decide +kernel
theorem d_C_hasLeaf_19 : decode prog_7_method_3_code 19 = .ok (.if_icmp .ge (7), 3) := by decide +kernel
theorem d_C_hasLeaf_22 : decode prog_7_method_3_code 22 = .ok (.iconst 1, 1) := by decide +kernel
theorem d_C_hasLeaf_23 : decode prog_7_method_3_code 23 = .ok (.goto (4), 3) := by decide +kernel
theorem d_C_hasLeaf_26 : decode prog_7_method_3_code 26 = .ok (.iconst 0, 1) := by decide +kernel
theorem d_C_hasLeaf_27 : decode prog_7_method_3_code 27 = .ok (.ireturn, 1) := by decide +kernel
def Y_C_hasLeaf : sdY := ("SettingsDesk$Schema", prog_7_method_3_code, 3, (some .boolean), .code y_C_hasLeaf prog_7_method_3_code 3 (some .boolean) :: sdB0, { frames := 1, cells := 0, slots := 0, locals := 21 }, 0, 0, [])
theorem cw_C_hasLeaf_C_hasList_40 : sd_cwV Y_C_hasLeaf Y_C_hasList y_C_hasList 40 1 "SettingsDesk$Schema" := ⟨sd_goodV q73 q75 q76 q77 q74, ⟨_, rfl⟩, ⟨rfl, rfl, rfl, rfl⟩, ⟨rfl, by decide, by decide, by decide +kernel⟩, ⟨by decide, by decide⟩⟩
section
variable {l : Launch} {D : va_G} {dA : Nat → ClassId} {b n : Nat} {ad : Nat → Nat} {L : Nat → sdL} {sc : Option (Nat × Nat × (Nat → Int32))}
def k_C_hasLeaf_27 (Q : Int32 → sdM → Prop) (M : sdM) (s0 : Int32) : Prop := sdB s0 ∧ Q s0 M
set_option maxHeartbeats 1000000 in
theorem t_C_hasLeaf_27 (hA : sd_ad b n ad) (hT : l.stackTraces = false) (hC : isC n L dA) {Q : Int32 → sdM → Prop} (M : sdM) (s0 : Int32) (hw : k_C_hasLeaf_27 Q M s0) : sdW l (sdE0 sc) Y_C_hasLeaf D (sd_tys dA) b n ad L ad (sd_H D (sdE0 sc).1 n ad L) (sd_qi Q) sd_xf 27 [] [.int s0] M 0 0 := by
  unfold k_C_hasLeaf_27 at hw
  exact x_zret d_C_hasLeaf_27 rfl (sdB_n hw.1) (fun _ h => h) ⟨_, rfl, hw.2⟩
def k_C_hasLeaf_26 (Q : Int32 → sdM → Prop) (M : sdM) : Prop := k_C_hasLeaf_27 Q M (0 : Int32)
set_option maxHeartbeats 1000000 in
theorem t_C_hasLeaf_26 (hA : sd_ad b n ad) (hT : l.stackTraces = false) (hC : isC n L dA) {Q : Int32 → sdM → Prop} (M : sdM) (hw : k_C_hasLeaf_26 Q M ) : sdW l (sdE0 sc) Y_C_hasLeaf D (sd_tys dA) b n ad L ad (sd_H D (sdE0 sc).1 n ad L) (sd_qi Q) sd_xf 26 [] [] M 0 0 := by
  unfold k_C_hasLeaf_26 at hw
  refine x_iconst (v := 0) d_C_hasLeaf_26 (by decide) ?_
  exact t_C_hasLeaf_27 hA hT hC M (0 : Int32) hw
def w_C_hasLeaf (M : sdM) (a1 : Int32) (a2 : Int32) (Q : Int32 → sdM → Prop) : Prop := w_C_hasList M a1 (fun r5 M4 => (r5 = 0 → k_C_hasLeaf_26 Q M4) ∧ (¬ r5 = 0 → (a2 < 0 → k_C_hasLeaf_26 Q M4) ∧ (¬ a2 < 0 → vp_in a1 4 ∧ ((M4 2 a1.toNatClampNeg) ≤ a2 → k_C_hasLeaf_26 Q M4) ∧ (¬ (M4 2 a1.toNatClampNeg) ≤ a2 → k_C_hasLeaf_27 Q M4 (1 : Int32)))))
set_option maxHeartbeats 1000000 in
theorem c_C_hasLeaf {a1 : Int32} {a2 : Int32} (hA : sd_ad b n ad) (hT : l.stackTraces = false) (hC : isC n L dA) {Q : Int32 → sdM → Prop} {M : sdM} (hw : w_C_hasLeaf M a1 a2 Q) : sd_Cn l (sdE0 sc) y_C_hasLeaf Y_C_hasLeaf.2.2.2.2.1 Y_C_hasLeaf.2.2.2.2.2.1 0 0 D (sd_tys dA) b n ad L M [.ref 1, .int a1, .int a2] (sd_qi Q) sd_xf := by
  refine sd_enter (Y := Y_C_hasLeaf) rfl rfl rfl rfl (Nat.le_of_ble_eq_true rfl) ?_
  show sdW l (sdE0 sc) Y_C_hasLeaf D (sd_tys dA) b n ad L ad (sd_H D (sdE0 sc).1 n ad L) (sd_qi Q) sd_xf 0 [(0, .ref 1), (1, .int a1), (2, .int a2)] [] M 0 0
  unfold w_C_hasLeaf at hw
  refine x_aload_n 0 0 d_C_hasLeaf_0 rfl rfl ?_
  refine x_iload_n 1 1 d_C_hasLeaf_1 rfl rfl ?_
  refine x_callVi (As := [.int a1]) (t := 1) (rest := []) (rc := 0) (rs := 0) (c_C_hasList hA hT hC hw) cw_C_hasLeaf_C_hasList_40 hC.1 hC.2.1 rfl d_C_hasLeaf_2 rfl rfl (Nat.le_of_ble_eq_true rfl) rfl (fun _ _ h => h.elim) (fun _ _ h => h) (fun r5 M4 hw => ?_)
  refine x_if_eq 26 d_C_hasLeaf_5 rfl (fun hc => ?_) (fun hc => ?_)
  · have hw := hw.1 hc
    refine x_sub [] [] rfl ?_
    exact t_C_hasLeaf_26 hA hT hC M4 hw
  · have hw := hw.2 hc
    refine x_iload_n 2 2 d_C_hasLeaf_8 rfl rfl ?_
    refine x_if_lt 26 d_C_hasLeaf_9 rfl (fun hc => ?_) (fun hc => ?_)
    · have hw := hw.1 hc
      refine x_sub [] [] rfl ?_
      exact t_C_hasLeaf_26 hA hT hC M4 hw
    · have hw := hw.2 hc
      refine x_iload_n 2 2 d_C_hasLeaf_12 rfl rfl ?_
      refine x_aload_n 0 0 d_C_hasLeaf_13 rfl rfl ?_
      refine x_getr 2 2 d_C_hasLeaf_14 hC.1 hC.2.1 rfl rfl (by decide) lay_C (List.mem_cons_of_mem _ q79) rfl ?_
      refine x_iload_n 1 1 d_C_hasLeaf_17 rfl rfl ?_
      obtain ⟨hi6, hw⟩ := hw
      refine x_iald d_C_hasLeaf_18 hC.leaves.1 hC.leaves.2 rfl hi6 ?_
      refine x_icmp_ge 26 d_C_hasLeaf_19 rfl (fun hc => ?_) (fun hc => ?_)
      · have hw := hw.1 hc
        refine x_sub [] [] rfl ?_
        exact t_C_hasLeaf_26 hA hT hC M4 hw
      · have hw := hw.2 hc
        refine x_iconst (v := 1) d_C_hasLeaf_22 (by decide) ?_
        refine x_goto 27 d_C_hasLeaf_23 rfl ?_
        refine x_sub [] [] rfl ?_
        exact t_C_hasLeaf_27 hA hT hC M4 (1 : Int32) hw
end
theorem q89 : (.fieldLink "SettingsDesk$Leaf" 9 "SettingsDesk$Leaf" "isReference" "Z" : Cond) ∈ sdB0 := sd_tb1 45 rfl rfl
theorem q90 : (.fieldLink "SettingsDesk$Leaf" 15 "SettingsDesk$Leaf" "low" "I" : Cond) ∈ sdB0 := sd_tb1 49 rfl rfl
theorem q91 : (.fieldLink "SettingsDesk$Leaf" 19 "SettingsDesk$Leaf" "high" "I" : Cond) ∈ sdB0 := sd_tb1 52 rfl rfl
abbrev y_F_takes : MethodName := ⟨"SettingsDesk$Leaf", "takes", "(I)Z"⟩
theorem d_F_takes_0 : decode prog_4_method_2_code 0 = .ok (.aload_n 0, 1) := by decide +kernel
theorem d_F_takes_1 : decode prog_4_method_2_code 1 = .ok (.getfield 9, 3) := by decide +kernel
theorem d_F_takes_4 : decode prog_4_method_2_code 4 = .ok (.ifCond .eq (22), 3) := by decide +kernel
theorem d_F_takes_7 : decode prog_4_method_2_code 7 = .ok (.iload_n 1, 1) := by decide +kernel
theorem d_F_takes_8 : decode prog_4_method_2_code 8 = .ok (.iconst 1, 1) := by decide +kernel
theorem d_F_takes_9 : decode prog_4_method_2_code 9 = .ok (.if_icmp .lt (13), 3) := by decide +kernel
theorem d_F_takes_12 : decode prog_4_method_2_code 12 = .ok (.iload_n 1, 1) := by decide +kernel
theorem d_F_takes_13 : decode prog_4_method_2_code 13 = .ok (.bipush (100), 2) := by decide +kernel
theorem d_F_takes_15 : decode prog_4_method_2_code 15 = .ok (.if_icmp .gt (7), 3) := by decide +kernel
theorem d_F_takes_18 : decode prog_4_method_2_code 18 = .ok (.iconst 1, 1) := by decide +kernel
theorem d_F_takes_19 : decode prog_4_method_2_code 19 = .ok (.goto (28), 3) := by decide +kernel
theorem d_F_takes_22 : decode prog_4_method_2_code 22 = .ok (.iconst 0, 1) := by decide +kernel
theorem d_F_takes_23 : decode prog_4_method_2_code 23 = .ok (.goto (24), 3) := by decide +kernel
theorem d_F_takes_26 : decode prog_4_method_2_code 26 = .ok (.iload_n 1, 1) := by decide +kernel
theorem d_F_takes_27 : decode prog_4_method_2_code 27 = .ok (.aload_n 0, 1) := by decide +kernel
theorem d_F_takes_28 : decode prog_4_method_2_code 28 = .ok (.getfield 15, 3) := by decide +kernel
theorem d_F_takes_31 : decode prog_4_method_2_code 31 = .ok (.if_icmp .lt (15), 3) := by decide +kernel
theorem d_F_takes_34 : decode prog_4_method_2_code 34 = .ok (.iload_n 1, 1) := by decide +kernel
theorem d_F_takes_35 : decode prog_4_method_2_code 35 = .ok (.aload_n 0, 1) := by decide +kernel
theorem d_F_takes_36 : decode prog_4_method_2_code 36 = .ok (.getfield 19, 3) := by decide +kernel
theorem d_F_takes_39 : decode prog_4_method_2_code 39 = .ok (.if_icmp .gt (7), 3) := by decide +kernel
theorem d_F_takes_42 : decode prog_4_method_2_code 42 = .ok (.iconst 1, 1) := by decide +kernel
theorem d_F_takes_43 : decode prog_4_method_2_code 43 = .ok (.goto (4), 3) := by decide +kernel
theorem d_F_takes_46 : decode prog_4_method_2_code 46 = .ok (.iconst 0, 1) := by decide +kernel
theorem d_F_takes_47 : decode prog_4_method_2_code 47 = .ok (.ireturn, 1) := by decide +kernel
def Y_F_takes : sdY := ("SettingsDesk$Leaf", prog_4_method_2_code, 2, (some .boolean), .code y_F_takes prog_4_method_2_code 2 (some .boolean) :: sdB0, { frames := 0, cells := 0, slots := 0, locals := 0 }, 0, 0, [])
section
variable {l : Launch} {D : va_G} {dA : Nat → ClassId} {b n : Nat} {ad : Nat → Nat} {L : Nat → sdL} {sc : Option (Nat × Nat × (Nat → Int32))}
def k_F_takes_47 (o : Nat) (Q : Int32 → sdM → Prop) (M : sdM) (s0 : Int32) : Prop := sdB s0 ∧ Q s0 M
set_option maxHeartbeats 1000000 in
theorem t_F_takes_47 {o : Nat} (hA : sd_ad b n ad) (hT : l.stackTraces = false) (ho : isF n L o) {Q : Int32 → sdM → Prop} (M : sdM) (s0 : Int32) (hw : k_F_takes_47 o Q M s0) : sdW l (sdE0 sc) Y_F_takes D (sd_tys dA) b n ad L ad (sd_H D (sdE0 sc).1 n ad L) (sd_qi Q) sd_xf 47 [] [.int s0] M 0 0 := by
  unfold k_F_takes_47 at hw
  exact x_zret d_F_takes_47 rfl (sdB_n hw.1) (fun _ h => h) ⟨_, rfl, hw.2⟩
def k_F_takes_46 (o : Nat) (Q : Int32 → sdM → Prop) (M : sdM) : Prop := k_F_takes_47 o Q M (0 : Int32)
set_option maxHeartbeats 1000000 in
theorem t_F_takes_46 {o : Nat} (hA : sd_ad b n ad) (hT : l.stackTraces = false) (ho : isF n L o) {Q : Int32 → sdM → Prop} (M : sdM) (hw : k_F_takes_46 o Q M ) : sdW l (sdE0 sc) Y_F_takes D (sd_tys dA) b n ad L ad (sd_H D (sdE0 sc).1 n ad L) (sd_qi Q) sd_xf 46 [] [] M 0 0 := by
  unfold k_F_takes_46 at hw
  refine x_iconst (v := 0) d_F_takes_46 (by decide) ?_
  exact t_F_takes_47 hA hT ho M (0 : Int32) hw
def k_F_takes_22 (o : Nat) (Q : Int32 → sdM → Prop) (M : sdM) : Prop := k_F_takes_47 o Q M (0 : Int32)
set_option maxHeartbeats 1000000 in
theorem t_F_takes_22 {o : Nat} (hA : sd_ad b n ad) (hT : l.stackTraces = false) (ho : isF n L o) {Q : Int32 → sdM → Prop} (M : sdM) (hw : k_F_takes_22 o Q M ) : sdW l (sdE0 sc) Y_F_takes D (sd_tys dA) b n ad L ad (sd_H D (sdE0 sc).1 n ad L) (sd_qi Q) sd_xf 22 [] [] M 0 0 := by
  unfold k_F_takes_22 at hw
  refine x_iconst (v := 0) d_F_takes_22 (by decide) ?_
  refine x_goto 47 d_F_takes_23 rfl ?_
  exact t_F_takes_47 hA hT ho M (0 : Int32) hw
def w_F_takes (o : Nat) (M : sdM) (a1 : Int32) (Q : Int32 → sdM → Prop) : Prop := ((M o 0) = 0 → (a1 < (M o 1) → k_F_takes_46 o Q M) ∧ (¬ a1 < (M o 1) → ((M o 2) < a1 → k_F_takes_46 o Q M) ∧ (¬ (M o 2) < a1 → k_F_takes_47 o Q M (1 : Int32)))) ∧ (¬ (M o 0) = 0 → (a1 < (1 : Int32) → k_F_takes_22 o Q M) ∧ (¬ a1 < (1 : Int32) → ((100 : Int32) < a1 → k_F_takes_22 o Q M) ∧ (¬ (100 : Int32) < a1 → k_F_takes_47 o Q M (1 : Int32))))
set_option maxHeartbeats 1000000 in
theorem c_F_takes {a1 : Int32} {o : Nat} (hA : sd_ad b n ad) (hT : l.stackTraces = false) (ho : isF n L o) {Q : Int32 → sdM → Prop} {M : sdM} (hw : w_F_takes o M a1 Q) : sd_Cn l (sdE0 sc) y_F_takes Y_F_takes.2.2.2.2.1 Y_F_takes.2.2.2.2.2.1 0 0 D (sd_tys dA) b n ad L M [.ref o, .int a1] (sd_qi Q) sd_xf := by
  refine sd_enter (Y := Y_F_takes) rfl rfl rfl rfl (Nat.le_of_ble_eq_true rfl) ?_
  show sdW l (sdE0 sc) Y_F_takes D (sd_tys dA) b n ad L ad (sd_H D (sdE0 sc).1 n ad L) (sd_qi Q) sd_xf 0 [(0, .ref o), (1, .int a1)] [] M 0 0
  unfold w_F_takes at hw
  refine x_aload_n 0 0 d_F_takes_0 rfl rfl ?_
  refine x_geti 0 d_F_takes_1 ho.1 ho.2 rfl rfl (by decide) lay_F (List.mem_cons_of_mem _ q89) rfl ?_
  refine x_if_eq 26 d_F_takes_4 rfl (fun hc => ?_) (fun hc => ?_)
  · have hw := hw.1 hc
    refine x_iload_n 1 1 d_F_takes_26 rfl rfl ?_
    refine x_aload_n 0 0 d_F_takes_27 rfl rfl ?_
    refine x_geti 1 d_F_takes_28 ho.1 ho.2 rfl rfl (by decide) lay_F (List.mem_cons_of_mem _ q90) rfl ?_
    refine x_icmp_lt 46 d_F_takes_31 rfl (fun hc => ?_) (fun hc => ?_)
    · have hw := hw.1 hc
      refine x_sub [] [] rfl ?_
      exact t_F_takes_46 hA hT ho M hw
    · have hw := hw.2 hc
      refine x_iload_n 1 1 d_F_takes_34 rfl rfl ?_
      refine x_aload_n 0 0 d_F_takes_35 rfl rfl ?_
      refine x_geti 2 d_F_takes_36 ho.1 ho.2 rfl rfl (by decide) lay_F (List.mem_cons_of_mem _ q91) rfl ?_
      refine x_icmp_gt 46 d_F_takes_39 rfl (fun hc => ?_) (fun hc => ?_)
      · have hw := hw.1 hc
        refine x_sub [] [] rfl ?_
        exact t_F_takes_46 hA hT ho M hw
      · have hw := hw.2 hc
        refine x_iconst (v := 1) d_F_takes_42 (by decide) ?_
        refine x_goto 47 d_F_takes_43 rfl ?_
        refine x_sub [] [] rfl ?_
        exact t_F_takes_47 hA hT ho M (1 : Int32) hw
  · have hw := hw.2 hc
    refine x_iload_n 1 1 d_F_takes_7 rfl rfl ?_
    refine x_iconst (v := 1) d_F_takes_8 (by decide) ?_
    refine x_icmp_lt 22 d_F_takes_9 rfl (fun hc => ?_) (fun hc => ?_)
    · have hw := hw.1 hc
      refine x_sub [] [] rfl ?_
      exact t_F_takes_22 hA hT ho M hw
    · have hw := hw.2 hc
      refine x_iload_n 1 1 d_F_takes_12 rfl rfl ?_
      refine x_bipush (v := 100) d_F_takes_13 (by decide) ?_
      refine x_icmp_gt 22 d_F_takes_15 rfl (fun hc => ?_) (fun hc => ?_)
      · have hw := hw.1 hc
        refine x_sub [] [] rfl ?_
        exact t_F_takes_22 hA hT ho M hw
      · have hw := hw.2 hc
        refine x_iconst (v := 1) d_F_takes_18 (by decide) ?_
        refine x_goto 47 d_F_takes_19 rfl ?_
        refine x_sub [] [] rfl ?_
        exact t_F_takes_47 hA hT ho M (1 : Int32) hw
end
theorem q92 : (.fieldLink "SettingsDesk$Schema" 34 "SettingsDesk$Schema" "rules" "[LSettingsDesk$Rule;" : Cond) ∈ sdB0 := sd_tb1 116 rfl rfl
theorem q93 : (.fieldLink "SettingsDesk$Schema" 29 "SettingsDesk$Schema" "ruleCount" "I" : Cond) ∈ sdB0 := sd_tb1 113 rfl rfl
theorem q94 : (.fieldLink "SettingsDesk$Schema" 63 "SettingsDesk$Rule" "ofList" "I" : Cond) ∈ sdB0 := sd_tb1 83 rfl rfl
theorem q95 : (.fieldLink "SettingsDesk$Schema" 66 "SettingsDesk$Rule" "a" "I" : Cond) ∈ sdB0 := sd_tb1 85 rfl rfl
theorem q96 : (.fieldLink "SettingsDesk$Schema" 69 "SettingsDesk$Rule" "value" "I" : Cond) ∈ sdB0 := sd_tb1 87 rfl rfl
theorem q97 : (.fieldLink "SettingsDesk$Schema" 72 "SettingsDesk$Rule" "b" "I" : Cond) ∈ sdB0 := sd_tb1 89 rfl rfl
theorem q98 : (.fieldLink "SettingsDesk$Schema" 75 "SettingsDesk$Rule" "there" "Z" : Cond) ∈ sdB0 := sd_tb1 91 rfl rfl
abbrev y_C_addRule : MethodName := ⟨"SettingsDesk$Schema", "addRule", "(IIIIZ)I"⟩
theorem d_C_addRule_0 : decode prog_7_method_7_code 0 = .ok (.aload_n 0, 1) := by decide +kernel
theorem d_C_addRule_1 : decode prog_7_method_7_code 1 = .ok (.getfield 34, 3) := by decide +kernel
theorem d_C_addRule_4 : decode prog_7_method_7_code 4 = .ok (.aload_n 0, 1) := by decide +kernel
theorem d_C_addRule_5 : decode prog_7_method_7_code 5 = .ok (.getfield 29, 3) := by decide +kernel
theorem d_C_addRule_8 : decode prog_7_method_7_code 8 = .ok (.aaload, 1) := by decide +kernel
theorem d_C_addRule_9 : decode prog_7_method_7_code 9 = .ok (.astore 6, 2) := by decide +kernel
theorem d_C_addRule_11 : decode prog_7_method_7_code 11 = .ok (.aload 6, 2) := by decide +kernel
theorem d_C_addRule_13 : decode prog_7_method_7_code 13 = .ok (.iload_n 1, 1) := by decide +kernel
theorem d_C_addRule_14 : decode prog_7_method_7_code 14 = .ok (.putfield 63, 3) := by decide +kernel
theorem d_C_addRule_17 : decode prog_7_method_7_code 17 = .ok (.aload 6, 2) := by decide +kernel
theorem d_C_addRule_19 : decode prog_7_method_7_code 19 = .ok (.iload_n 2, 1) := by decide +kernel
theorem d_C_addRule_20 : decode prog_7_method_7_code 20 = .ok (.putfield 66, 3) := by decide +kernel
theorem d_C_addRule_23 : decode prog_7_method_7_code 23 = .ok (.aload 6, 2) := by decide +kernel
theorem d_C_addRule_25 : decode prog_7_method_7_code 25 = .ok (.iload_n 3, 1) := by decide +kernel
theorem d_C_addRule_26 : decode prog_7_method_7_code 26 = .ok (.putfield 69, 3) := by decide +kernel
theorem d_C_addRule_29 : decode prog_7_method_7_code 29 = .ok (.aload 6, 2) := by decide +kernel
theorem d_C_addRule_31 : decode prog_7_method_7_code 31 = .ok (.iload 4, 2) := by decide +kernel
theorem d_C_addRule_33 : decode prog_7_method_7_code 33 = .ok (.putfield 72, 3) := by decide +kernel
theorem d_C_addRule_36 : decode prog_7_method_7_code 36 = .ok (.aload 6, 2) := by decide +kernel
theorem d_C_addRule_38 : decode prog_7_method_7_code 38 = .ok (.iload 5, 2) := by decide +kernel
theorem d_C_addRule_40 : decode prog_7_method_7_code 40 = .ok (.putfield 75, 3) := by decide +kernel
theorem d_C_addRule_43 : decode prog_7_method_7_code 43 = .ok (.aload_n 0, 1) := by decide +kernel
theorem d_C_addRule_44 : decode prog_7_method_7_code 44 = .ok (.dup, 1) := by decide +kernel
theorem d_C_addRule_45 : decode prog_7_method_7_code 45 = .ok (.getfield 29, 3) := by decide +kernel
theorem d_C_addRule_48 : decode prog_7_method_7_code 48 = .ok (.iconst 1, 1) := by decide +kernel
theorem d_C_addRule_49 : decode prog_7_method_7_code 49 = .ok (.iadd, 1) := by decide +kernel
theorem d_C_addRule_50 : decode prog_7_method_7_code 50 = .ok (.putfield 29, 3) := by decide +kernel
theorem d_C_addRule_53 : decode prog_7_method_7_code 53 = .ok (.aload_n 0, 1) := by decide +kernel
theorem d_C_addRule_54 : decode prog_7_method_7_code 54 = .ok (.getfield 29, 3) := by decide +kernel
theorem d_C_addRule_57 : decode prog_7_method_7_code 57 = .ok (.iconst 1, 1) := by decide +kernel
theorem d_C_addRule_58 : decode prog_7_method_7_code 58 = .ok (.isub, 1) := by decide +kernel
theorem d_C_addRule_59 : decode prog_7_method_7_code 59 = .ok (.ireturn, 1) := by decide +kernel
def Y_C_addRule : sdY := ("SettingsDesk$Schema", prog_7_method_7_code, 7, (some .int), .code y_C_addRule prog_7_method_7_code 7 (some .int) :: sdB0, { frames := 0, cells := 0, slots := 0, locals := 0 }, 0, 0, [])
section
variable {l : Launch} {D : va_G} {dA : Nat → ClassId} {b n : Nat} {ad : Nat → Nat} {L : Nat → sdL} {sc : Option (Nat × Nat × (Nat → Int32))}
def w_C_addRule (M : sdM) (a1 : Int32) (a2 : Int32) (a3 : Int32) (a4 : Int32) (a5 : Int32) (Q : Int32 → sdM → Prop) : Prop := vp_in (M 1 4) 4 ∧ ∀ M16 : sdM, M16 = sd_s M (21 + (M 1 4).toNatClampNeg) 0 a1 → ∀ M18 : sdM, M18 = sd_s M16 (21 + (M 1 4).toNatClampNeg) 1 a2 → ∀ M20 : sdM, M20 = sd_s M18 (21 + (M 1 4).toNatClampNeg) 2 a3 → ∀ M22 : sdM, M22 = sd_s M20 (21 + (M 1 4).toNatClampNeg) 3 a4 → sdB a5 ∧ ∀ M24 : sdM, M24 = sd_s M22 (21 + (M 1 4).toNatClampNeg) 4 a5 → ∀ M27 : sdM, M27 = sd_s M24 1 4 ((M24 1 4) + (1 : Int32)) → Q ((M27 1 4) - (1 : Int32)) M27
set_option maxHeartbeats 1000000 in
theorem c_C_addRule {a1 : Int32} {a2 : Int32} {a3 : Int32} {a4 : Int32} {a5 : Int32} (hA : sd_ad b n ad) (hT : l.stackTraces = false) (hC : isC n L dA) {Q : Int32 → sdM → Prop} {M : sdM} (hw : w_C_addRule M a1 a2 a3 a4 a5 Q) : sd_Cn l (sdE0 sc) y_C_addRule Y_C_addRule.2.2.2.2.1 Y_C_addRule.2.2.2.2.2.1 0 0 D (sd_tys dA) b n ad L M [.ref 1, .int a1, .int a2, .int a3, .int a4, .int a5] (sd_qi Q) sd_xf := by
  refine sd_enter (Y := Y_C_addRule) rfl rfl rfl rfl (Nat.le_of_ble_eq_true rfl) ?_
  show sdW l (sdE0 sc) Y_C_addRule D (sd_tys dA) b n ad L ad (sd_H D (sdE0 sc).1 n ad L) (sd_qi Q) sd_xf 0 [(0, .ref 1), (1, .int a1), (2, .int a2), (3, .int a3), (4, .int a4), (5, .int a5)] [] M 0 0
  unfold w_C_addRule at hw
  refine x_aload_n 0 0 d_C_addRule_0 rfl rfl ?_
  refine x_getr 5 4 d_C_addRule_1 hC.1 hC.2.1 rfl rfl (by decide) lay_C (List.mem_cons_of_mem _ q92) rfl ?_
  refine x_aload_n 0 0 d_C_addRule_4 rfl rfl ?_
  refine x_geti 4 d_C_addRule_5 hC.1 hC.2.1 rfl rfl (by decide) lay_C (List.mem_cons_of_mem _ q93) rfl ?_
  obtain ⟨hi15, hw⟩ := hw
  refine x_aald (21 + (M 1 4).toNatClampNeg) d_C_addRule_8 hC.rules.1 hC.rules.2 (t0 := 4) rfl hi15 rfl ?_
  refine x_astore 6 [(6, .ref (21 + (M 1 4).toNatClampNeg)), (0, .ref 1), (1, .int a1), (2, .int a2), (3, .int a3), (4, .int a4), (5, .int a5)] d_C_addRule_9 (by decide) rfl ?_
  refine x_aload 6 0 d_C_addRule_11 rfl ?_
  refine x_iload_n 1 2 d_C_addRule_13 rfl rfl ?_
  refine x_puti 0 (ty := .int) hA d_C_addRule_14 (hC.rulesAt hi15).1 (hC.rulesAt hi15).2 rfl rfl (by decide) lay_R (List.mem_cons_of_mem _ q94) rfl ty_R ty_R_ok nm_R rfl (by decide +kernel) rfl rfl (fun M16 e17 => ?_)
  have hw := hw M16 e17
  clear e17
  refine x_aload 6 0 d_C_addRule_17 rfl ?_
  refine x_iload_n 2 3 d_C_addRule_19 rfl rfl ?_
  refine x_puti 1 (ty := .int) hA d_C_addRule_20 (hC.rulesAt hi15).1 (hC.rulesAt hi15).2 rfl rfl (by decide) lay_R (List.mem_cons_of_mem _ q95) rfl ty_R ty_R_ok nm_R rfl (by decide +kernel) rfl rfl (fun M18 e19 => ?_)
  have hw := hw M18 e19
  clear e19
  refine x_aload 6 0 d_C_addRule_23 rfl ?_
  refine x_iload_n 3 4 d_C_addRule_25 rfl rfl ?_
  refine x_puti 2 (ty := .int) hA d_C_addRule_26 (hC.rulesAt hi15).1 (hC.rulesAt hi15).2 rfl rfl (by decide) lay_R (List.mem_cons_of_mem _ q96) rfl ty_R ty_R_ok nm_R rfl (by decide +kernel) rfl rfl (fun M20 e21 => ?_)
  have hw := hw M20 e21
  clear e21
  refine x_aload 6 0 d_C_addRule_29 rfl ?_
  refine x_iload 4 5 d_C_addRule_31 rfl ?_
  refine x_puti 3 (ty := .int) hA d_C_addRule_33 (hC.rulesAt hi15).1 (hC.rulesAt hi15).2 rfl rfl (by decide) lay_R (List.mem_cons_of_mem _ q97) rfl ty_R ty_R_ok nm_R rfl (by decide +kernel) rfl rfl (fun M22 e23 => ?_)
  have hw := hw M22 e23
  clear e23
  refine x_aload 6 0 d_C_addRule_36 rfl ?_
  refine x_iload 5 6 d_C_addRule_38 rfl ?_
  obtain ⟨hb26, hw⟩ := hw
  refine x_puti 4 (ty := .boolean) hA d_C_addRule_40 (hC.rulesAt hi15).1 (hC.rulesAt hi15).2 rfl rfl (by decide) lay_R (List.mem_cons_of_mem _ q98) rfl ty_R ty_R_ok nm_R rfl (by decide +kernel) (sdB_n hb26) (sdB_f hb26) (fun M24 e25 => ?_)
  have hw := hw M24 e25
  clear e25
  refine x_aload_n 0 1 d_C_addRule_43 rfl rfl ?_
  refine x_dup d_C_addRule_44 rfl ?_
  refine x_geti 4 d_C_addRule_45 hC.1 hC.2.1 rfl rfl (by decide) lay_C (List.mem_cons_of_mem _ q93) rfl ?_
  refine x_iconst (v := 1) d_C_addRule_48 (by decide) ?_
  refine x_iadd d_C_addRule_49 ?_
  refine x_puti 4 (ty := .int) hA d_C_addRule_50 hC.1 hC.2.1 rfl rfl (by decide) lay_C (List.mem_cons_of_mem _ q93) rfl ty_C ty_C_ok nm_C rfl (by decide +kernel) rfl rfl (fun M27 e28 => ?_)
  have hw := hw M27 e28
  clear e28
  refine x_aload_n 0 1 d_C_addRule_53 rfl rfl ?_
  refine x_geti 4 d_C_addRule_54 hC.1 hC.2.1 rfl rfl (by decide) lay_C (List.mem_cons_of_mem _ q93) rfl ?_
  refine x_iconst (v := 1) d_C_addRule_57 (by decide) ?_
  refine x_isub d_C_addRule_58 ?_
  exact x_iret d_C_addRule_59 rfl (fun _ h => h) ⟨_, rfl, hw⟩
end
abbrev y_T_note : MethodName := ⟨"SettingsDesk$Trouble", "note", "(IIII)V"⟩
theorem d_T_note_0 : decode prog_10_method_2_code 0 = .ok (.aload_n 0, 1) := by decide +kernel
theorem d_T_note_1 : decode prog_10_method_2_code 1 = .ok (.iload_n 1, 1) := by decide +kernel
theorem d_T_note_2 : decode prog_10_method_2_code 2 = .ok (.putfield 7, 3) := by decide +kernel
theorem d_T_note_5 : decode prog_10_method_2_code 5 = .ok (.aload_n 0, 1) := by decide +kernel
theorem d_T_note_6 : decode prog_10_method_2_code 6 = .ok (.iload_n 2, 1) := by decide +kernel
theorem d_T_note_7 : decode prog_10_method_2_code 7 = .ok (.putfield 13, 3) := by decide +kernel
theorem d_T_note_10 : decode prog_10_method_2_code 10 = .ok (.aload_n 0, 1) := by decide +kernel
theorem d_T_note_11 : decode prog_10_method_2_code 11 = .ok (.iload_n 3, 1) := by decide +kernel
theorem d_T_note_12 : decode prog_10_method_2_code 12 = .ok (.putfield 16, 3) := by decide +kernel
theorem d_T_note_15 : decode prog_10_method_2_code 15 = .ok (.aload_n 0, 1) := by decide +kernel
theorem d_T_note_16 : decode prog_10_method_2_code 16 = .ok (.iload 4, 2) := by decide +kernel
theorem d_T_note_18 : decode prog_10_method_2_code 18 = .ok (.putfield 19, 3) := by decide +kernel
theorem d_T_note_21 : decode prog_10_method_2_code 21 = .ok (.return_, 1) := by decide +kernel
def Y_T_note : sdY := ("SettingsDesk$Trouble", prog_10_method_2_code, 5, none, .code y_T_note prog_10_method_2_code 5 none :: sdB0, { frames := 0, cells := 0, slots := 0, locals := 0 }, 0, 0, [])
section
variable {l : Launch} {D : va_G} {dA : Nat → ClassId} {b n : Nat} {ad : Nat → Nat} {L : Nat → sdL} {sc : Option (Nat × Nat × (Nat → Int32))}
def w_T_note (o : Nat) (M : sdM) (a1 : Int32) (a2 : Int32) (a3 : Int32) (a4 : Int32) (Q : sdM → Prop) : Prop := ∀ M9 : sdM, M9 = sd_s M o 0 a1 → ∀ M11 : sdM, M11 = sd_s M9 o 1 a2 → ∀ M13 : sdM, M13 = sd_s M11 o 2 a3 → ∀ M15 : sdM, M15 = sd_s M13 o 3 a4 → Q M15
set_option maxHeartbeats 1000000 in
theorem c_T_note {a1 : Int32} {a2 : Int32} {a3 : Int32} {a4 : Int32} {o : Nat} (hA : sd_ad b n ad) (hT : l.stackTraces = false) (ho : isT n L o) {Q : sdM → Prop} {M : sdM} (hw : w_T_note o M a1 a2 a3 a4 Q) : sd_Cn l (sdE0 sc) y_T_note Y_T_note.2.2.2.2.1 Y_T_note.2.2.2.2.2.1 0 0 D (sd_tys dA) b n ad L M [.ref o, .int a1, .int a2, .int a3, .int a4] (sd_qv Q) sd_xf := by
  refine sd_enter (Y := Y_T_note) rfl rfl rfl rfl (Nat.le_of_ble_eq_true rfl) ?_
  show sdW l (sdE0 sc) Y_T_note D (sd_tys dA) b n ad L ad (sd_H D (sdE0 sc).1 n ad L) (sd_qv Q) sd_xf 0 [(0, .ref o), (1, .int a1), (2, .int a2), (3, .int a3), (4, .int a4)] [] M 0 0
  unfold w_T_note at hw
  refine x_aload_n 0 0 d_T_note_0 rfl rfl ?_
  refine x_iload_n 1 1 d_T_note_1 rfl rfl ?_
  refine x_puti 0 (ty := .int) hA d_T_note_2 ho.1 ho.2 rfl rfl (by decide) lay_T (List.mem_cons_of_mem _ q68) rfl ty_T ty_T_ok nm_T rfl (by decide +kernel) rfl rfl (fun M9 e10 => ?_)
  have hw := hw M9 e10
  clear e10
  refine x_aload_n 0 0 d_T_note_5 rfl rfl ?_
  refine x_iload_n 2 2 d_T_note_6 rfl rfl ?_
  refine x_puti 1 (ty := .int) hA d_T_note_7 ho.1 ho.2 rfl rfl (by decide) lay_T (List.mem_cons_of_mem _ q69) rfl ty_T ty_T_ok nm_T rfl (by decide +kernel) rfl rfl (fun M11 e12 => ?_)
  have hw := hw M11 e12
  clear e12
  refine x_aload_n 0 0 d_T_note_10 rfl rfl ?_
  refine x_iload_n 3 3 d_T_note_11 rfl rfl ?_
  refine x_puti 2 (ty := .int) hA d_T_note_12 ho.1 ho.2 rfl rfl (by decide) lay_T (List.mem_cons_of_mem _ q70) rfl ty_T ty_T_ok nm_T rfl (by decide +kernel) rfl rfl (fun M13 e14 => ?_)
  have hw := hw M13 e14
  clear e14
  refine x_aload_n 0 0 d_T_note_15 rfl rfl ?_
  refine x_iload 4 4 d_T_note_16 rfl ?_
  refine x_puti 3 (ty := .int) hA d_T_note_18 ho.1 ho.2 rfl rfl (by decide) lay_T (List.mem_cons_of_mem _ q71) rfl ty_T ty_T_ok nm_T rfl (by decide +kernel) rfl rfl (fun M15 e16 => ?_)
  have hw := hw M15 e16
  clear e16
  exact x_vret d_T_note_21 rfl (fun _ h => h) ⟨rfl, hw⟩
end
theorem q99 : (.fieldLink "SettingsDesk$Session" 16 "SettingsDesk$Session" "candidate" "LSettingsDesk$Settings;" : Cond) ∈ sdB0 := sd_tb1 189 rfl rfl
theorem q100 : (.fieldLink "SettingsDesk$Session" 20 "SettingsDesk$Session" "base" "LSettingsDesk$Settings;" : Cond) ∈ sdB0 := sd_tb1 192 rfl rfl
theorem q101 : (.methodLink "SettingsDesk$Session" 23 ⟨"SettingsDesk$Settings", "copyFrom", "(LSettingsDesk$Settings;)V"⟩ : Cond) ∈ sdB0 := sd_tb3 102 rfl rfl
theorem q102 : (.code ⟨"SettingsDesk$Settings", "copyFrom", "(LSettingsDesk$Settings;)V"⟩ prog_9_method_2_code 2 none : Cond) ∈ sdB0 := sd_tb2 43 rfl rfl
theorem q103 : (.instanceMethod ⟨"SettingsDesk$Settings", "copyFrom", "(LSettingsDesk$Settings;)V"⟩ : Cond) ∈ sdB0 := sd_tb2 41 rfl rfl
theorem q104 : (.selects "SettingsDesk$Settings" ⟨"SettingsDesk$Settings", "copyFrom", "(LSettingsDesk$Settings;)V"⟩ ⟨"SettingsDesk$Settings", "copyFrom", "(LSettingsDesk$Settings;)V"⟩ : Cond) ∈ sdB0 := sd_tb2 42 rfl rfl
abbrev y_N_takeOver : MethodName := ⟨"SettingsDesk$Session", "takeOver", "(LSettingsDesk$Settings;LSettingsDesk$Settings;)V"⟩
theorem d_N_takeOver_0 : decode prog_8_method_2_code 0 = .ok (.aload_n 0, 1) := by decide +kernel
theorem d_N_takeOver_1 : decode prog_8_method_2_code 1 = .ok (.getfield 16, 3) := by decide +kernel
theorem d_N_takeOver_4 : decode prog_8_method_2_code 4 = .ok (.aload_n 1, 1) := by decide +kernel
theorem d_N_takeOver_5 : decode prog_8_method_2_code 5 = .ok (.invokevirtual 23, 3) := by decide +kernel
theorem d_N_takeOver_8 : decode prog_8_method_2_code 8 = .ok (.aload_n 0, 1) := by decide +kernel
theorem d_N_takeOver_9 : decode prog_8_method_2_code 9 = .ok (.getfield 20, 3) := by decide +kernel
theorem d_N_takeOver_12 : decode prog_8_method_2_code 12 = .ok (.aload_n 2, 1) := by decide +kernel
theorem d_N_takeOver_13 : decode prog_8_method_2_code 13 = .ok (.invokevirtual 23, 3) := by decide +kernel
theorem d_N_takeOver_16 : decode prog_8_method_2_code 16 = .ok (.return_, 1) := by decide +kernel
def Y_N_takeOver : sdY := ("SettingsDesk$Session", prog_8_method_2_code, 3, none, .code y_N_takeOver prog_8_method_2_code 3 none :: sdB0, { frames := 2, cells := 0, slots := 0, locals := 39 }, 0, 0, [])
theorem cw_N_takeOver_S_copyFrom_23 : sd_cwV Y_N_takeOver Y_S_copyFrom y_S_copyFrom 23 1 "SettingsDesk$Settings" := ⟨sd_goodV q101 q103 q104 q7 q102, ⟨_, rfl⟩, ⟨rfl, rfl, rfl, rfl⟩, ⟨rfl, by decide, by decide, by decide +kernel⟩, ⟨by decide, by decide⟩⟩
section
variable {l : Launch} {D : va_G} {dA : Nat → ClassId} {b n : Nat} {ad : Nat → Nat} {L : Nat → sdL} {sc : Option (Nat × Nat × (Nat → Int32))}
def w_N_takeOver (o : Nat) (M : sdM) (p1 : Nat) (p2 : Nat) (Q : sdM → Prop) : Prop := w_S_copyFrom (o + 1) M p1 (fun M3 => w_S_copyFrom (o + 6) M3 p2 (fun M4 => Q M4))
set_option maxHeartbeats 1000000 in
theorem c_N_takeOver {p1 : Nat} {p2 : Nat} {o : Nat} (hA : sd_ad b n ad) (hT : l.stackTraces = false) (ho : isN n L dA o) (hp1 : isS n L dA p1) (hp2 : isS n L dA p2) {Q : sdM → Prop} {M : sdM} (hw : w_N_takeOver o M p1 p2 Q) : sd_Cn l (sdE0 sc) y_N_takeOver Y_N_takeOver.2.2.2.2.1 Y_N_takeOver.2.2.2.2.2.1 0 0 D (sd_tys dA) b n ad L M [.ref o, .ref p1, .ref p2] (sd_qv Q) sd_xf := by
  refine sd_enter (Y := Y_N_takeOver) rfl rfl rfl rfl (Nat.le_of_ble_eq_true rfl) ?_
  show sdW l (sdE0 sc) Y_N_takeOver D (sd_tys dA) b n ad L ad (sd_H D (sdE0 sc).1 n ad L) (sd_qv Q) sd_xf 0 [(0, .ref o), (1, .ref p1), (2, .ref p2)] [] M 0 0
  unfold w_N_takeOver at hw
  refine x_aload_n 0 0 d_N_takeOver_0 rfl rfl ?_
  refine x_getr 1 (o + 1) d_N_takeOver_1 ho.1 ho.2.1 rfl rfl (by decide) lay_N (List.mem_cons_of_mem _ q99) rfl ?_
  refine x_aload_n 1 1 d_N_takeOver_4 rfl rfl ?_
  refine x_callVv (As := [.ref p1]) (t := (o + 1)) (rest := []) (rc := 0) (rs := 0) (c_S_copyFrom hA hT ho.candidate hp1 hw) cw_N_takeOver_S_copyFrom_23 ho.candidate.1 ho.candidate.2.1 rfl d_N_takeOver_5 rfl rfl (Nat.le_of_ble_eq_true rfl) rfl (fun _ _ h => h.elim) (fun _ _ h => h) (fun M3 hw => ?_)
  refine x_aload_n 0 0 d_N_takeOver_8 rfl rfl ?_
  refine x_getr 2 (o + 6) d_N_takeOver_9 ho.1 ho.2.1 rfl rfl (by decide) lay_N (List.mem_cons_of_mem _ q100) rfl ?_
  refine x_aload_n 2 2 d_N_takeOver_12 rfl rfl ?_
  refine x_callVv (As := [.ref p2]) (t := (o + 6)) (rest := []) (rc := 0) (rs := 0) (c_S_copyFrom hA hT ho.base hp2 hw) cw_N_takeOver_S_copyFrom_23 ho.base.1 ho.base.2.1 rfl d_N_takeOver_13 rfl rfl (Nat.le_of_ble_eq_true rfl) rfl (fun _ _ h => h.elim) (fun _ _ h => h) (fun M4 hw => ?_)
  exact x_vret d_N_takeOver_16 rfl (fun _ h => h) ⟨rfl, hw⟩
end
