theorem q243 : (.fieldLink "SettingsDesk" 19 "SettingsDesk" "running" "LSettingsDesk$Settings;" : Cond) ∈ sdB0 := sd_tb1 201 rfl rfl
theorem q244 : (.fieldLink "SettingsDesk" 29 "SettingsDesk" "older" "[LSettingsDesk$Settings;" : Cond) ∈ sdB0 := sd_tb1 204 rfl rfl
theorem q245 : (.fieldLink "SettingsDesk" 46 "SettingsDesk" "changes" "I" : Cond) ∈ sdB0 := sd_tb1 207 rfl rfl
theorem q246 : (.methodLink "SettingsDesk" 320 ⟨"SettingsDesk$Settings", "sameAs", "(LSettingsDesk$Settings;)Z"⟩ : Cond) ∈ sdB0 := sd_tb2 5 rfl rfl
theorem q247 : (.code ⟨"SettingsDesk$Settings", "sameAs", "(LSettingsDesk$Settings;)Z"⟩ prog_9_method_22_code 3 (some .boolean) : Cond) ∈ sdB0 := sd_tb2 8 rfl rfl
theorem q248 : (.instanceMethod ⟨"SettingsDesk$Settings", "sameAs", "(LSettingsDesk$Settings;)Z"⟩ : Cond) ∈ sdB0 := sd_tb2 6 rfl rfl
theorem q249 : (.selects "SettingsDesk$Settings" ⟨"SettingsDesk$Settings", "sameAs", "(LSettingsDesk$Settings;)Z"⟩ ⟨"SettingsDesk$Settings", "sameAs", "(LSettingsDesk$Settings;)Z"⟩ : Cond) ∈ sdB0 := sd_tb2 7 rfl rfl
theorem q250 : (.methodLink "SettingsDesk" 317 ⟨"java/lang/Math", "floorMod", "(II)I"⟩ : Cond) ∈ sdB0 := sd_tb2 37 rfl rfl
theorem q251 : (.code ⟨"java/lang/Math", "floorMod", "(II)I"⟩ prog_17_method_50_code 3 (some .int) : Cond) ∈ sdB0 := sd_tb2 39 rfl rfl
theorem q252 : (.static ⟨"java/lang/Math", "floorMod", "(II)I"⟩ : Cond) ∈ sdB0 := sd_tb2 38 rfl rfl
theorem q253 : (.methodLink "SettingsDesk" 275 ⟨"SettingsDesk$Settings", "copyFrom", "(LSettingsDesk$Settings;)V"⟩ : Cond) ∈ sdB0 := sd_tb2 40 rfl rfl
abbrev y_D_changeTo : MethodName := ⟨"SettingsDesk", "changeTo", "(LSettingsDesk$Settings;)Z"⟩
theorem d_D_changeTo_0 : decode prog_1_method_33_code 0 = .ok (.aload_n 0, 1) := by decide +kernel
theorem d_D_changeTo_1 : decode prog_1_method_33_code 1 = .ok (.getfield 19, 3) := by decide +kernel
theorem d_D_changeTo_4 : decode prog_1_method_33_code 4 = .ok (.aload_n 1, 1) := by decide +kernel
theorem d_D_changeTo_5 : decode prog_1_method_33_code 5 = .ok (.invokevirtual 320, 3) := by decide +kernel
theorem d_D_changeTo_8 : decode prog_1_method_33_code 8 = .ok (.ifCond .eq (5), 3) := by decide +kernel
theorem d_D_changeTo_11 : decode prog_1_method_33_code 11 = .ok (.iconst 0, 1) := by decide +kernel
theorem d_D_changeTo_12 : decode prog_1_method_33_code 12 = .ok (.ireturn, 1) := by decide +kernel
theorem d_D_changeTo_13 : decode prog_1_method_33_code 13 = .ok (.aload_n 0, 1) := by decide +kernel
theorem d_D_changeTo_14 : decode prog_1_method_33_code 14 = .ok (.getfield 29, 3) := by decide +kernel
theorem d_D_changeTo_17 : decode prog_1_method_33_code 17 = .ok (.aload_n 0, 1) := by decide +kernel
theorem d_D_changeTo_18 : decode prog_1_method_33_code 18 = .ok (.getfield 46, 3) := by decide +kernel
theorem d_D_changeTo_21 : decode prog_1_method_33_code 21 = .ok (.bipush (8), 2) := by decide +kernel
theorem d_D_changeTo_23 : decode prog_1_method_33_code 23 = .ok (.invokestatic 317, 3) := by decide +kernel
theorem d_D_changeTo_26 : decode prog_1_method_33_code 26 = .ok (.aaload, 1) := by decide +kernel
theorem d_D_changeTo_27 : decode prog_1_method_33_code 27 = .ok (.aload_n 0, 1) := by decide +kernel
theorem d_D_changeTo_28 : decode prog_1_method_33_code 28 = .ok (.getfield 19, 3) := by decide +kernel
theorem d_D_changeTo_31 : decode prog_1_method_33_code 31 = .ok (.invokevirtual 275, 3) := by decide +kernel
theorem d_D_changeTo_34 : decode prog_1_method_33_code 34 = .ok (.aload_n 0, 1) := by decide +kernel
theorem d_D_changeTo_35 : decode prog_1_method_33_code 35 = .ok (.getfield 19, 3) := by decide +kernel
theorem d_D_changeTo_38 : decode prog_1_method_33_code 38 = .ok (.aload_n 1, 1) := by decide +kernel
theorem d_D_changeTo_39 : decode prog_1_method_33_code 39 = .ok (.invokevirtual 275, 3) := by decide +kernel
theorem d_D_changeTo_42 : decode prog_1_method_33_code 42 = .ok (.aload_n 0, 1) := by decide +kernel
theorem d_D_changeTo_43 : decode prog_1_method_33_code 43 = .ok (.dup, 1) := by decide +kernel
theorem d_D_changeTo_44 : decode prog_1_method_33_code 44 = .ok (.getfield 46, 3) := by decide +kernel
theorem d_D_changeTo_47 : decode prog_1_method_33_code 47 = .ok (.iconst 1, 1) := by decide +kernel
theorem d_D_changeTo_48 : decode prog_1_method_33_code 48 = .ok (.iadd, 1) := by decide +kernel
theorem d_D_changeTo_49 : decode prog_1_method_33_code 49 = .ok (.putfield 46, 3) := by decide +kernel
theorem d_D_changeTo_52 : decode prog_1_method_33_code 52 = .ok (.iconst 1, 1) := by decide +kernel
theorem d_D_changeTo_53 : decode prog_1_method_33_code 53 = .ok (.ireturn, 1) := by decide +kernel
def Y_D_changeTo : sdY := ("SettingsDesk", prog_1_method_33_code, 2, (some .boolean), .code y_D_changeTo prog_1_method_33_code 2 (some .boolean) :: sdB0, { frames := 5, cells := 0, slots := 0, locals := 115 }, 0, 0)
theorem cw_D_changeTo_S_sameAs_320 : sd_cwV Y_D_changeTo Y_S_sameAs y_S_sameAs 320 1 "SettingsDesk$Settings" := ⟨sd_goodV q246 q248 q249 q7 q247, ⟨_, rfl⟩, ⟨rfl, rfl, rfl, rfl⟩, ⟨rfl, by decide, by decide, by decide +kernel⟩, ⟨by decide, by decide⟩⟩
theorem cw_D_changeTo_JM_floorMod_317 : sd_cwS Y_D_changeTo Y_JM_floorMod y_JM_floorMod 317 2 := ⟨sd_goodS q250 q252 q58 q251, ⟨_, rfl⟩, ⟨rfl, rfl, rfl, rfl⟩, ⟨by decide, by decide, by decide +kernel⟩, ⟨by decide, by decide⟩⟩
theorem cw_D_changeTo_S_copyFrom_275 : sd_cwV Y_D_changeTo Y_S_copyFrom y_S_copyFrom 275 1 "SettingsDesk$Settings" := ⟨sd_goodV q253 q98 q99 q7 q97, ⟨_, rfl⟩, ⟨rfl, rfl, rfl, rfl⟩, ⟨rfl, by decide, by decide, by decide +kernel⟩, ⟨by decide, by decide⟩⟩
section
variable {l : Launch} {D : va_G} {dA : Nat → ClassId} {b n : Nat} {ad : Nat → Nat} {L : Nat → sdL} {sc : Option (Nat × Nat × (Nat → Int32))}
def w_D_changeTo (M : sdM) (p1 : Nat) (Q : Int32 → sdM → Prop) : Prop := w_S_sameAs 25 M p1 (fun r11 M10 => (r11 = 0 → w_JM_floorMod M10 (M10 0 7) (8 : Int32) (fun r13 M12 => vp_in r13 8 ∧ w_S_copyFrom (43 + 5 * r13.toNatClampNeg) M12 25 (fun M15 => w_S_copyFrom 25 M15 p1 (fun M16 => ∀ M17 : sdM, M17 = sd_s M16 0 7 ((M16 0 7) + (1 : Int32)) → sdB (1 : Int32) ∧ Q (1 : Int32) M17)))) ∧ (¬ r11 = 0 → sdB (0 : Int32) ∧ Q (0 : Int32) M10))
set_option maxHeartbeats 1000000 in
theorem c_D_changeTo {p1 : Nat} (hA : sd_ad b n ad) (hT : l.stackTraces = false) (hD : isD n L dA) (hp1 : isS n L dA p1) {Q : Int32 → sdM → Prop} {M : sdM} (hw : w_D_changeTo M p1 Q) : sd_Cn l (sdE0 sc) y_D_changeTo Y_D_changeTo.2.2.2.2.1 Y_D_changeTo.2.2.2.2.2.1 0 0 D (sd_tys dA) b n ad L M [.ref 0, .ref p1] (sd_qi Q) sd_xf := by
  refine sd_enter (Y := Y_D_changeTo) rfl rfl rfl (Nat.le_of_ble_eq_true rfl) ?_
  show sdW l (sdE0 sc) Y_D_changeTo D (sd_tys dA) b n ad L ad (sd_H D (sdE0 sc).1 n ad L) (sd_qi Q) sd_xf 0 [(0, .ref 0), (1, .ref p1)] [] M 0 0
  unfold w_D_changeTo at hw
  refine x_aload_n 0 0 d_D_changeTo_0 rfl rfl ?_
  refine x_getr 1 25 d_D_changeTo_1 hD.1 hD.2.1 rfl rfl (by decide) lay_D (List.mem_cons_of_mem _ q243) rfl ?_
  refine x_aload_n 1 1 d_D_changeTo_4 rfl rfl ?_
  refine x_callVi (As := [.ref p1]) (t := 25) (rest := []) (rc := 0) (rs := 0) (c_S_sameAs hA hT hD.running hp1 hw) cw_D_changeTo_S_sameAs_320 hD.running.1 hD.running.2.1 rfl d_D_changeTo_5 rfl rfl (Nat.le_of_ble_eq_true rfl) (fun _ _ h => h.elim) (fun _ _ h => h) (fun r11 M10 hw => ?_)
  refine x_if_eq 13 d_D_changeTo_8 rfl (fun hc => ?_) (fun hc => ?_)
  · have hw := hw.1 hc
    refine x_aload_n 0 0 d_D_changeTo_13 rfl rfl ?_
    refine x_getr 4 40 d_D_changeTo_14 hD.1 hD.2.1 rfl rfl (by decide) lay_D (List.mem_cons_of_mem _ q244) rfl ?_
    refine x_aload_n 0 0 d_D_changeTo_17 rfl rfl ?_
    refine x_geti 7 d_D_changeTo_18 hD.1 hD.2.1 rfl rfl (by decide) lay_D (List.mem_cons_of_mem _ q245) rfl ?_
    refine x_bipush (v := 8) d_D_changeTo_21 (by decide) ?_
    refine x_callSi (As := [.int (M10 0 7), .int (8 : Int32)]) (rest := [.ref 40]) (rc := 0) (rs := 0) (c_JM_floorMod hA hT  hw) cw_D_changeTo_JM_floorMod_317 d_D_changeTo_23 rfl rfl (Nat.le_of_ble_eq_true rfl) (fun _ _ h => h.elim) (fun _ _ h => h) (fun r13 M12 hw => ?_)
    obtain ⟨hi14, hw⟩ := hw
    refine x_aald (43 + 5 * r13.toNatClampNeg) d_D_changeTo_26 hD.older.1 hD.older.2 (t0 := 5) rfl hi14 rfl ?_
    refine x_aload_n 0 0 d_D_changeTo_27 rfl rfl ?_
    refine x_getr 1 25 d_D_changeTo_28 hD.1 hD.2.1 rfl rfl (by decide) lay_D (List.mem_cons_of_mem _ q243) rfl ?_
    refine x_callVv (As := [.ref 25]) (t := (43 + 5 * r13.toNatClampNeg)) (rest := []) (rc := 0) (rs := 0) (c_S_copyFrom hA hT (hD.olderAt hi14) hD.running hw) cw_D_changeTo_S_copyFrom_275 (hD.olderAt hi14).1 (hD.olderAt hi14).2.1 rfl d_D_changeTo_31 rfl rfl (Nat.le_of_ble_eq_true rfl) (fun _ _ h => h.elim) (fun _ _ h => h) (fun M15 hw => ?_)
    refine x_aload_n 0 0 d_D_changeTo_34 rfl rfl ?_
    refine x_getr 1 25 d_D_changeTo_35 hD.1 hD.2.1 rfl rfl (by decide) lay_D (List.mem_cons_of_mem _ q243) rfl ?_
    refine x_aload_n 1 1 d_D_changeTo_38 rfl rfl ?_
    refine x_callVv (As := [.ref p1]) (t := 25) (rest := []) (rc := 0) (rs := 0) (c_S_copyFrom hA hT hD.running hp1 hw) cw_D_changeTo_S_copyFrom_275 hD.running.1 hD.running.2.1 rfl d_D_changeTo_39 rfl rfl (Nat.le_of_ble_eq_true rfl) (fun _ _ h => h.elim) (fun _ _ h => h) (fun M16 hw => ?_)
    refine x_aload_n 0 0 d_D_changeTo_42 rfl rfl ?_
    refine x_dup d_D_changeTo_43 rfl ?_
    refine x_geti 7 d_D_changeTo_44 hD.1 hD.2.1 rfl rfl (by decide) lay_D (List.mem_cons_of_mem _ q245) rfl ?_
    refine x_iconst (v := 1) d_D_changeTo_47 (by decide) ?_
    refine x_iadd d_D_changeTo_48 ?_
    refine x_puti 7 (ty := .int) hA d_D_changeTo_49 hD.1 hD.2.1 rfl rfl (by decide) lay_D (List.mem_cons_of_mem _ q245) rfl ty_D ty_D_ok nm_D rfl (by decide +kernel) rfl rfl (fun M17 e18 => ?_)
    have hw := hw M17 e18
    clear e18
    refine x_iconst (v := 1) d_D_changeTo_52 (by decide) ?_
    exact x_zret d_D_changeTo_53 rfl (sdB_n hw.1) (fun _ h => h) ⟨_, rfl, hw.2⟩
  · have hw := hw.2 hc
    refine x_iconst (v := 0) d_D_changeTo_11 (by decide) ?_
    exact x_zret d_D_changeTo_12 rfl (sdB_n hw.1) (fun _ h => h) ⟨_, rfl, hw.2⟩
end
theorem q254 : (.fieldLink "SettingsDesk" 56 "SettingsDesk" "powerOff" "Z" : Cond) ∈ sdB0 := sd_tb1 210 rfl rfl
theorem q255 : (.fieldLink "SettingsDesk" 23 "SettingsDesk" "saved" "LSettingsDesk$Settings;" : Cond) ∈ sdB0 := sd_tb1 202 rfl rfl
theorem q256 : (.fieldLink "SettingsDesk" 53 "SettingsDesk" "lockOwner" "I" : Cond) ∈ sdB0 := sd_tb1 209 rfl rfl
theorem q257 : (.fieldLink "SettingsDesk" 50 "SettingsDesk" "ticksLeft" "I" : Cond) ∈ sdB0 := sd_tb1 208 rfl rfl
theorem q258 : (.fieldLink "SettingsDesk" 35 "SettingsDesk" "sessions" "[LSettingsDesk$Session;" : Cond) ∈ sdB0 := sd_tb1 205 rfl rfl
theorem q259 : (.fieldLink "SettingsDesk" 152 "SettingsDesk$Session" "begun" "Z" : Cond) ∈ sdB0 := sd_tb1 187 rfl rfl
theorem q260 : (.methodLink "SettingsDesk" 235 ⟨"SettingsDesk", "changeTo", "(LSettingsDesk$Settings;)Z"⟩ : Cond) ∈ sdB0 := sd_tb2 1 rfl rfl
theorem q261 : (.code ⟨"SettingsDesk", "changeTo", "(LSettingsDesk$Settings;)Z"⟩ prog_1_method_33_code 2 (some .boolean) : Cond) ∈ sdB0 := sd_tb2 4 rfl rfl
theorem q262 : (.instanceMethod ⟨"SettingsDesk", "changeTo", "(LSettingsDesk$Settings;)Z"⟩ : Cond) ∈ sdB0 := sd_tb2 3 rfl rfl
theorem q263 : (.selects "SettingsDesk" ⟨"SettingsDesk", "changeTo", "(LSettingsDesk$Settings;)Z"⟩ ⟨"SettingsDesk", "changeTo", "(LSettingsDesk$Settings;)Z"⟩ : Cond) ∈ sdB0 := sd_tbp (q := (⟨"SettingsDesk", "changeTo", "(LSettingsDesk$Settings;)Z"⟩, 12)) (List.mem_of_getElem? (i := 0) rfl)
theorem q264 : (.initialized "SettingsDesk" : Cond) ∈ sdB0 := sd_tb1 1 rfl rfl
abbrev y_D_reboot : MethodName := ⟨"SettingsDesk", "reboot", "()Z"⟩
theorem d_D_reboot_0 : decode prog_1_method_20_code 0 = .ok (.aload_n 0, 1) := by decide +kernel
theorem d_D_reboot_1 : decode prog_1_method_20_code 1 = .ok (.getfield 56, 3) := by decide +kernel
theorem d_D_reboot_4 : decode prog_1_method_20_code 4 = .ok (.ifCond .ne (5), 3) := by decide +kernel
theorem d_D_reboot_7 : decode prog_1_method_20_code 7 = .ok (.iconst 0, 1) := by decide +kernel
theorem d_D_reboot_8 : decode prog_1_method_20_code 8 = .ok (.ireturn, 1) := by decide +kernel
theorem d_D_reboot_9 : decode prog_1_method_20_code 9 = .ok (.aload_n 0, 1) := by decide +kernel
theorem d_D_reboot_10 : decode prog_1_method_20_code 10 = .ok (.iconst 0, 1) := by decide +kernel
theorem d_D_reboot_11 : decode prog_1_method_20_code 11 = .ok (.putfield 56, 3) := by decide +kernel
theorem d_D_reboot_14 : decode prog_1_method_20_code 14 = .ok (.aload_n 0, 1) := by decide +kernel
theorem d_D_reboot_15 : decode prog_1_method_20_code 15 = .ok (.aload_n 0, 1) := by decide +kernel
theorem d_D_reboot_16 : decode prog_1_method_20_code 16 = .ok (.getfield 23, 3) := by decide +kernel
theorem d_D_reboot_19 : decode prog_1_method_20_code 19 = .ok (.invokevirtual 235, 3) := by decide +kernel
theorem d_D_reboot_22 : decode prog_1_method_20_code 22 = .ok (.pop, 1) := by decide +kernel
theorem d_D_reboot_23 : decode prog_1_method_20_code 23 = .ok (.iconst 0, 1) := by decide +kernel
theorem d_D_reboot_24 : decode prog_1_method_20_code 24 = .ok (.istore_n 1, 1) := by decide +kernel
theorem d_D_reboot_25 : decode prog_1_method_20_code 25 = .ok (.iload_n 1, 1) := by decide +kernel
theorem d_D_reboot_26 : decode prog_1_method_20_code 26 = .ok (.iconst 3, 1) := by decide +kernel
theorem d_D_reboot_27 : decode prog_1_method_20_code 27 = .ok (.if_icmp .ge (19), 3) := by decide +kernel
theorem d_D_reboot_30 : decode prog_1_method_20_code 30 = .ok (.aload_n 0, 1) := by decide +kernel
theorem d_D_reboot_31 : decode prog_1_method_20_code 31 = .ok (.getfield 35, 3) := by decide +kernel
theorem d_D_reboot_34 : decode prog_1_method_20_code 34 = .ok (.iload_n 1, 1) := by decide +kernel
theorem d_D_reboot_35 : decode prog_1_method_20_code 35 = .ok (.aaload, 1) := by decide +kernel
theorem d_D_reboot_36 : decode prog_1_method_20_code 36 = .ok (.iconst 0, 1) := by decide +kernel
theorem d_D_reboot_37 : decode prog_1_method_20_code 37 = .ok (.putfield 152, 3) := by decide +kernel
theorem d_D_reboot_40 : decode prog_1_method_20_code 40 = .ok (.iinc 1 (1), 3) := by decide +kernel
theorem d_D_reboot_43 : decode prog_1_method_20_code 43 = .ok (.goto (-18), 3) := by decide +kernel
theorem d_D_reboot_46 : decode prog_1_method_20_code 46 = .ok (.aload_n 0, 1) := by decide +kernel
theorem d_D_reboot_47 : decode prog_1_method_20_code 47 = .ok (.iconst (-1), 1) := by decide +kernel
theorem d_D_reboot_48 : decode prog_1_method_20_code 48 = .ok (.putfield 53, 3) := by decide +kernel
theorem d_D_reboot_51 : decode prog_1_method_20_code 51 = .ok (.aload_n 0, 1) := by decide +kernel
theorem d_D_reboot_52 : decode prog_1_method_20_code 52 = .ok (.iconst 0, 1) := by decide +kernel
theorem d_D_reboot_53 : decode prog_1_method_20_code 53 = .ok (.putfield 50, 3) := by decide +kernel
theorem d_D_reboot_56 : decode prog_1_method_20_code 56 = .ok (.iconst 1, 1) := by decide +kernel
theorem d_D_reboot_57 : decode prog_1_method_20_code 57 = .ok (.ireturn, 1) := by decide +kernel
def Y_D_reboot : sdY := ("SettingsDesk", prog_1_method_20_code, 2, (some .boolean), .code y_D_reboot prog_1_method_20_code 2 (some .boolean) :: sdB0, { frames := 6, cells := 0, slots := 0, locals := 136 }, 0, 0)
theorem cw_D_reboot_D_changeTo_235 : sd_cwV Y_D_reboot Y_D_changeTo y_D_changeTo 235 1 "SettingsDesk" := ⟨sd_goodV q260 q262 q263 q264 q261, ⟨_, rfl⟩, ⟨rfl, rfl, rfl, rfl⟩, ⟨rfl, by decide, by decide, by decide +kernel⟩, ⟨by decide, by decide⟩⟩
section
variable {l : Launch} {D : va_G} {dA : Nat → ClassId} {b n : Nat} {ad : Nat → Nat} {L : Nat → sdL} {sc : Option (Nat × Nat × (Nat → Int32))}
def h_D_reboot_25 (Q : Int32 → sdM → Prop) : Nat → sdM → Int32 → Prop
  | 0, _, _ => False
  | N + 1, M, x1 => ((3 : Int32) ≤ x1 → ∀ M14 : sdM, M14 = sd_s M 0 9 (-1 : Int32) → ∀ M16 : sdM, M16 = sd_s M14 0 8 (0 : Int32) → sdB (1 : Int32) ∧ Q (1 : Int32) M16) ∧ (¬ (3 : Int32) ≤ x1 → vp_in x1 3 ∧ sdB (0 : Int32) ∧ ∀ M19 : sdM, M19 = sd_s M (83 + 11 * x1.toNatClampNeg) 0 (0 : Int32) → h_D_reboot_25 Q N M19 (x1 + 1))
set_option maxHeartbeats 1000000 in
theorem t_D_reboot_25 (hA : sd_ad b n ad) (hT : l.stackTraces = false) (hD : isD n L dA) {Q : Int32 → sdM → Prop} (N : Nat) : ∀ (M : sdM) (x1 : Int32), h_D_reboot_25 Q N M x1 → sdW l (sdE0 sc) Y_D_reboot D (sd_tys dA) b n ad L ad (sd_H D (sdE0 sc).1 n ad L) (sd_qi Q) sd_xf 25 [(0, .ref 0), (1, .int x1)] [] M 0 0 := by
  induction N with
  | zero => intro M x1 hw; exact hw.elim
  | succ N ih =>
    intro M x1 hw
    rw [h_D_reboot_25] at hw
    refine x_iload_n 1 1 d_D_reboot_25 rfl rfl ?_
    refine x_iconst (v := 3) d_D_reboot_26 (by decide) ?_
    refine x_icmp_ge 46 d_D_reboot_27 rfl (fun hc => ?_) (fun hc => ?_)
    · have hw := hw.1 hc
      refine x_aload_n 0 0 d_D_reboot_46 rfl rfl ?_
      refine x_iconst (v := (-1)) d_D_reboot_47 (by decide) ?_
      refine x_puti 9 (ty := .int) hA d_D_reboot_48 hD.1 hD.2.1 rfl rfl (by decide) lay_D (List.mem_cons_of_mem _ q256) rfl ty_D ty_D_ok nm_D rfl (by decide +kernel) rfl rfl (fun M14 e15 => ?_)
      have hw := hw M14 e15
      clear e15
      refine x_aload_n 0 0 d_D_reboot_51 rfl rfl ?_
      refine x_iconst (v := 0) d_D_reboot_52 (by decide) ?_
      refine x_puti 8 (ty := .int) hA d_D_reboot_53 hD.1 hD.2.1 rfl rfl (by decide) lay_D (List.mem_cons_of_mem _ q257) rfl ty_D ty_D_ok nm_D rfl (by decide +kernel) rfl rfl (fun M16 e17 => ?_)
      have hw := hw M16 e17
      clear e17
      refine x_iconst (v := 1) d_D_reboot_56 (by decide) ?_
      exact x_zret d_D_reboot_57 rfl (sdB_n hw.1) (fun _ h => h) ⟨_, rfl, hw.2⟩
    · have hw := hw.2 hc
      refine x_aload_n 0 0 d_D_reboot_30 rfl rfl ?_
      refine x_getr 5 41 d_D_reboot_31 hD.1 hD.2.1 rfl rfl (by decide) lay_D (List.mem_cons_of_mem _ q258) rfl ?_
      refine x_iload_n 1 1 d_D_reboot_34 rfl rfl ?_
      obtain ⟨hi18, hw⟩ := hw
      refine x_aald (83 + 11 * x1.toNatClampNeg) d_D_reboot_35 hD.sessions.1 hD.sessions.2 (t0 := 6) rfl hi18 rfl ?_
      refine x_iconst (v := 0) d_D_reboot_36 (by decide) ?_
      obtain ⟨hb21, hw⟩ := hw
      refine x_puti 0 (ty := .boolean) hA d_D_reboot_37 (hD.sessionsAt hi18).1 (hD.sessionsAt hi18).2.1 rfl rfl (by decide) lay_N (List.mem_cons_of_mem _ q259) rfl ty_N ty_N_ok nm_N rfl (by decide +kernel) (sdB_n hb21) (sdB_f hb21) (fun M19 e20 => ?_)
      have hw := hw M19 e20
      clear e20
      refine x_iinc 1 1 [(1, .int (x1 + 1)), (0, .ref 0)] d_D_reboot_40 rfl (congrArg (HAdd.hAdd x1) (show Int32.ofInt 1 = 1 by decide)) (by decide) rfl ?_
      refine x_goto 25 d_D_reboot_43 rfl ?_
      refine x_sub [1, 0] [(0, .ref 0), (1, .int (x1 + 1))] rfl ?_
      exact ih M19 (x1 + 1) hw
def w_D_reboot (M : sdM) (Q : Int32 → sdM → Prop) : Prop := (¬ (M 0 10) = 0 → sdB (0 : Int32) ∧ ∀ M22 : sdM, M22 = sd_s M 0 10 (0 : Int32) → w_D_changeTo M22 30 (fun r26 M25 => ∃ N9 : Nat, h_D_reboot_25 Q N9 M25 (0 : Int32))) ∧ ((M 0 10) = 0 → sdB (0 : Int32) ∧ Q (0 : Int32) M)
set_option maxHeartbeats 1000000 in
theorem c_D_reboot (hA : sd_ad b n ad) (hT : l.stackTraces = false) (hD : isD n L dA) {Q : Int32 → sdM → Prop} {M : sdM} (hw : w_D_reboot M Q) : sd_Cn l (sdE0 sc) y_D_reboot Y_D_reboot.2.2.2.2.1 Y_D_reboot.2.2.2.2.2.1 0 0 D (sd_tys dA) b n ad L M [.ref 0] (sd_qi Q) sd_xf := by
  refine sd_enter (Y := Y_D_reboot) rfl rfl rfl (Nat.le_of_ble_eq_true rfl) ?_
  show sdW l (sdE0 sc) Y_D_reboot D (sd_tys dA) b n ad L ad (sd_H D (sdE0 sc).1 n ad L) (sd_qi Q) sd_xf 0 [(0, .ref 0)] [] M 0 0
  unfold w_D_reboot at hw
  refine x_aload_n 0 0 d_D_reboot_0 rfl rfl ?_
  refine x_geti 10 d_D_reboot_1 hD.1 hD.2.1 rfl rfl (by decide) lay_D (List.mem_cons_of_mem _ q254) rfl ?_
  refine x_if_ne 9 d_D_reboot_4 rfl (fun hc => ?_) (fun hc => ?_)
  · have hw := hw.1 hc
    refine x_aload_n 0 0 d_D_reboot_9 rfl rfl ?_
    refine x_iconst (v := 0) d_D_reboot_10 (by decide) ?_
    obtain ⟨hb24, hw⟩ := hw
    refine x_puti 10 (ty := .boolean) hA d_D_reboot_11 hD.1 hD.2.1 rfl rfl (by decide) lay_D (List.mem_cons_of_mem _ q254) rfl ty_D ty_D_ok nm_D rfl (by decide +kernel) (sdB_n hb24) (sdB_f hb24) (fun M22 e23 => ?_)
    have hw := hw M22 e23
    clear e23
    refine x_aload_n 0 0 d_D_reboot_14 rfl rfl ?_
    refine x_aload_n 0 0 d_D_reboot_15 rfl rfl ?_
    refine x_getr 2 30 d_D_reboot_16 hD.1 hD.2.1 rfl rfl (by decide) lay_D (List.mem_cons_of_mem _ q255) rfl ?_
    refine x_callVi (As := [.ref 30]) (t := 0) (rest := []) (rc := 0) (rs := 0) (c_D_changeTo hA hT hD hD.saved hw) cw_D_reboot_D_changeTo_235 hD.1 hD.2.1 rfl d_D_reboot_19 rfl rfl (Nat.le_of_ble_eq_true rfl) (fun _ _ h => h.elim) (fun _ _ h => h) (fun r26 M25 hw => ?_)
    refine x_pop d_D_reboot_22 rfl ?_
    refine x_iconst (v := 0) d_D_reboot_23 (by decide) ?_
    refine x_istore_n 1 [(1, .int (0 : Int32)), (0, .ref 0)] d_D_reboot_24 rfl (by decide) rfl ?_
    refine x_sub [1, 0] [(0, .ref 0), (1, .int (0 : Int32))] rfl ?_
    obtain ⟨N9, hw⟩ := hw
    exact t_D_reboot_25 hA hT hD N9 M25 (0 : Int32) hw
  · have hw := hw.2 hc
    refine x_iconst (v := 0) d_D_reboot_7 (by decide) ?_
    exact x_zret d_D_reboot_8 rfl (sdB_n hw.1) (fun _ h => h) ⟨_, rfl, hw.2⟩
end
theorem q265 : (.methodLink "SettingsDesk" 312 ⟨"java/lang/Math", "min", "(II)I"⟩ : Cond) ∈ sdB0 := sd_tb2 55 rfl rfl
abbrev y_D_olderCount : MethodName := ⟨"SettingsDesk", "olderCount", "()I"⟩
theorem d_D_olderCount_0 : decode prog_1_method_31_code 0 = .ok (.aload_n 0, 1) := by decide +kernel
theorem d_D_olderCount_1 : decode prog_1_method_31_code 1 = .ok (.getfield 46, 3) := by decide +kernel
theorem d_D_olderCount_4 : decode prog_1_method_31_code 4 = .ok (.bipush (8), 2) := by decide +kernel
theorem d_D_olderCount_6 : decode prog_1_method_31_code 6 = .ok (.invokestatic 312, 3) := by decide +kernel
theorem d_D_olderCount_9 : decode prog_1_method_31_code 9 = .ok (.ireturn, 1) := by decide +kernel
def Y_D_olderCount : sdY := ("SettingsDesk", prog_1_method_31_code, 1, (some .int), .code y_D_olderCount prog_1_method_31_code 1 (some .int) :: sdB0, { frames := 1, cells := 0, slots := 0, locals := 21 }, 0, 0)
theorem cw_D_olderCount_JM_min_312 : sd_cwS Y_D_olderCount Y_JM_min y_JM_min 312 2 := ⟨sd_goodS q265 q57 q58 q56, ⟨_, rfl⟩, ⟨rfl, rfl, rfl, rfl⟩, ⟨by decide, by decide, by decide +kernel⟩, ⟨by decide, by decide⟩⟩
section
variable {l : Launch} {D : va_G} {dA : Nat → ClassId} {b n : Nat} {ad : Nat → Nat} {L : Nat → sdL} {sc : Option (Nat × Nat × (Nat → Int32))}
def w_D_olderCount (M : sdM) (Q : Int32 → sdM → Prop) : Prop := w_JM_min M (M 0 7) (8 : Int32) (fun r4 M3 => Q r4 M3)
set_option maxHeartbeats 1000000 in
theorem c_D_olderCount (hA : sd_ad b n ad) (hT : l.stackTraces = false) (hD : isD n L dA) {Q : Int32 → sdM → Prop} {M : sdM} (hw : w_D_olderCount M Q) : sd_Cn l (sdE0 sc) y_D_olderCount Y_D_olderCount.2.2.2.2.1 Y_D_olderCount.2.2.2.2.2.1 0 0 D (sd_tys dA) b n ad L M [.ref 0] (sd_qi Q) sd_xf := by
  refine sd_enter (Y := Y_D_olderCount) rfl rfl rfl (Nat.le_of_ble_eq_true rfl) ?_
  show sdW l (sdE0 sc) Y_D_olderCount D (sd_tys dA) b n ad L ad (sd_H D (sdE0 sc).1 n ad L) (sd_qi Q) sd_xf 0 [(0, .ref 0)] [] M 0 0
  unfold w_D_olderCount at hw
  refine x_aload_n 0 0 d_D_olderCount_0 rfl rfl ?_
  refine x_geti 7 d_D_olderCount_1 hD.1 hD.2.1 rfl rfl (by decide) lay_D (List.mem_cons_of_mem _ q245) rfl ?_
  refine x_bipush (v := 8) d_D_olderCount_4 (by decide) ?_
  refine x_callSi (As := [.int (M 0 7), .int (8 : Int32)]) (rest := []) (rc := 0) (rs := 0) (c_JM_min hA hT  hw) cw_D_olderCount_JM_min_312 d_D_olderCount_6 rfl rfl (Nat.le_of_ble_eq_true rfl) (fun _ _ h => h.elim) (fun _ _ h => h) (fun r4 M3 hw => ?_)
  exact x_iret d_D_olderCount_9 rfl (fun _ h => h) ⟨_, rfl, hw⟩
end
theorem q266 : (.fieldLink "SettingsDesk" 42 "SettingsDesk" "trouble" "LSettingsDesk$Trouble;" : Cond) ∈ sdB0 := sd_tb1 206 rfl rfl
theorem q267 : (.fieldLink "SettingsDesk" 284 "SettingsDesk$Trouble" "fault" "I" : Cond) ∈ sdB0 := sd_tb1 163 rfl rfl
theorem q268 : (.fieldLink "SettingsDesk" 287 "SettingsDesk$Trouble" "atList" "I" : Cond) ∈ sdB0 := sd_tb1 165 rfl rfl
theorem q269 : (.fieldLink "SettingsDesk" 288 "SettingsDesk$Trouble" "atKey" "I" : Cond) ∈ sdB0 := sd_tb1 167 rfl rfl
theorem q270 : (.fieldLink "SettingsDesk" 289 "SettingsDesk$Trouble" "atPart" "I" : Cond) ∈ sdB0 := sd_tb1 169 rfl rfl
theorem q271 : (.fieldLink "SettingsDesk" 12 "SettingsDesk" "schema" "LSettingsDesk$Schema;" : Cond) ∈ sdB0 := sd_tb1 200 rfl rfl
theorem q272 : (.fieldLink "SettingsDesk" 67 "SettingsDesk$Schema" "lists" "I" : Cond) ∈ sdB0 := sd_tb1 107 rfl rfl
theorem q273 : (.fieldLink "SettingsDesk" 178 "SettingsDesk$Settings" "counts" "[I" : Cond) ∈ sdB0 := sd_tb1 139 rfl rfl
theorem q274 : (.methodLink "SettingsDesk" 242 ⟨"SettingsDesk", "olderCount", "()I"⟩ : Cond) ∈ sdB0 := sd_tb2 51 rfl rfl
theorem q275 : (.code ⟨"SettingsDesk", "olderCount", "()I"⟩ prog_1_method_31_code 1 (some .int) : Cond) ∈ sdB0 := sd_tb2 54 rfl rfl
theorem q276 : (.instanceMethod ⟨"SettingsDesk", "olderCount", "()I"⟩ : Cond) ∈ sdB0 := sd_tb2 53 rfl rfl
theorem q277 : (.selects "SettingsDesk" ⟨"SettingsDesk", "olderCount", "()I"⟩ ⟨"SettingsDesk", "olderCount", "()I"⟩ : Cond) ∈ sdB0 := sd_tbp (q := (⟨"SettingsDesk", "olderCount", "()I"⟩, 12)) (List.mem_of_getElem? (i := 1) rfl)
abbrev y_D_figure : MethodName := ⟨"SettingsDesk", "figure", "(I)I"⟩
theorem d_D_figure_0 : decode prog_1_method_21_code 0 = .ok (.iload_n 1, 1) := by decide +kernel
theorem d_D_figure_1 : decode prog_1_method_21_code 1 = .ok (.tableswitch (116) (0) (8) #[51, 56, 61, 66, 71, 84, 92, 100, 108], 51) := by decide +kernel
theorem d_D_figure_52 : decode prog_1_method_21_code 52 = .ok (.aload_n 0, 1) := by decide +kernel
theorem d_D_figure_53 : decode prog_1_method_21_code 53 = .ok (.getfield 46, 3) := by decide +kernel
theorem d_D_figure_56 : decode prog_1_method_21_code 56 = .ok (.ireturn, 1) := by decide +kernel
theorem d_D_figure_57 : decode prog_1_method_21_code 57 = .ok (.aload_n 0, 1) := by decide +kernel
theorem d_D_figure_58 : decode prog_1_method_21_code 58 = .ok (.invokevirtual 242, 3) := by decide +kernel
theorem d_D_figure_61 : decode prog_1_method_21_code 61 = .ok (.ireturn, 1) := by decide +kernel
theorem d_D_figure_62 : decode prog_1_method_21_code 62 = .ok (.aload_n 0, 1) := by decide +kernel
theorem d_D_figure_63 : decode prog_1_method_21_code 63 = .ok (.getfield 50, 3) := by decide +kernel
theorem d_D_figure_66 : decode prog_1_method_21_code 66 = .ok (.ireturn, 1) := by decide +kernel
theorem d_D_figure_67 : decode prog_1_method_21_code 67 = .ok (.aload_n 0, 1) := by decide +kernel
theorem d_D_figure_68 : decode prog_1_method_21_code 68 = .ok (.getfield 53, 3) := by decide +kernel
theorem d_D_figure_71 : decode prog_1_method_21_code 71 = .ok (.ireturn, 1) := by decide +kernel
theorem d_D_figure_72 : decode prog_1_method_21_code 72 = .ok (.aload_n 0, 1) := by decide +kernel
theorem d_D_figure_73 : decode prog_1_method_21_code 73 = .ok (.getfield 56, 3) := by decide +kernel
theorem d_D_figure_76 : decode prog_1_method_21_code 76 = .ok (.ifCond .eq (7), 3) := by decide +kernel
theorem d_D_figure_79 : decode prog_1_method_21_code 79 = .ok (.iconst 1, 1) := by decide +kernel
theorem d_D_figure_80 : decode prog_1_method_21_code 80 = .ok (.goto (4), 3) := by decide +kernel
theorem d_D_figure_83 : decode prog_1_method_21_code 83 = .ok (.iconst 0, 1) := by decide +kernel
theorem d_D_figure_84 : decode prog_1_method_21_code 84 = .ok (.ireturn, 1) := by decide +kernel
theorem d_D_figure_85 : decode prog_1_method_21_code 85 = .ok (.aload_n 0, 1) := by decide +kernel
theorem d_D_figure_86 : decode prog_1_method_21_code 86 = .ok (.getfield 42, 3) := by decide +kernel
theorem d_D_figure_89 : decode prog_1_method_21_code 89 = .ok (.getfield 284, 3) := by decide +kernel
theorem d_D_figure_92 : decode prog_1_method_21_code 92 = .ok (.ireturn, 1) := by decide +kernel
theorem d_D_figure_93 : decode prog_1_method_21_code 93 = .ok (.aload_n 0, 1) := by decide +kernel
theorem d_D_figure_94 : decode prog_1_method_21_code 94 = .ok (.getfield 42, 3) := by decide +kernel
theorem d_D_figure_97 : decode prog_1_method_21_code 97 = .ok (.getfield 287, 3) := by decide +kernel
theorem d_D_figure_100 : decode prog_1_method_21_code 100 = .ok (.ireturn, 1) := by decide +kernel
theorem d_D_figure_101 : decode prog_1_method_21_code 101 = .ok (.aload_n 0, 1) := by decide +kernel
theorem d_D_figure_102 : decode prog_1_method_21_code 102 = .ok (.getfield 42, 3) := by decide +kernel
theorem d_D_figure_105 : decode prog_1_method_21_code 105 = .ok (.getfield 288, 3) := by decide +kernel
theorem d_D_figure_108 : decode prog_1_method_21_code 108 = .ok (.ireturn, 1) := by decide +kernel
theorem d_D_figure_109 : decode prog_1_method_21_code 109 = .ok (.aload_n 0, 1) := by decide +kernel
theorem d_D_figure_110 : decode prog_1_method_21_code 110 = .ok (.getfield 42, 3) := by decide +kernel
theorem d_D_figure_113 : decode prog_1_method_21_code 113 = .ok (.getfield 289, 3) := by decide +kernel
theorem d_D_figure_116 : decode prog_1_method_21_code 116 = .ok (.ireturn, 1) := by decide +kernel
theorem d_D_figure_117 : decode prog_1_method_21_code 117 = .ok (.iload_n 1, 1) := by decide +kernel
theorem d_D_figure_118 : decode prog_1_method_21_code 118 = .ok (.bipush (10), 2) := by decide +kernel
theorem d_D_figure_120 : decode prog_1_method_21_code 120 = .ok (.if_icmp .lt (32), 3) := by decide +kernel
theorem d_D_figure_123 : decode prog_1_method_21_code 123 = .ok (.iload_n 1, 1) := by decide +kernel
theorem d_D_figure_124 : decode prog_1_method_21_code 124 = .ok (.bipush (10), 2) := by decide +kernel
theorem d_D_figure_126 : decode prog_1_method_21_code 126 = .ok (.isub, 1) := by decide +kernel
theorem d_D_figure_127 : decode prog_1_method_21_code 127 = .ok (.aload_n 0, 1) := by decide +kernel
theorem d_D_figure_128 : decode prog_1_method_21_code 128 = .ok (.getfield 12, 3) := by decide +kernel
theorem d_D_figure_131 : decode prog_1_method_21_code 131 = .ok (.getfield 67, 3) := by decide +kernel
theorem d_D_figure_134 : decode prog_1_method_21_code 134 = .ok (.if_icmp .ge (18), 3) := by decide +kernel
theorem d_D_figure_137 : decode prog_1_method_21_code 137 = .ok (.aload_n 0, 1) := by decide +kernel
theorem d_D_figure_138 : decode prog_1_method_21_code 138 = .ok (.getfield 19, 3) := by decide +kernel
theorem d_D_figure_141 : decode prog_1_method_21_code 141 = .ok (.getfield 178, 3) := by decide +kernel
theorem d_D_figure_144 : decode prog_1_method_21_code 144 = .ok (.iload_n 1, 1) := by decide +kernel
theorem d_D_figure_145 : decode prog_1_method_21_code 145 = .ok (.bipush (10), 2) := by decide +kernel
theorem d_D_figure_147 : decode prog_1_method_21_code 147 = .ok (.isub, 1) := by decide +kernel
theorem d_D_figure_148 : decode prog_1_method_21_code 148 = .ok (.iaload, 1) := by decide +kernel
theorem d_D_figure_149 : decode prog_1_method_21_code 149 = .ok (.goto (4), 3) := by decide +kernel
theorem d_D_figure_152 : decode prog_1_method_21_code 152 = .ok (.iconst (-1), 1) := by decide +kernel
theorem d_D_figure_153 : decode prog_1_method_21_code 153 = .ok (.ireturn, 1) := by decide +kernel
def Y_D_figure : sdY := ("SettingsDesk", prog_1_method_21_code, 2, (some .int), .code y_D_figure prog_1_method_21_code 2 (some .int) :: sdB0, { frames := 2, cells := 0, slots := 0, locals := 41 }, 0, 0)
theorem cw_D_figure_D_olderCount_242 : sd_cwV Y_D_figure Y_D_olderCount y_D_olderCount 242 0 "SettingsDesk" := ⟨sd_goodV q274 q276 q277 q264 q275, ⟨_, rfl⟩, ⟨rfl, rfl, rfl, rfl⟩, ⟨rfl, by decide, by decide, by decide +kernel⟩, ⟨by decide, by decide⟩⟩
section
variable {l : Launch} {D : va_G} {dA : Nat → ClassId} {b n : Nat} {ad : Nat → Nat} {L : Nat → sdL} {sc : Option (Nat × Nat × (Nat → Int32))}
def k_D_figure_153 (Q : Int32 → sdM → Prop) (M : sdM) (s0 : Int32) : Prop := Q s0 M
set_option maxHeartbeats 1000000 in
theorem t_D_figure_153 (hA : sd_ad b n ad) (hT : l.stackTraces = false) (hD : isD n L dA) {Q : Int32 → sdM → Prop} (M : sdM) (s0 : Int32) (hw : k_D_figure_153 Q M s0) : sdW l (sdE0 sc) Y_D_figure D (sd_tys dA) b n ad L ad (sd_H D (sdE0 sc).1 n ad L) (sd_qi Q) sd_xf 153 [] [.int s0] M 0 0 := by
  unfold k_D_figure_153 at hw
  exact x_iret d_D_figure_153 rfl (fun _ h => h) ⟨_, rfl, hw⟩
def k_D_figure_152 (Q : Int32 → sdM → Prop) (M : sdM) : Prop := k_D_figure_153 Q M (-1 : Int32)
set_option maxHeartbeats 1000000 in
theorem t_D_figure_152 (hA : sd_ad b n ad) (hT : l.stackTraces = false) (hD : isD n L dA) {Q : Int32 → sdM → Prop} (M : sdM) (hw : k_D_figure_152 Q M ) : sdW l (sdE0 sc) Y_D_figure D (sd_tys dA) b n ad L ad (sd_H D (sdE0 sc).1 n ad L) (sd_qi Q) sd_xf 152 [] [] M 0 0 := by
  unfold k_D_figure_152 at hw
  refine x_iconst (v := (-1)) d_D_figure_152 (by decide) ?_
  exact t_D_figure_153 hA hT hD M (-1 : Int32) hw
def k_D_figure_84 (Q : Int32 → sdM → Prop) (M : sdM) (s0 : Int32) : Prop := Q s0 M
set_option maxHeartbeats 1000000 in
theorem t_D_figure_84 (hA : sd_ad b n ad) (hT : l.stackTraces = false) (hD : isD n L dA) {Q : Int32 → sdM → Prop} (M : sdM) (s0 : Int32) (hw : k_D_figure_84 Q M s0) : sdW l (sdE0 sc) Y_D_figure D (sd_tys dA) b n ad L ad (sd_H D (sdE0 sc).1 n ad L) (sd_qi Q) sd_xf 84 [] [.int s0] M 0 0 := by
  unfold k_D_figure_84 at hw
  exact x_iret d_D_figure_84 rfl (fun _ h => h) ⟨_, rfl, hw⟩
def w_D_figure (M : sdM) (a1 : Int32) (Q : Int32 → sdM → Prop) : Prop := (a1 = 0 → Q (M 0 7) M) ∧ (¬ a1 = 0 → (a1 = 1 → w_D_olderCount M (fun r5 M4 => Q r5 M4)) ∧ (¬ a1 = 1 → (a1 = 2 → Q (M 0 8) M) ∧ (¬ a1 = 2 → (a1 = 3 → Q (M 0 9) M) ∧ (¬ a1 = 3 → (a1 = 4 → ((M 0 10) = 0 → k_D_figure_84 Q M (0 : Int32)) ∧ (¬ (M 0 10) = 0 → k_D_figure_84 Q M (1 : Int32))) ∧ (¬ a1 = 4 → (a1 = 5 → Q (M 42 0) M) ∧ (¬ a1 = 5 → (a1 = 6 → Q (M 42 1) M) ∧ (¬ a1 = 6 → (a1 = 7 → Q (M 42 2) M) ∧ (¬ a1 = 7 → (a1 = 8 → Q (M 42 3) M) ∧ (¬ a1 = 8 → (a1 < (10 : Int32) → k_D_figure_152 Q M) ∧ (¬ a1 < (10 : Int32) → ((M 1 1) ≤ (a1 - (10 : Int32)) → k_D_figure_152 Q M) ∧ (¬ (M 1 1) ≤ (a1 - (10 : Int32)) → vp_in (a1 - (10 : Int32)) 4 ∧ k_D_figure_153 Q M (M (25 + 1) (a1 - (10 : Int32)).toNatClampNeg))))))))))))
set_option maxHeartbeats 1000000 in
theorem c_D_figure {a1 : Int32} (hA : sd_ad b n ad) (hT : l.stackTraces = false) (hD : isD n L dA) {Q : Int32 → sdM → Prop} {M : sdM} (hw : w_D_figure M a1 Q) : sd_Cn l (sdE0 sc) y_D_figure Y_D_figure.2.2.2.2.1 Y_D_figure.2.2.2.2.2.1 0 0 D (sd_tys dA) b n ad L M [.ref 0, .int a1] (sd_qi Q) sd_xf := by
  refine sd_enter (Y := Y_D_figure) rfl rfl rfl (Nat.le_of_ble_eq_true rfl) ?_
  show sdW l (sdE0 sc) Y_D_figure D (sd_tys dA) b n ad L ad (sd_H D (sdE0 sc).1 n ad L) (sd_qi Q) sd_xf 0 [(0, .ref 0), (1, .int a1)] [] M 0 0
  unfold w_D_figure at hw
  refine x_iload_n 1 1 d_D_figure_0 rfl rfl ?_
  -- switch at 1
  by_cases hx1_0 : a1 = 0
  · have hw := hw.1 hx1_0
    refine x_tin 52 d_D_figure_1 (by rw [hx1_0]; decide) (by rw [hx1_0]; decide) (by rw [hx1_0]; rfl) rfl ?_
    refine x_aload_n 0 0 d_D_figure_52 rfl rfl ?_
    refine x_geti 7 d_D_figure_53 hD.1 hD.2.1 rfl rfl (by decide) lay_D (List.mem_cons_of_mem _ q245) rfl ?_
    exact x_iret d_D_figure_56 rfl (fun _ h => h) ⟨_, rfl, hw⟩
  · have hw := hw.2 hx1_0
    by_cases hx1_1 : a1 = 1
    · have hw := hw.1 hx1_1
      refine x_tin 57 d_D_figure_1 (by rw [hx1_1]; decide) (by rw [hx1_1]; decide) (by rw [hx1_1]; rfl) rfl ?_
      refine x_aload_n 0 0 d_D_figure_57 rfl rfl ?_
      refine x_callVi (As := []) (t := 0) (rest := []) (rc := 0) (rs := 0) (c_D_olderCount hA hT hD hw) cw_D_figure_D_olderCount_242 hD.1 hD.2.1 rfl d_D_figure_58 rfl rfl (Nat.le_of_ble_eq_true rfl) (fun _ _ h => h.elim) (fun _ _ h => h) (fun r5 M4 hw => ?_)
      exact x_iret d_D_figure_61 rfl (fun _ h => h) ⟨_, rfl, hw⟩
    · have hw := hw.2 hx1_1
      by_cases hx1_2 : a1 = 2
      · have hw := hw.1 hx1_2
        refine x_tin 62 d_D_figure_1 (by rw [hx1_2]; decide) (by rw [hx1_2]; decide) (by rw [hx1_2]; rfl) rfl ?_
        refine x_aload_n 0 0 d_D_figure_62 rfl rfl ?_
        refine x_geti 8 d_D_figure_63 hD.1 hD.2.1 rfl rfl (by decide) lay_D (List.mem_cons_of_mem _ q257) rfl ?_
        exact x_iret d_D_figure_66 rfl (fun _ h => h) ⟨_, rfl, hw⟩
      · have hw := hw.2 hx1_2
        by_cases hx1_3 : a1 = 3
        · have hw := hw.1 hx1_3
          refine x_tin 67 d_D_figure_1 (by rw [hx1_3]; decide) (by rw [hx1_3]; decide) (by rw [hx1_3]; rfl) rfl ?_
          refine x_aload_n 0 0 d_D_figure_67 rfl rfl ?_
          refine x_geti 9 d_D_figure_68 hD.1 hD.2.1 rfl rfl (by decide) lay_D (List.mem_cons_of_mem _ q256) rfl ?_
          exact x_iret d_D_figure_71 rfl (fun _ h => h) ⟨_, rfl, hw⟩
        · have hw := hw.2 hx1_3
          by_cases hx1_4 : a1 = 4
          · have hw := hw.1 hx1_4
            refine x_tin 72 d_D_figure_1 (by rw [hx1_4]; decide) (by rw [hx1_4]; decide) (by rw [hx1_4]; rfl) rfl ?_
            refine x_aload_n 0 0 d_D_figure_72 rfl rfl ?_
            refine x_geti 10 d_D_figure_73 hD.1 hD.2.1 rfl rfl (by decide) lay_D (List.mem_cons_of_mem _ q254) rfl ?_
            refine x_if_eq 83 d_D_figure_76 rfl (fun hc => ?_) (fun hc => ?_)
            · have hw := hw.1 hc
              refine x_iconst (v := 0) d_D_figure_83 (by decide) ?_
              refine x_sub [] [] rfl ?_
              exact t_D_figure_84 hA hT hD M (0 : Int32) hw
            · have hw := hw.2 hc
              refine x_iconst (v := 1) d_D_figure_79 (by decide) ?_
              refine x_goto 84 d_D_figure_80 rfl ?_
              refine x_sub [] [] rfl ?_
              exact t_D_figure_84 hA hT hD M (1 : Int32) hw
          · have hw := hw.2 hx1_4
            by_cases hx1_5 : a1 = 5
            · have hw := hw.1 hx1_5
              refine x_tin 85 d_D_figure_1 (by rw [hx1_5]; decide) (by rw [hx1_5]; decide) (by rw [hx1_5]; rfl) rfl ?_
              refine x_aload_n 0 0 d_D_figure_85 rfl rfl ?_
              refine x_getr 6 42 d_D_figure_86 hD.1 hD.2.1 rfl rfl (by decide) lay_D (List.mem_cons_of_mem _ q266) rfl ?_
              refine x_geti 0 d_D_figure_89 hD.trouble.1 hD.trouble.2 rfl rfl (by decide) lay_T (List.mem_cons_of_mem _ q267) rfl ?_
              exact x_iret d_D_figure_92 rfl (fun _ h => h) ⟨_, rfl, hw⟩
            · have hw := hw.2 hx1_5
              by_cases hx1_6 : a1 = 6
              · have hw := hw.1 hx1_6
                refine x_tin 93 d_D_figure_1 (by rw [hx1_6]; decide) (by rw [hx1_6]; decide) (by rw [hx1_6]; rfl) rfl ?_
                refine x_aload_n 0 0 d_D_figure_93 rfl rfl ?_
                refine x_getr 6 42 d_D_figure_94 hD.1 hD.2.1 rfl rfl (by decide) lay_D (List.mem_cons_of_mem _ q266) rfl ?_
                refine x_geti 1 d_D_figure_97 hD.trouble.1 hD.trouble.2 rfl rfl (by decide) lay_T (List.mem_cons_of_mem _ q268) rfl ?_
                exact x_iret d_D_figure_100 rfl (fun _ h => h) ⟨_, rfl, hw⟩
              · have hw := hw.2 hx1_6
                by_cases hx1_7 : a1 = 7
                · have hw := hw.1 hx1_7
                  refine x_tin 101 d_D_figure_1 (by rw [hx1_7]; decide) (by rw [hx1_7]; decide) (by rw [hx1_7]; rfl) rfl ?_
                  refine x_aload_n 0 0 d_D_figure_101 rfl rfl ?_
                  refine x_getr 6 42 d_D_figure_102 hD.1 hD.2.1 rfl rfl (by decide) lay_D (List.mem_cons_of_mem _ q266) rfl ?_
                  refine x_geti 2 d_D_figure_105 hD.trouble.1 hD.trouble.2 rfl rfl (by decide) lay_T (List.mem_cons_of_mem _ q269) rfl ?_
                  exact x_iret d_D_figure_108 rfl (fun _ h => h) ⟨_, rfl, hw⟩
                · have hw := hw.2 hx1_7
                  by_cases hx1_8 : a1 = 8
                  · have hw := hw.1 hx1_8
                    refine x_tin 109 d_D_figure_1 (by rw [hx1_8]; decide) (by rw [hx1_8]; decide) (by rw [hx1_8]; rfl) rfl ?_
                    refine x_aload_n 0 0 d_D_figure_109 rfl rfl ?_
                    refine x_getr 6 42 d_D_figure_110 hD.1 hD.2.1 rfl rfl (by decide) lay_D (List.mem_cons_of_mem _ q266) rfl ?_
                    refine x_geti 3 d_D_figure_113 hD.trouble.1 hD.trouble.2 rfl rfl (by decide) lay_T (List.mem_cons_of_mem _ q270) rfl ?_
                    exact x_iret d_D_figure_116 rfl (fun _ h => h) ⟨_, rfl, hw⟩
                  · have hw := hw.2 hx1_8
                    refine x_tout 117 d_D_figure_1 (by have g0 := lv_neT hx1_0 (show (0 : Int32).toInt = 0 from rfl); have g1 := lv_neT hx1_1 (show (1 : Int32).toInt = 1 from rfl); have g2 := lv_neT hx1_2 (show (2 : Int32).toInt = 2 from rfl); have g3 := lv_neT hx1_3 (show (3 : Int32).toInt = 3 from rfl); have g4 := lv_neT hx1_4 (show (4 : Int32).toInt = 4 from rfl); have g5 := lv_neT hx1_5 (show (5 : Int32).toInt = 5 from rfl); have g6 := lv_neT hx1_6 (show (6 : Int32).toInt = 6 from rfl); have g7 := lv_neT hx1_7 (show (7 : Int32).toInt = 7 from rfl); have g8 := lv_neT hx1_8 (show (8 : Int32).toInt = 8 from rfl); omega) rfl ?_
                    refine x_iload_n 1 1 d_D_figure_117 rfl rfl ?_
                    refine x_bipush (v := 10) d_D_figure_118 (by decide) ?_
                    refine x_icmp_lt 152 d_D_figure_120 rfl (fun hc => ?_) (fun hc => ?_)
                    · have hw := hw.1 hc
                      refine x_sub [] [] rfl ?_
                      exact t_D_figure_152 hA hT hD M hw
                    · have hw := hw.2 hc
                      refine x_iload_n 1 1 d_D_figure_123 rfl rfl ?_
                      refine x_bipush (v := 10) d_D_figure_124 (by decide) ?_
                      refine x_isub d_D_figure_126 ?_
                      refine x_aload_n 0 0 d_D_figure_127 rfl rfl ?_
                      refine x_getr 0 1 d_D_figure_128 hD.1 hD.2.1 rfl rfl (by decide) lay_D (List.mem_cons_of_mem _ q271) rfl ?_
                      refine x_geti 1 d_D_figure_131 hD.schema.1 hD.schema.2.1 rfl rfl (by decide) lay_C (List.mem_cons_of_mem _ q272) rfl ?_
                      refine x_icmp_ge 152 d_D_figure_134 rfl (fun hc => ?_) (fun hc => ?_)
                      · have hw := hw.1 hc
                        refine x_sub [] [] rfl ?_
                        exact t_D_figure_152 hA hT hD M hw
                      · have hw := hw.2 hc
                        refine x_aload_n 0 0 d_D_figure_137 rfl rfl ?_
                        refine x_getr 1 25 d_D_figure_138 hD.1 hD.2.1 rfl rfl (by decide) lay_D (List.mem_cons_of_mem _ q243) rfl ?_
                        refine x_getr 0 (25 + 1) d_D_figure_141 hD.running.1 hD.running.2.1 rfl rfl (by decide) lay_S (List.mem_cons_of_mem _ q273) rfl ?_
                        refine x_iload_n 1 1 d_D_figure_144 rfl rfl ?_
                        refine x_bipush (v := 10) d_D_figure_145 (by decide) ?_
                        refine x_isub d_D_figure_147 ?_
                        obtain ⟨hi6, hw⟩ := hw
                        refine x_iald d_D_figure_148 hD.running.counts.1 hD.running.counts.2 rfl hi6 ?_
                        refine x_goto 153 d_D_figure_149 rfl ?_
                        refine x_sub [] [] rfl ?_
                        exact t_D_figure_153 hA hT hD M (M (25 + 1) (a1 - (10 : Int32)).toNatClampNeg) hw
end
theorem q278 : (.fieldLink "SettingsDesk" 134 "SettingsDesk$Schema" "isReady" "Z" : Cond) ∈ sdB0 := sd_tb1 105 rfl rfl
abbrev y_D_begunSessions : MethodName := ⟨"SettingsDesk", "begunSessions", "()I"⟩
theorem d_D_begunSessions_0 : decode prog_1_method_29_code 0 = .ok (.iconst 0, 1) := by decide +kernel
theorem d_D_begunSessions_1 : decode prog_1_method_29_code 1 = .ok (.istore_n 1, 1) := by decide +kernel
theorem d_D_begunSessions_2 : decode prog_1_method_29_code 2 = .ok (.iconst 0, 1) := by decide +kernel
theorem d_D_begunSessions_3 : decode prog_1_method_29_code 3 = .ok (.istore_n 2, 1) := by decide +kernel
theorem d_D_begunSessions_4 : decode prog_1_method_29_code 4 = .ok (.iload_n 2, 1) := by decide +kernel
theorem d_D_begunSessions_5 : decode prog_1_method_29_code 5 = .ok (.iconst 3, 1) := by decide +kernel
theorem d_D_begunSessions_6 : decode prog_1_method_29_code 6 = .ok (.if_icmp .ge (24), 3) := by decide +kernel
theorem d_D_begunSessions_9 : decode prog_1_method_29_code 9 = .ok (.aload_n 0, 1) := by decide +kernel
theorem d_D_begunSessions_10 : decode prog_1_method_29_code 10 = .ok (.getfield 35, 3) := by decide +kernel
theorem d_D_begunSessions_13 : decode prog_1_method_29_code 13 = .ok (.iload_n 2, 1) := by decide +kernel
theorem d_D_begunSessions_14 : decode prog_1_method_29_code 14 = .ok (.aaload, 1) := by decide +kernel
theorem d_D_begunSessions_15 : decode prog_1_method_29_code 15 = .ok (.getfield 152, 3) := by decide +kernel
theorem d_D_begunSessions_18 : decode prog_1_method_29_code 18 = .ok (.ifCond .eq (6), 3) := by decide +kernel
theorem d_D_begunSessions_21 : decode prog_1_method_29_code 21 = .ok (.iinc 1 (1), 3) := by decide +kernel
theorem d_D_begunSessions_24 : decode prog_1_method_29_code 24 = .ok (.iinc 2 (1), 3) := by decide +kernel
theorem d_D_begunSessions_27 : decode prog_1_method_29_code 27 = .ok (.goto (-23), 3) := by decide +kernel
theorem d_D_begunSessions_30 : decode prog_1_method_29_code 30 = .ok (.iload_n 1, 1) := by decide +kernel
theorem d_D_begunSessions_31 : decode prog_1_method_29_code 31 = .ok (.ireturn, 1) := by decide +kernel
def Y_D_begunSessions : sdY := ("SettingsDesk", prog_1_method_29_code, 3, (some .int), .code y_D_begunSessions prog_1_method_29_code 3 (some .int) :: sdB0, { frames := 0, cells := 0, slots := 0, locals := 0 }, 0, 0)
section
variable {l : Launch} {D : va_G} {dA : Nat → ClassId} {b n : Nat} {ad : Nat → Nat} {L : Nat → sdL} {sc : Option (Nat × Nat × (Nat → Int32))}
def k_D_begunSessions_24 (Q : Int32 → sdM → Prop) (k4 : sdM → Int32 → Int32 → Prop) (M : sdM) (x1 : Int32) (x2 : Int32) : Prop := k4 M x1 (x2 + 1)
set_option maxHeartbeats 1000000 in
theorem t_D_begunSessions_24 (hA : sd_ad b n ad) (hT : l.stackTraces = false) (hD : isD n L dA) {Q : Int32 → sdM → Prop} {k4 : sdM → Int32 → Int32 → Prop} (hk4 : ∀ (M : sdM) (x1 : Int32) (x2 : Int32), k4 M x1 x2 → sdW l (sdE0 sc) Y_D_begunSessions D (sd_tys dA) b n ad L ad (sd_H D (sdE0 sc).1 n ad L) (sd_qi Q) sd_xf 4 [(0, .ref 0), (1, .int x1), (2, .int x2)] [] M 0 0) (M : sdM) (x1 : Int32) (x2 : Int32) (hw : k_D_begunSessions_24 Q k4 M x1 x2) : sdW l (sdE0 sc) Y_D_begunSessions D (sd_tys dA) b n ad L ad (sd_H D (sdE0 sc).1 n ad L) (sd_qi Q) sd_xf 24 [(0, .ref 0), (1, .int x1), (2, .int x2)] [] M 0 0 := by
  unfold k_D_begunSessions_24 at hw
  refine x_iinc 2 2 [(2, .int (x2 + 1)), (0, .ref 0), (1, .int x1)] d_D_begunSessions_24 rfl (congrArg (HAdd.hAdd x2) (show Int32.ofInt 1 = 1 by decide)) (by decide) rfl ?_
  refine x_goto 4 d_D_begunSessions_27 rfl ?_
  refine x_sub [1, 2, 0] [(0, .ref 0), (1, .int x1), (2, .int (x2 + 1))] rfl ?_
  exact hk4 M x1 (x2 + 1) hw
def h_D_begunSessions_4 (Q : Int32 → sdM → Prop) : Nat → sdM → Int32 → Int32 → Prop
  | 0, _, _, _ => False
  | N + 1, M, x1, x2 => ((3 : Int32) ≤ x2 → Q x1 M) ∧ (¬ (3 : Int32) ≤ x2 → vp_in x2 3 ∧ ((M (83 + 11 * x2.toNatClampNeg) 0) = 0 → k_D_begunSessions_24 Q (fun M x1 x2 => h_D_begunSessions_4 Q N M x1 x2) M x1 x2) ∧ (¬ (M (83 + 11 * x2.toNatClampNeg) 0) = 0 → k_D_begunSessions_24 Q (fun M x1 x2 => h_D_begunSessions_4 Q N M x1 x2) M (x1 + 1) x2))
set_option maxHeartbeats 1000000 in
theorem t_D_begunSessions_4 (hA : sd_ad b n ad) (hT : l.stackTraces = false) (hD : isD n L dA) {Q : Int32 → sdM → Prop} (N : Nat) : ∀ (M : sdM) (x1 : Int32) (x2 : Int32), h_D_begunSessions_4 Q N M x1 x2 → sdW l (sdE0 sc) Y_D_begunSessions D (sd_tys dA) b n ad L ad (sd_H D (sdE0 sc).1 n ad L) (sd_qi Q) sd_xf 4 [(0, .ref 0), (1, .int x1), (2, .int x2)] [] M 0 0 := by
  induction N with
  | zero => intro M x1 x2 hw; exact hw.elim
  | succ N ih =>
    intro M x1 x2 hw
    rw [h_D_begunSessions_4] at hw
    refine x_iload_n 2 2 d_D_begunSessions_4 rfl rfl ?_
    refine x_iconst (v := 3) d_D_begunSessions_5 (by decide) ?_
    refine x_icmp_ge 30 d_D_begunSessions_6 rfl (fun hc => ?_) (fun hc => ?_)
    · have hw := hw.1 hc
      refine x_iload_n 1 1 d_D_begunSessions_30 rfl rfl ?_
      exact x_iret d_D_begunSessions_31 rfl (fun _ h => h) ⟨_, rfl, hw⟩
    · have hw := hw.2 hc
      refine x_aload_n 0 0 d_D_begunSessions_9 rfl rfl ?_
      refine x_getr 5 41 d_D_begunSessions_10 hD.1 hD.2.1 rfl rfl (by decide) lay_D (List.mem_cons_of_mem _ q258) rfl ?_
      refine x_iload_n 2 2 d_D_begunSessions_13 rfl rfl ?_
      obtain ⟨hi2, hw⟩ := hw
      refine x_aald (83 + 11 * x2.toNatClampNeg) d_D_begunSessions_14 hD.sessions.1 hD.sessions.2 (t0 := 6) rfl hi2 rfl ?_
      refine x_geti 0 d_D_begunSessions_15 (hD.sessionsAt hi2).1 (hD.sessionsAt hi2).2.1 rfl rfl (by decide) lay_N (List.mem_cons_of_mem _ q259) rfl ?_
      refine x_if_eq 24 d_D_begunSessions_18 rfl (fun hc => ?_) (fun hc => ?_)
      · have hw := hw.1 hc
        exact t_D_begunSessions_24 hA hT hD (fun M x1 x2  hw => ih M x1 x2 hw) M x1 x2 hw
      · have hw := hw.2 hc
        refine x_iinc 1 1 [(1, .int (x1 + 1)), (0, .ref 0), (2, .int x2)] d_D_begunSessions_21 rfl (congrArg (HAdd.hAdd x1) (show Int32.ofInt 1 = 1 by decide)) (by decide) rfl ?_
        refine x_sub [1, 0, 2] [(0, .ref 0), (1, .int (x1 + 1)), (2, .int x2)] rfl ?_
        exact t_D_begunSessions_24 hA hT hD (fun M x1 x2  hw => ih M x1 x2 hw) M (x1 + 1) x2 hw
def w_D_begunSessions (M : sdM) (Q : Int32 → sdM → Prop) : Prop := ∃ N9 : Nat, h_D_begunSessions_4 Q N9 M (0 : Int32) (0 : Int32)
set_option maxHeartbeats 1000000 in
theorem c_D_begunSessions (hA : sd_ad b n ad) (hT : l.stackTraces = false) (hD : isD n L dA) {Q : Int32 → sdM → Prop} {M : sdM} (hw : w_D_begunSessions M Q) : sd_Cn l (sdE0 sc) y_D_begunSessions Y_D_begunSessions.2.2.2.2.1 Y_D_begunSessions.2.2.2.2.2.1 0 0 D (sd_tys dA) b n ad L M [.ref 0] (sd_qi Q) sd_xf := by
  refine sd_enter (Y := Y_D_begunSessions) rfl rfl rfl (Nat.le_of_ble_eq_true rfl) ?_
  show sdW l (sdE0 sc) Y_D_begunSessions D (sd_tys dA) b n ad L ad (sd_H D (sdE0 sc).1 n ad L) (sd_qi Q) sd_xf 0 [(0, .ref 0)] [] M 0 0
  unfold w_D_begunSessions at hw
  refine x_iconst (v := 0) d_D_begunSessions_0 (by decide) ?_
  refine x_istore_n 1 [(1, .int (0 : Int32)), (0, .ref 0)] d_D_begunSessions_1 rfl (by decide) rfl ?_
  refine x_iconst (v := 0) d_D_begunSessions_2 (by decide) ?_
  refine x_istore_n 2 [(2, .int (0 : Int32)), (1, .int (0 : Int32)), (0, .ref 0)] d_D_begunSessions_3 rfl (by decide) rfl ?_
  refine x_sub [2, 1, 0] [(0, .ref 0), (1, .int (0 : Int32)), (2, .int (0 : Int32))] rfl ?_
  obtain ⟨N9, hw⟩ := hw
  exact t_D_begunSessions_4 hA hT hD N9 M (0 : Int32) (0 : Int32) hw
end
theorem q279 : (.fieldLink "SettingsDesk" 168 "SettingsDesk$Session" "candidate" "LSettingsDesk$Settings;" : Cond) ∈ sdB0 := sd_tb1 190 rfl rfl
abbrev y_D_settingsOf : MethodName := ⟨"SettingsDesk", "settingsOf", "(I)LSettingsDesk$Settings;"⟩
theorem d_D_settingsOf_0 : decode prog_1_method_30_code 0 = .ok (.iload_n 1, 1) := by decide +kernel
theorem d_D_settingsOf_1 : decode prog_1_method_30_code 1 = .ok (.iconst 3, 1) := by decide +kernel
theorem d_D_settingsOf_2 : decode prog_1_method_30_code 2 = .ok (.if_icmp .ne (8), 3) := by decide +kernel
theorem d_D_settingsOf_5 : decode prog_1_method_30_code 5 = .ok (.aload_n 0, 1) := by decide +kernel
theorem d_D_settingsOf_6 : decode prog_1_method_30_code 6 = .ok (.getfield 19, 3) := by decide +kernel
theorem d_D_settingsOf_9 : decode prog_1_method_30_code 9 = .ok (.areturn, 1) := by decide +kernel
theorem d_D_settingsOf_10 : decode prog_1_method_30_code 10 = .ok (.iload_n 1, 1) := by decide +kernel
theorem d_D_settingsOf_11 : decode prog_1_method_30_code 11 = .ok (.iconst 4, 1) := by decide +kernel
theorem d_D_settingsOf_12 : decode prog_1_method_30_code 12 = .ok (.if_icmp .ne (10), 3) := by decide +kernel
theorem d_D_settingsOf_15 : decode prog_1_method_30_code 15 = .ok (.aload_n 0, 1) := by decide +kernel
theorem d_D_settingsOf_16 : decode prog_1_method_30_code 16 = .ok (.getfield 23, 3) := by decide +kernel
theorem d_D_settingsOf_19 : decode prog_1_method_30_code 19 = .ok (.goto (12), 3) := by decide +kernel
theorem d_D_settingsOf_22 : decode prog_1_method_30_code 22 = .ok (.aload_n 0, 1) := by decide +kernel
theorem d_D_settingsOf_23 : decode prog_1_method_30_code 23 = .ok (.getfield 35, 3) := by decide +kernel
theorem d_D_settingsOf_26 : decode prog_1_method_30_code 26 = .ok (.iload_n 1, 1) := by decide +kernel
theorem d_D_settingsOf_27 : decode prog_1_method_30_code 27 = .ok (.aaload, 1) := by decide +kernel
theorem d_D_settingsOf_28 : decode prog_1_method_30_code 28 = .ok (.getfield 168, 3) := by decide +kernel
theorem d_D_settingsOf_31 : decode prog_1_method_30_code 31 = .ok (.areturn, 1) := by decide +kernel
def Y_D_settingsOf : sdY := ("SettingsDesk", prog_1_method_30_code, 2, (some (.object "SettingsDesk$Settings")), .code y_D_settingsOf prog_1_method_30_code 2 (some (.object "SettingsDesk$Settings")) :: sdB0, { frames := 0, cells := 0, slots := 0, locals := 0 }, 0, 0)
section
variable {l : Launch} {D : va_G} {dA : Nat → ClassId} {b n : Nat} {ad : Nat → Nat} {L : Nat → sdL} {sc : Option (Nat × Nat × (Nat → Int32))}
def k_D_settingsOf_31 (Q : Nat → sdM → Prop) (M : sdM) (u0 : Nat) : Prop := Q u0 M
set_option maxHeartbeats 1000000 in
theorem t_D_settingsOf_31 (hA : sd_ad b n ad) (hT : l.stackTraces = false) (hD : isD n L dA) {Q : Nat → sdM → Prop} (M : sdM) (u0 : Nat) (hu0 : isS n L dA u0) (hw : k_D_settingsOf_31 Q M u0) : sdW l (sdE0 sc) Y_D_settingsOf D (sd_tys dA) b n ad L ad (sd_H D (sdE0 sc).1 n ad L) (sd_qr (fun t => isS n L dA t) Q) sd_xf 31 [] [.ref u0] M 0 0 := by
  unfold k_D_settingsOf_31 at hw
  exact x_aret d_D_settingsOf_31 rfl rfl (fun _ h => h) ⟨_, rfl, hu0, hw⟩
def w_D_settingsOf (M : sdM) (a1 : Int32) (Q : Nat → sdM → Prop) : Prop := (¬ a1 = (3 : Int32) → (¬ a1 = (4 : Int32) → vp_in a1 3 ∧ k_D_settingsOf_31 Q M ((83 + 11 * a1.toNatClampNeg) + 1)) ∧ (a1 = (4 : Int32) → k_D_settingsOf_31 Q M 30)) ∧ (a1 = (3 : Int32) → Q 25 M)
set_option maxHeartbeats 1000000 in
theorem c_D_settingsOf {a1 : Int32} (hA : sd_ad b n ad) (hT : l.stackTraces = false) (hD : isD n L dA) {Q : Nat → sdM → Prop} {M : sdM} (hw : w_D_settingsOf M a1 Q) : sd_Cn l (sdE0 sc) y_D_settingsOf Y_D_settingsOf.2.2.2.2.1 Y_D_settingsOf.2.2.2.2.2.1 0 0 D (sd_tys dA) b n ad L M [.ref 0, .int a1] (sd_qr (fun t => isS n L dA t) Q) sd_xf := by
  refine sd_enter (Y := Y_D_settingsOf) rfl rfl rfl (Nat.le_of_ble_eq_true rfl) ?_
  show sdW l (sdE0 sc) Y_D_settingsOf D (sd_tys dA) b n ad L ad (sd_H D (sdE0 sc).1 n ad L) (sd_qr (fun t => isS n L dA t) Q) sd_xf 0 [(0, .ref 0), (1, .int a1)] [] M 0 0
  unfold w_D_settingsOf at hw
  refine x_iload_n 1 1 d_D_settingsOf_0 rfl rfl ?_
  refine x_iconst (v := 3) d_D_settingsOf_1 (by decide) ?_
  refine x_icmp_ne 10 d_D_settingsOf_2 rfl (fun hc => ?_) (fun hc => ?_)
  · have hw := hw.1 hc
    refine x_iload_n 1 1 d_D_settingsOf_10 rfl rfl ?_
    refine x_iconst (v := 4) d_D_settingsOf_11 (by decide) ?_
    refine x_icmp_ne 22 d_D_settingsOf_12 rfl (fun hc => ?_) (fun hc => ?_)
    · have hw := hw.1 hc
      refine x_aload_n 0 0 d_D_settingsOf_22 rfl rfl ?_
      refine x_getr 5 41 d_D_settingsOf_23 hD.1 hD.2.1 rfl rfl (by decide) lay_D (List.mem_cons_of_mem _ q258) rfl ?_
      refine x_iload_n 1 1 d_D_settingsOf_26 rfl rfl ?_
      obtain ⟨hi2, hw⟩ := hw
      refine x_aald (83 + 11 * a1.toNatClampNeg) d_D_settingsOf_27 hD.sessions.1 hD.sessions.2 (t0 := 6) rfl hi2 rfl ?_
      refine x_getr 1 ((83 + 11 * a1.toNatClampNeg) + 1) d_D_settingsOf_28 (hD.sessionsAt hi2).1 (hD.sessionsAt hi2).2.1 rfl rfl (by decide) lay_N (List.mem_cons_of_mem _ q279) rfl ?_
      refine x_sub [] [] rfl ?_
      exact t_D_settingsOf_31 hA hT hD M ((83 + 11 * a1.toNatClampNeg) + 1) (hD.sessionsAt hi2).candidate hw
    · have hw := hw.2 hc
      refine x_aload_n 0 0 d_D_settingsOf_15 rfl rfl ?_
      refine x_getr 2 30 d_D_settingsOf_16 hD.1 hD.2.1 rfl rfl (by decide) lay_D (List.mem_cons_of_mem _ q255) rfl ?_
      refine x_goto 31 d_D_settingsOf_19 rfl ?_
      refine x_sub [] [] rfl ?_
      exact t_D_settingsOf_31 hA hT hD M 30 hD.saved hw
  · have hw := hw.2 hc
    refine x_aload_n 0 0 d_D_settingsOf_5 rfl rfl ?_
    refine x_getr 1 25 d_D_settingsOf_6 hD.1 hD.2.1 rfl rfl (by decide) lay_D (List.mem_cons_of_mem _ q243) rfl ?_
    exact x_aret d_D_settingsOf_9 rfl rfl (fun _ h => h) ⟨_, rfl, hD.running, hw⟩
end
abbrev y_D_olderSet : MethodName := ⟨"SettingsDesk", "olderSet", "(I)LSettingsDesk$Settings;"⟩
theorem d_D_olderSet_0 : decode prog_1_method_32_code 0 = .ok (.aload_n 0, 1) := by decide +kernel
theorem d_D_olderSet_1 : decode prog_1_method_32_code 1 = .ok (.getfield 29, 3) := by decide +kernel
theorem d_D_olderSet_4 : decode prog_1_method_32_code 4 = .ok (.aload_n 0, 1) := by decide +kernel
theorem d_D_olderSet_5 : decode prog_1_method_32_code 5 = .ok (.getfield 46, 3) := by decide +kernel
theorem d_D_olderSet_8 : decode prog_1_method_32_code 8 = .ok (.iload_n 1, 1) := by decide +kernel
theorem d_D_olderSet_9 : decode prog_1_method_32_code 9 = .ok (.isub, 1) := by decide +kernel
theorem d_D_olderSet_10 : decode prog_1_method_32_code 10 = .ok (.bipush (8), 2) := by decide +kernel
theorem d_D_olderSet_12 : decode prog_1_method_32_code 12 = .ok (.invokestatic 317, 3) := by decide +kernel
theorem d_D_olderSet_15 : decode prog_1_method_32_code 15 = .ok (.aaload, 1) := by decide +kernel
theorem d_D_olderSet_16 : decode prog_1_method_32_code 16 = .ok (.areturn, 1) := by decide +kernel
def Y_D_olderSet : sdY := ("SettingsDesk", prog_1_method_32_code, 2, (some (.object "SettingsDesk$Settings")), .code y_D_olderSet prog_1_method_32_code 2 (some (.object "SettingsDesk$Settings")) :: sdB0, { frames := 1, cells := 0, slots := 0, locals := 22 }, 0, 0)
theorem cw_D_olderSet_JM_floorMod_317 : sd_cwS Y_D_olderSet Y_JM_floorMod y_JM_floorMod 317 2 := ⟨sd_goodS q250 q252 q58 q251, ⟨_, rfl⟩, ⟨rfl, rfl, rfl, rfl⟩, ⟨by decide, by decide, by decide +kernel⟩, ⟨by decide, by decide⟩⟩
section
variable {l : Launch} {D : va_G} {dA : Nat → ClassId} {b n : Nat} {ad : Nat → Nat} {L : Nat → sdL} {sc : Option (Nat × Nat × (Nat → Int32))}
def w_D_olderSet (M : sdM) (a1 : Int32) (Q : Nat → sdM → Prop) : Prop := w_JM_floorMod M ((M 0 7) - a1) (8 : Int32) (fun r5 M4 => vp_in r5 8 ∧ Q (43 + 5 * r5.toNatClampNeg) M4)
set_option maxHeartbeats 1000000 in
theorem c_D_olderSet {a1 : Int32} (hA : sd_ad b n ad) (hT : l.stackTraces = false) (hD : isD n L dA) {Q : Nat → sdM → Prop} {M : sdM} (hw : w_D_olderSet M a1 Q) : sd_Cn l (sdE0 sc) y_D_olderSet Y_D_olderSet.2.2.2.2.1 Y_D_olderSet.2.2.2.2.2.1 0 0 D (sd_tys dA) b n ad L M [.ref 0, .int a1] (sd_qr (fun t => isS n L dA t) Q) sd_xf := by
  refine sd_enter (Y := Y_D_olderSet) rfl rfl rfl (Nat.le_of_ble_eq_true rfl) ?_
  show sdW l (sdE0 sc) Y_D_olderSet D (sd_tys dA) b n ad L ad (sd_H D (sdE0 sc).1 n ad L) (sd_qr (fun t => isS n L dA t) Q) sd_xf 0 [(0, .ref 0), (1, .int a1)] [] M 0 0
  unfold w_D_olderSet at hw
  refine x_aload_n 0 0 d_D_olderSet_0 rfl rfl ?_
  refine x_getr 4 40 d_D_olderSet_1 hD.1 hD.2.1 rfl rfl (by decide) lay_D (List.mem_cons_of_mem _ q244) rfl ?_
  refine x_aload_n 0 0 d_D_olderSet_4 rfl rfl ?_
  refine x_geti 7 d_D_olderSet_5 hD.1 hD.2.1 rfl rfl (by decide) lay_D (List.mem_cons_of_mem _ q245) rfl ?_
  refine x_iload_n 1 1 d_D_olderSet_8 rfl rfl ?_
  refine x_isub d_D_olderSet_9 ?_
  refine x_bipush (v := 8) d_D_olderSet_10 (by decide) ?_
  refine x_callSi (As := [.int ((M 0 7) - a1), .int (8 : Int32)]) (rest := [.ref 40]) (rc := 0) (rs := 0) (c_JM_floorMod hA hT  hw) cw_D_olderSet_JM_floorMod_317 d_D_olderSet_12 rfl rfl (Nat.le_of_ble_eq_true rfl) (fun _ _ h => h.elim) (fun _ _ h => h) (fun r5 M4 hw => ?_)
  obtain ⟨hi6, hw⟩ := hw
  refine x_aald (43 + 5 * r5.toNatClampNeg) d_D_olderSet_15 hD.older.1 hD.older.2 (t0 := 5) rfl hi6 rfl ?_
  exact x_aret d_D_olderSet_16 rfl rfl (fun _ h => h) ⟨_, rfl, (hD.olderAt hi6), hw⟩
end
theorem q280 : (.fieldLink "SettingsDesk" 60 "SettingsDesk" "pagesToFailure" "I" : Cond) ∈ sdB0 := sd_tb1 211 rfl rfl
abbrev y_D_failPower : MethodName := ⟨"SettingsDesk", "failPower", "()V"⟩
theorem d_D_failPower_0 : decode prog_1_method_35_code 0 = .ok (.aload_n 0, 1) := by decide +kernel
theorem d_D_failPower_1 : decode prog_1_method_35_code 1 = .ok (.iconst 1, 1) := by decide +kernel
theorem d_D_failPower_2 : decode prog_1_method_35_code 2 = .ok (.putfield 56, 3) := by decide +kernel
theorem d_D_failPower_5 : decode prog_1_method_35_code 5 = .ok (.aload_n 0, 1) := by decide +kernel
theorem d_D_failPower_6 : decode prog_1_method_35_code 6 = .ok (.iconst (-1), 1) := by decide +kernel
theorem d_D_failPower_7 : decode prog_1_method_35_code 7 = .ok (.putfield 60, 3) := by decide +kernel
theorem d_D_failPower_10 : decode prog_1_method_35_code 10 = .ok (.return_, 1) := by decide +kernel
def Y_D_failPower : sdY := ("SettingsDesk", prog_1_method_35_code, 1, none, .code y_D_failPower prog_1_method_35_code 1 none :: sdB0, { frames := 0, cells := 0, slots := 0, locals := 0 }, 0, 0)
section
variable {l : Launch} {D : va_G} {dA : Nat → ClassId} {b n : Nat} {ad : Nat → Nat} {L : Nat → sdL} {sc : Option (Nat × Nat × (Nat → Int32))}
def w_D_failPower (M : sdM) (Q : sdM → Prop) : Prop := sdB (1 : Int32) ∧ ∀ M6 : sdM, M6 = sd_s M 0 10 (1 : Int32) → ∀ M9 : sdM, M9 = sd_s M6 0 11 (-1 : Int32) → Q M9
set_option maxHeartbeats 1000000 in
theorem c_D_failPower (hA : sd_ad b n ad) (hT : l.stackTraces = false) (hD : isD n L dA) {Q : sdM → Prop} {M : sdM} (hw : w_D_failPower M Q) : sd_Cn l (sdE0 sc) y_D_failPower Y_D_failPower.2.2.2.2.1 Y_D_failPower.2.2.2.2.2.1 0 0 D (sd_tys dA) b n ad L M [.ref 0] (sd_qv Q) sd_xf := by
  refine sd_enter (Y := Y_D_failPower) rfl rfl rfl (Nat.le_of_ble_eq_true rfl) ?_
  show sdW l (sdE0 sc) Y_D_failPower D (sd_tys dA) b n ad L ad (sd_H D (sdE0 sc).1 n ad L) (sd_qv Q) sd_xf 0 [(0, .ref 0)] [] M 0 0
  unfold w_D_failPower at hw
  refine x_aload_n 0 0 d_D_failPower_0 rfl rfl ?_
  refine x_iconst (v := 1) d_D_failPower_1 (by decide) ?_
  obtain ⟨hb8, hw⟩ := hw
  refine x_puti 10 (ty := .boolean) hA d_D_failPower_2 hD.1 hD.2.1 rfl rfl (by decide) lay_D (List.mem_cons_of_mem _ q254) rfl ty_D ty_D_ok nm_D rfl (by decide +kernel) (sdB_n hb8) (sdB_f hb8) (fun M6 e7 => ?_)
  have hw := hw M6 e7
  clear e7
  refine x_aload_n 0 0 d_D_failPower_5 rfl rfl ?_
  refine x_iconst (v := (-1)) d_D_failPower_6 (by decide) ?_
  refine x_puti 11 (ty := .int) hA d_D_failPower_7 hD.1 hD.2.1 rfl rfl (by decide) lay_D (List.mem_cons_of_mem _ q280) rfl ty_D ty_D_ok nm_D rfl (by decide +kernel) rfl rfl (fun M9 e10 => ?_)
  have hw := hw M9 e10
  clear e10
  exact x_vret d_D_failPower_10 rfl (fun _ h => h) ⟨rfl, hw⟩
end
theorem q281 : (.methodLink "SettingsDesk" 281 ⟨"SettingsDesk", "failPower", "()V"⟩ : Cond) ∈ sdB0 := sd_tb4 141 rfl rfl
theorem q282 : (.code ⟨"SettingsDesk", "failPower", "()V"⟩ prog_1_method_35_code 1 none : Cond) ∈ sdB0 := sd_tb4 144 rfl rfl
theorem q283 : (.instanceMethod ⟨"SettingsDesk", "failPower", "()V"⟩ : Cond) ∈ sdB0 := sd_tb4 143 rfl rfl
theorem q284 : (.selects "SettingsDesk" ⟨"SettingsDesk", "failPower", "()V"⟩ ⟨"SettingsDesk", "failPower", "()V"⟩ : Cond) ∈ sdB0 := sd_tbp (q := (⟨"SettingsDesk", "failPower", "()V"⟩, 12)) (List.mem_of_getElem? (i := 14) rfl)
abbrev y_D_writePages : MethodName := ⟨"SettingsDesk", "writePages", "(I)Z"⟩
theorem d_D_writePages_0 : decode prog_1_method_34_code 0 = .ok (.aload_n 0, 1) := by decide +kernel
theorem d_D_writePages_1 : decode prog_1_method_34_code 1 = .ok (.getfield 60, 3) := by decide +kernel
theorem d_D_writePages_4 : decode prog_1_method_34_code 4 = .ok (.iconst (-1), 1) := by decide +kernel
theorem d_D_writePages_5 : decode prog_1_method_34_code 5 = .ok (.if_icmp .ne (5), 3) := by decide +kernel
theorem d_D_writePages_8 : decode prog_1_method_34_code 8 = .ok (.iconst 1, 1) := by decide +kernel
theorem d_D_writePages_9 : decode prog_1_method_34_code 9 = .ok (.ireturn, 1) := by decide +kernel
theorem d_D_writePages_10 : decode prog_1_method_34_code 10 = .ok (.aload_n 0, 1) := by decide +kernel
theorem d_D_writePages_11 : decode prog_1_method_34_code 11 = .ok (.getfield 60, 3) := by decide +kernel
theorem d_D_writePages_14 : decode prog_1_method_34_code 14 = .ok (.iload_n 1, 1) := by decide +kernel
theorem d_D_writePages_15 : decode prog_1_method_34_code 15 = .ok (.if_icmp .le (15), 3) := by decide +kernel
theorem d_D_writePages_18 : decode prog_1_method_34_code 18 = .ok (.aload_n 0, 1) := by decide +kernel
theorem d_D_writePages_19 : decode prog_1_method_34_code 19 = .ok (.dup, 1) := by decide +kernel
theorem d_D_writePages_20 : decode prog_1_method_34_code 20 = .ok (.getfield 60, 3) := by decide +kernel
theorem d_D_writePages_23 : decode prog_1_method_34_code 23 = .ok (.iload_n 1, 1) := by decide +kernel
theorem d_D_writePages_24 : decode prog_1_method_34_code 24 = .ok (.isub, 1) := by decide +kernel
theorem d_D_writePages_25 : decode prog_1_method_34_code 25 = .ok (.putfield 60, 3) := by decide +kernel
theorem d_D_writePages_28 : decode prog_1_method_34_code 28 = .ok (.iconst 1, 1) := by decide +kernel
theorem d_D_writePages_29 : decode prog_1_method_34_code 29 = .ok (.ireturn, 1) := by decide +kernel
theorem d_D_writePages_30 : decode prog_1_method_34_code 30 = .ok (.aload_n 0, 1) := by decide +kernel
theorem d_D_writePages_31 : decode prog_1_method_34_code 31 = .ok (.getfield 60, 3) := by decide +kernel
theorem d_D_writePages_34 : decode prog_1_method_34_code 34 = .ok (.iload_n 1, 1) := by decide +kernel
theorem d_D_writePages_35 : decode prog_1_method_34_code 35 = .ok (.if_icmp .ne (7), 3) := by decide +kernel
theorem d_D_writePages_38 : decode prog_1_method_34_code 38 = .ok (.iconst 1, 1) := by decide +kernel
theorem d_D_writePages_39 : decode prog_1_method_34_code 39 = .ok (.goto (4), 3) := by decide +kernel
theorem d_D_writePages_42 : decode prog_1_method_34_code 42 = .ok (.iconst 0, 1) := by decide +kernel
theorem d_D_writePages_43 : decode prog_1_method_34_code 43 = .ok (.istore_n 2, 1) := by decide +kernel
theorem d_D_writePages_44 : decode prog_1_method_34_code 44 = .ok (.aload_n 0, 1) := by decide +kernel
theorem d_D_writePages_45 : decode prog_1_method_34_code 45 = .ok (.invokevirtual 281, 3) := by decide +kernel
theorem d_D_writePages_48 : decode prog_1_method_34_code 48 = .ok (.iload_n 2, 1) := by decide +kernel
theorem d_D_writePages_49 : decode prog_1_method_34_code 49 = .ok (.ireturn, 1) := by decide +kernel
def Y_D_writePages : sdY := ("SettingsDesk", prog_1_method_34_code, 3, (some .boolean), .code y_D_writePages prog_1_method_34_code 3 (some .boolean) :: sdB0, { frames := 1, cells := 0, slots := 0, locals := 20 }, 0, 0)
theorem cw_D_writePages_D_failPower_281 : sd_cwV Y_D_writePages Y_D_failPower y_D_failPower 281 0 "SettingsDesk" := ⟨sd_goodV q281 q283 q284 q264 q282, ⟨_, rfl⟩, ⟨rfl, rfl, rfl, rfl⟩, ⟨rfl, by decide, by decide, by decide +kernel⟩, ⟨by decide, by decide⟩⟩
section
variable {l : Launch} {D : va_G} {dA : Nat → ClassId} {b n : Nat} {ad : Nat → Nat} {L : Nat → sdL} {sc : Option (Nat × Nat × (Nat → Int32))}
def k_D_writePages_43 (Q : Int32 → sdM → Prop) (M : sdM) (s0 : Int32) : Prop := w_D_failPower M (fun M4 => sdB s0 ∧ Q s0 M4)
set_option maxHeartbeats 1000000 in
theorem t_D_writePages_43 (hA : sd_ad b n ad) (hT : l.stackTraces = false) (hD : isD n L dA) {Q : Int32 → sdM → Prop} (M : sdM) (s0 : Int32) (hw : k_D_writePages_43 Q M s0) : sdW l (sdE0 sc) Y_D_writePages D (sd_tys dA) b n ad L ad (sd_H D (sdE0 sc).1 n ad L) (sd_qi Q) sd_xf 43 [(0, .ref 0)] [.int s0] M 0 0 := by
  unfold k_D_writePages_43 at hw
  refine x_istore_n 2 [(2, .int s0), (0, .ref 0)] d_D_writePages_43 rfl (by decide) rfl ?_
  refine x_aload_n 0 1 d_D_writePages_44 rfl rfl ?_
  refine x_callVv (As := []) (t := 0) (rest := []) (rc := 0) (rs := 0) (c_D_failPower hA hT hD hw) cw_D_writePages_D_failPower_281 hD.1 hD.2.1 rfl d_D_writePages_45 rfl rfl (Nat.le_of_ble_eq_true rfl) (fun _ _ h => h.elim) (fun _ _ h => h) (fun M4 hw => ?_)
  refine x_iload_n 2 0 d_D_writePages_48 rfl rfl ?_
  exact x_zret d_D_writePages_49 rfl (sdB_n hw.1) (fun _ h => h) ⟨_, rfl, hw.2⟩
def w_D_writePages (M : sdM) (a1 : Int32) (Q : Int32 → sdM → Prop) : Prop := (¬ (M 0 11) = (-1 : Int32) → ((M 0 11) ≤ a1 → (¬ (M 0 11) = a1 → k_D_writePages_43 Q M (0 : Int32)) ∧ ((M 0 11) = a1 → k_D_writePages_43 Q M (1 : Int32))) ∧ (¬ (M 0 11) ≤ a1 → ∀ M5 : sdM, M5 = sd_s M 0 11 ((M 0 11) - a1) → sdB (1 : Int32) ∧ Q (1 : Int32) M5)) ∧ ((M 0 11) = (-1 : Int32) → sdB (1 : Int32) ∧ Q (1 : Int32) M)
set_option maxHeartbeats 1000000 in
theorem c_D_writePages {a1 : Int32} (hA : sd_ad b n ad) (hT : l.stackTraces = false) (hD : isD n L dA) {Q : Int32 → sdM → Prop} {M : sdM} (hw : w_D_writePages M a1 Q) : sd_Cn l (sdE0 sc) y_D_writePages Y_D_writePages.2.2.2.2.1 Y_D_writePages.2.2.2.2.2.1 0 0 D (sd_tys dA) b n ad L M [.ref 0, .int a1] (sd_qi Q) sd_xf := by
  refine sd_enter (Y := Y_D_writePages) rfl rfl rfl (Nat.le_of_ble_eq_true rfl) ?_
  show sdW l (sdE0 sc) Y_D_writePages D (sd_tys dA) b n ad L ad (sd_H D (sdE0 sc).1 n ad L) (sd_qi Q) sd_xf 0 [(0, .ref 0), (1, .int a1)] [] M 0 0
  unfold w_D_writePages at hw
  refine x_aload_n 0 0 d_D_writePages_0 rfl rfl ?_
  refine x_geti 11 d_D_writePages_1 hD.1 hD.2.1 rfl rfl (by decide) lay_D (List.mem_cons_of_mem _ q280) rfl ?_
  refine x_iconst (v := (-1)) d_D_writePages_4 (by decide) ?_
  refine x_icmp_ne 10 d_D_writePages_5 rfl (fun hc => ?_) (fun hc => ?_)
  · have hw := hw.1 hc
    refine x_aload_n 0 0 d_D_writePages_10 rfl rfl ?_
    refine x_geti 11 d_D_writePages_11 hD.1 hD.2.1 rfl rfl (by decide) lay_D (List.mem_cons_of_mem _ q280) rfl ?_
    refine x_iload_n 1 1 d_D_writePages_14 rfl rfl ?_
    refine x_icmp_le 30 d_D_writePages_15 rfl (fun hc => ?_) (fun hc => ?_)
    · have hw := hw.1 hc
      refine x_aload_n 0 0 d_D_writePages_30 rfl rfl ?_
      refine x_geti 11 d_D_writePages_31 hD.1 hD.2.1 rfl rfl (by decide) lay_D (List.mem_cons_of_mem _ q280) rfl ?_
      refine x_iload_n 1 1 d_D_writePages_34 rfl rfl ?_
      refine x_icmp_ne 42 d_D_writePages_35 rfl (fun hc => ?_) (fun hc => ?_)
      · have hw := hw.1 hc
        refine x_iconst (v := 0) d_D_writePages_42 (by decide) ?_
        refine x_sub [0] [(0, .ref 0)] rfl ?_
        exact t_D_writePages_43 hA hT hD M (0 : Int32) hw
      · have hw := hw.2 hc
        refine x_iconst (v := 1) d_D_writePages_38 (by decide) ?_
        refine x_goto 43 d_D_writePages_39 rfl ?_
        refine x_sub [0] [(0, .ref 0)] rfl ?_
        exact t_D_writePages_43 hA hT hD M (1 : Int32) hw
    · have hw := hw.2 hc
      refine x_aload_n 0 0 d_D_writePages_18 rfl rfl ?_
      refine x_dup d_D_writePages_19 rfl ?_
      refine x_geti 11 d_D_writePages_20 hD.1 hD.2.1 rfl rfl (by decide) lay_D (List.mem_cons_of_mem _ q280) rfl ?_
      refine x_iload_n 1 1 d_D_writePages_23 rfl rfl ?_
      refine x_isub d_D_writePages_24 ?_
      refine x_puti 11 (ty := .int) hA d_D_writePages_25 hD.1 hD.2.1 rfl rfl (by decide) lay_D (List.mem_cons_of_mem _ q280) rfl ty_D ty_D_ok nm_D rfl (by decide +kernel) rfl rfl (fun M5 e6 => ?_)
      have hw := hw M5 e6
      clear e6
      refine x_iconst (v := 1) d_D_writePages_28 (by decide) ?_
      exact x_zret d_D_writePages_29 rfl (sdB_n hw.1) (fun _ h => h) ⟨_, rfl, hw.2⟩
  · have hw := hw.2 hc
    refine x_iconst (v := 1) d_D_writePages_8 (by decide) ?_
    exact x_zret d_D_writePages_9 rfl (sdB_n hw.1) (fun _ h => h) ⟨_, rfl, hw.2⟩
end
