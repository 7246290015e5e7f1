theorem q253 : (.fieldLink "SettingsDesk" 19 "SettingsDesk" "running" "LSettingsDesk$Settings;" : Cond) ∈ sdB0 := sd_tb1 201 rfl rfl
theorem q254 : (.fieldLink "SettingsDesk" 29 "SettingsDesk" "older" "[LSettingsDesk$Settings;" : Cond) ∈ sdB0 := sd_tb1 204 rfl rfl
theorem q255 : (.fieldLink "SettingsDesk" 46 "SettingsDesk" "changes" "I" : Cond) ∈ sdB0 := sd_tb1 207 rfl rfl
theorem q256 : (.methodLink "SettingsDesk" 320 ⟨"SettingsDesk$Settings", "sameAs", "(LSettingsDesk$Settings;)Z"⟩ : Cond) ∈ sdB0 := sd_tb2 5 rfl rfl
theorem q257 : (.code ⟨"SettingsDesk$Settings", "sameAs", "(LSettingsDesk$Settings;)Z"⟩ prog_9_method_22_code 3 (some .boolean) : Cond) ∈ sdB0 := sd_tb2 8 rfl rfl
theorem q258 : (.instanceMethod ⟨"SettingsDesk$Settings", "sameAs", "(LSettingsDesk$Settings;)Z"⟩ : Cond) ∈ sdB0 := sd_tb2 6 rfl rfl
theorem q259 : (.selects "SettingsDesk$Settings" ⟨"SettingsDesk$Settings", "sameAs", "(LSettingsDesk$Settings;)Z"⟩ ⟨"SettingsDesk$Settings", "sameAs", "(LSettingsDesk$Settings;)Z"⟩ : Cond) ∈ sdB0 := sd_tb2 7 rfl rfl
theorem q260 : (.methodLink "SettingsDesk" 317 ⟨"java/lang/Math", "floorMod", "(II)I"⟩ : Cond) ∈ sdB0 := sd_tb2 37 rfl rfl
theorem q261 : (.code ⟨"java/lang/Math", "floorMod", "(II)I"⟩ prog_17_method_50_code 3 (some .int) : Cond) ∈ sdB0 := sd_tb2 39 rfl rfl
theorem q262 : (.static ⟨"java/lang/Math", "floorMod", "(II)I"⟩ : Cond) ∈ sdB0 := sd_tb2 38 rfl rfl
theorem q263 : (.methodLink "SettingsDesk" 275 ⟨"SettingsDesk$Settings", "copyFrom", "(LSettingsDesk$Settings;)V"⟩ : Cond) ∈ sdB0 := sd_tb2 40 rfl rfl
abbrev y_D_changeTo : MethodName := ⟨"SettingsDesk", "changeTo", "(LSettingsDesk$Settings;)Z"⟩
theorem d_D_changeTo_0 : decode prog_1_method_33_code 0 = .ok (.aload_n 0, 1) := by decide +kernel
theorem d_D_changeTo_1 : decode prog_1_method_33_code 1 = .ok (.getfield 19, 3) := by decide +kernel
theorem d_D_changeTo_4 : decode prog_1_method_33_code 4 = .ok (.aload_n 1, 1) := by decide +kernel
theorem d_D_changeTo_5 : decode prog_1_method_33_code 5 = .ok (.invokevirtual 320, 3) := by decide +kernel
theorem d_D_changeTo_8 : decode prog_1_method_33_code 8 = .ok (.ifCond .eq (5), 3) := by decide +kernel
theorem d_D_changeTo_11 : decode prog_1_method_33_code 11 = .ok (.iconst 0, 1) := by decide +kernel
theorem d_D_changeTo_12 : decode prog_1_method_33_code 12 = .ok (.ireturn, 1) := by decide +kernel
theorem d_D_changeTo_13 : decode prog_1_method_33_code 13 = .ok (.aload_n 0, 1) := by decide +kernel
theorem d_D_changeTo_14 : decode prog_1_method_33_code 14 = .ok (.getfield 29, 3) := by decide +kernel
theorem d_D_changeTo_17 : decode prog_1_method_33_code 17 = .ok (.aload_n 0, 1) := by decide +kernel
theorem d_D_changeTo_18 : decode prog_1_method_33_code 18 = .ok (.getfield 46, 3) := by decide +kernel
theorem d_D_changeTo_21 : decode prog_1_method_33_code 21 = .ok (.bipush (8), 2) := by decide +kernel
theorem d_D_changeTo_23 : decode prog_1_method_33_code 23 = .ok (.invokestatic 317, 3) := by decide +kernel
theorem d_D_changeTo_26 : decode prog_1_method_33_code 26 = .ok (.aaload, 1) := by decide +kernel
theorem d_D_changeTo_27 : decode prog_1_method_33_code 27 = .ok (.aload_n 0, 1) := by decide +kernel
theorem d_D_changeTo_28 : decode prog_1_method_33_code 28 = .ok (.getfield 19, 3) := by decide +kernel
theorem d_D_changeTo_31 : decode prog_1_method_33_code 31 = .ok (.invokevirtual 275, 3) := by decide +kernel
theorem d_D_changeTo_34 : decode prog_1_method_33_code 34 = .ok (.aload_n 0, 1) := by decide +kernel
theorem d_D_changeTo_35 : decode prog_1_method_33_code 35 = .ok (.getfield 19, 3) := by decide +kernel
theorem d_D_changeTo_38 : decode prog_1_method_33_code 38 = .ok (.aload_n 1, 1) := by decide +kernel
theorem d_D_changeTo_39 : decode prog_1_method_33_code 39 = .ok (.invokevirtual 275, 3) := by decide +kernel
theorem d_D_changeTo_42 : decode prog_1_method_33_code 42 = .ok (.aload_n 0, 1) := by decide +kernel
theorem d_D_changeTo_43 : decode prog_1_method_33_code 43 = .ok (.dup, 1) := by decide +kernel
theorem d_D_changeTo_44 : decode prog_1_method_33_code 44 = .ok (.getfield 46, 3) := by decide +kernel
theorem d_D_changeTo_47 : decode prog_1_method_33_code 47 = .ok (.iconst 1, 1) := by decide +kernel
theorem d_D_changeTo_48 : decode prog_1_method_33_code 48 = .ok (.iadd, 1) := by decide +kernel
theorem d_D_changeTo_49 : decode prog_1_method_33_code 49 = .ok (.putfield 46, 3) := by decide +kernel
theorem d_D_changeTo_52 : decode prog_1_method_33_code 52 = .ok (.iconst 1, 1) := by decide +kernel
theorem d_D_changeTo_53 : decode prog_1_method_33_code 53 = .ok (.ireturn, 1) := by decide +kernel
def Y_D_changeTo : sdY := ("SettingsDesk", prog_1_method_33_code, 2, (some .boolean), .code y_D_changeTo prog_1_method_33_code 2 (some .boolean) :: sdB0, { frames := 5, cells := 0, slots := 0, locals := 115 }, 0, 0, [])
theorem cw_D_changeTo_S_sameAs_320 : sd_cwV Y_D_changeTo Y_S_sameAs y_S_sameAs 320 1 "SettingsDesk$Settings" := ⟨sd_goodV q256 q258 q259 q7 q257, ⟨_, rfl⟩, ⟨rfl, rfl, rfl, rfl⟩, ⟨rfl, by decide, by decide, by decide +kernel⟩, ⟨by decide, by decide⟩⟩
theorem cw_D_changeTo_JM_floorMod_317 : sd_cwS Y_D_changeTo Y_JM_floorMod y_JM_floorMod 317 2 := ⟨sd_goodS q260 q262 q58 q261, ⟨_, rfl⟩, ⟨rfl, rfl, rfl, rfl⟩, ⟨by decide, by decide, by decide +kernel⟩, ⟨by decide, by decide⟩⟩
theorem cw_D_changeTo_S_copyFrom_275 : sd_cwV Y_D_changeTo Y_S_copyFrom y_S_copyFrom 275 1 "SettingsDesk$Settings" := ⟨sd_goodV q263 q103 q104 q7 q102, ⟨_, rfl⟩, ⟨rfl, rfl, rfl, rfl⟩, ⟨rfl, by decide, by decide, by decide +kernel⟩, ⟨by decide, by decide⟩⟩
section
variable {l : Launch} {D : va_G} {dA : Nat → ClassId} {b n : Nat} {ad : Nat → Nat} {L : Nat → sdL} {sc : Option (Nat × Nat × (Nat → Int32))}
def w_D_changeTo (M : sdM) (p1 : Nat) (Q : Int32 → sdM → Prop) : Prop := w_S_sameAs 25 M p1 (fun r11 M10 => (r11 = 0 → w_JM_floorMod M10 (M10 0 7) (8 : Int32) (fun r13 M12 => vp_in r13 8 ∧ w_S_copyFrom (43 + 5 * r13.toNatClampNeg) M12 25 (fun M15 => w_S_copyFrom 25 M15 p1 (fun M16 => ∀ M17 : sdM, M17 = sd_s M16 0 7 ((M16 0 7) + (1 : Int32)) → sdB (1 : Int32) ∧ Q (1 : Int32) M17)))) ∧ (¬ r11 = 0 → sdB (0 : Int32) ∧ Q (0 : Int32) M10))
set_option maxHeartbeats 1000000 in
theorem c_D_changeTo {p1 : Nat} (hA : sd_ad b n ad) (hT : l.stackTraces = false) (hD : isD n L dA) (hp1 : isS n L dA p1) {Q : Int32 → sdM → Prop} {M : sdM} (hw : w_D_changeTo M p1 Q) : sd_Cn l (sdE0 sc) y_D_changeTo Y_D_changeTo.2.2.2.2.1 Y_D_changeTo.2.2.2.2.2.1 0 0 D (sd_tys dA) b n ad L M [.ref 0, .ref p1] (sd_qi Q) sd_xf := by
  refine sd_enter (Y := Y_D_changeTo) rfl rfl rfl rfl (Nat.le_of_ble_eq_true rfl) ?_
  show sdW l (sdE0 sc) Y_D_changeTo D (sd_tys dA) b n ad L ad (sd_H D (sdE0 sc).1 n ad L) (sd_qi Q) sd_xf 0 [(0, .ref 0), (1, .ref p1)] [] M 0 0
  unfold w_D_changeTo at hw
  refine x_aload_n 0 0 d_D_changeTo_0 rfl rfl ?_
  refine x_getr 1 25 d_D_changeTo_1 hD.1 hD.2.1 rfl rfl (by decide) lay_D (List.mem_cons_of_mem _ q253) rfl ?_
  refine x_aload_n 1 1 d_D_changeTo_4 rfl rfl ?_
  refine x_callVi (As := [.ref p1]) (t := 25) (rest := []) (rc := 0) (rs := 0) (c_S_sameAs hA hT hD.running hp1 hw) cw_D_changeTo_S_sameAs_320 hD.running.1 hD.running.2.1 rfl d_D_changeTo_5 rfl rfl (Nat.le_of_ble_eq_true rfl) rfl (fun _ _ h => h.elim) (fun _ _ h => h) (fun r11 M10 hw => ?_)
  refine x_if_eq 13 d_D_changeTo_8 rfl (fun hc => ?_) (fun hc => ?_)
  · have hw := hw.1 hc
    refine x_aload_n 0 0 d_D_changeTo_13 rfl rfl ?_
    refine x_getr 4 40 d_D_changeTo_14 hD.1 hD.2.1 rfl rfl (by decide) lay_D (List.mem_cons_of_mem _ q254) rfl ?_
    refine x_aload_n 0 0 d_D_changeTo_17 rfl rfl ?_
    refine x_geti 7 d_D_changeTo_18 hD.1 hD.2.1 rfl rfl (by decide) lay_D (List.mem_cons_of_mem _ q255) rfl ?_
    refine x_bipush (v := 8) d_D_changeTo_21 (by decide) ?_
    refine x_callSi (As := [.int (M10 0 7), .int (8 : Int32)]) (rest := [.ref 40]) (rc := 0) (rs := 0) (c_JM_floorMod hA hT  hw) cw_D_changeTo_JM_floorMod_317 d_D_changeTo_23 rfl rfl (Nat.le_of_ble_eq_true rfl) rfl (fun _ _ h => h.elim) (fun _ _ h => h) (fun r13 M12 hw => ?_)
    obtain ⟨hi14, hw⟩ := hw
    refine x_aald (43 + 5 * r13.toNatClampNeg) d_D_changeTo_26 hD.older.1 hD.older.2 (t0 := 5) rfl hi14 rfl ?_
    refine x_aload_n 0 0 d_D_changeTo_27 rfl rfl ?_
    refine x_getr 1 25 d_D_changeTo_28 hD.1 hD.2.1 rfl rfl (by decide) lay_D (List.mem_cons_of_mem _ q253) rfl ?_
    refine x_callVv (As := [.ref 25]) (t := (43 + 5 * r13.toNatClampNeg)) (rest := []) (rc := 0) (rs := 0) (c_S_copyFrom hA hT (hD.olderAt hi14) hD.running hw) cw_D_changeTo_S_copyFrom_275 (hD.olderAt hi14).1 (hD.olderAt hi14).2.1 rfl d_D_changeTo_31 rfl rfl (Nat.le_of_ble_eq_true rfl) rfl (fun _ _ h => h.elim) (fun _ _ h => h) (fun M15 hw => ?_)
    refine x_aload_n 0 0 d_D_changeTo_34 rfl rfl ?_
    refine x_getr 1 25 d_D_changeTo_35 hD.1 hD.2.1 rfl rfl (by decide) lay_D (List.mem_cons_of_mem _ q253) rfl ?_
    refine x_aload_n 1 1 d_D_changeTo_38 rfl rfl ?_
    refine x_callVv (As := [.ref p1]) (t := 25) (rest := []) (rc := 0) (rs := 0) (c_S_copyFrom hA hT hD.running hp1 hw) cw_D_changeTo_S_copyFrom_275 hD.running.1 hD.running.2.1 rfl d_D_changeTo_39 rfl rfl (Nat.le_of_ble_eq_true rfl) rfl (fun _ _ h => h.elim) (fun _ _ h => h) (fun M16 hw => ?_)
    refine x_aload_n 0 0 d_D_changeTo_42 rfl rfl ?_
    refine x_dup d_D_changeTo_43 rfl ?_
    refine x_geti 7 d_D_changeTo_44 hD.1 hD.2.1 rfl rfl (by decide) lay_D (List.mem_cons_of_mem _ q255) rfl ?_
    refine x_iconst (v := 1) d_D_changeTo_47 (by decide) ?_
    refine x_iadd d_D_changeTo_48 ?_
    refine x_puti 7 (ty := .int) hA d_D_changeTo_49 hD.1 hD.2.1 rfl rfl (by decide) lay_D (List.mem_cons_of_mem _ q255) rfl ty_D ty_D_ok nm_D rfl (by decide +kernel) rfl rfl (fun M17 e18 => ?_)
    have hw := hw M17 e18
    clear e18
    refine x_iconst (v := 1) d_D_changeTo_52 (by decide) ?_
    exact x_zret d_D_changeTo_53 rfl (sdB_n hw.1) (fun _ h => h) ⟨_, rfl, hw.2⟩
  · have hw := hw.2 hc
    refine x_iconst (v := 0) d_D_changeTo_11 (by decide) ?_
    exact x_zret d_D_changeTo_12 rfl (sdB_n hw.1) (fun _ h => h) ⟨_, rfl, hw.2⟩
end
theorem q264 : (.fieldLink "SettingsDesk" 56 "SettingsDesk" "powerOff" "Z" : Cond) ∈ sdB0 := sd_tb1 210 rfl rfl
theorem q265 : (.fieldLink "SettingsDesk" 23 "SettingsDesk" "saved" "LSettingsDesk$Settings;" : Cond) ∈ sdB0 := sd_tb1 202 rfl rfl
theorem q266 : (.fieldLink "SettingsDesk" 53 "SettingsDesk" "lockOwner" "I" : Cond) ∈ sdB0 := sd_tb1 209 rfl rfl
theorem q267 : (.fieldLink "SettingsDesk" 50 "SettingsDesk" "ticksLeft" "I" : Cond) ∈ sdB0 := sd_tb1 208 rfl rfl
theorem q268 : (.fieldLink "SettingsDesk" 35 "SettingsDesk" "sessions" "[LSettingsDesk$Session;" : Cond) ∈ sdB0 := sd_tb1 205 rfl rfl
theorem q269 : (.fieldLink "SettingsDesk" 152 "SettingsDesk$Session" "begun" "Z" : Cond) ∈ sdB0 := sd_tb1 187 rfl rfl
theorem q270 : (.methodLink "SettingsDesk" 235 ⟨"SettingsDesk", "changeTo", "(LSettingsDesk$Settings;)Z"⟩ : Cond) ∈ sdB0 := sd_tb2 1 rfl rfl
theorem q271 : (.code ⟨"SettingsDesk", "changeTo", "(LSettingsDesk$Settings;)Z"⟩ prog_1_method_33_code 2 (some .boolean) : Cond) ∈ sdB0 := sd_tb2 4 rfl rfl
theorem q272 : (.instanceMethod ⟨"SettingsDesk", "changeTo", "(LSettingsDesk$Settings;)Z"⟩ : Cond) ∈ sdB0 := sd_tb2 3 rfl rfl
theorem q273 : (.selects "SettingsDesk" ⟨"SettingsDesk", "changeTo", "(LSettingsDesk$Settings;)Z"⟩ ⟨"SettingsDesk", "changeTo", "(LSettingsDesk$Settings;)Z"⟩ : Cond) ∈ sdB0 := sd_tbp (q := (⟨"SettingsDesk", "changeTo", "(LSettingsDesk$Settings;)Z"⟩, 12)) (List.mem_of_getElem? (i := 0) rfl)
theorem q274 : (.initialized "SettingsDesk" : Cond) ∈ sdB0 := sd_tb1 1 rfl rfl
abbrev y_D_reboot : MethodName := ⟨"SettingsDesk", "reboot", "()Z"⟩
theorem d_D_reboot_0 : decode prog_1_method_20_code 0 = .ok (.aload_n 0, 1) := by decide +kernel
theorem d_D_reboot_1 : decode prog_1_method_20_code 1 = .ok (.getfield 56, 3) := by decide +kernel
theorem d_D_reboot_4 : decode prog_1_method_20_code 4 = .ok (.ifCond .ne (5), 3) := by decide +kernel
theorem d_D_reboot_7 : decode prog_1_method_20_code 7 = .ok (.iconst 0, 1) := by decide +kernel
theorem d_D_reboot_8 : decode prog_1_method_20_code 8 = .ok (.ireturn, 1) := by decide +kernel
theorem d_D_reboot_9 : decode prog_1_method_20_code 9 = .ok (.aload_n 0, 1) := by decide +kernel
theorem d_D_reboot_10 : decode prog_1_method_20_code 10 = .ok (.iconst 0, 1) := by decide +kernel
theorem d_D_reboot_11 : decode prog_1_method_20_code 11 = .ok (.putfield 56, 3) := by decide +kernel
theorem d_D_reboot_14 : decode prog_1_method_20_code 14 = .ok (.aload_n 0, 1) := by decide +kernel
theorem d_D_reboot_15 : decode prog_1_method_20_code 15 = .ok (.aload_n 0, 1) := by decide +kernel
theorem d_D_reboot_16 : decode prog_1_method_20_code 16 = .ok (.getfield 23, 3) := by decide +kernel
theorem d_D_reboot_19 : decode prog_1_method_20_code 19 = .ok (.invokevirtual 235, 3) := by decide +kernel
theorem d_D_reboot_22 : decode prog_1_method_20_code 22 = .ok (.pop, 1) := by decide +kernel
theorem d_D_reboot_23 : decode prog_1_method_20_code 23 = .ok (.iconst 0, 1) := by decide +kernel
theorem d_D_reboot_24 : decode prog_1_method_20_code 24 = .ok (.istore_n 1, 1) := by decide +kernel
theorem d_D_reboot_25 : decode prog_1_method_20_code 25 = .ok (.iload_n 1, 1) := by decide +kernel
theorem d_D_reboot_26 : decode prog_1_method_20_code 26 = .ok (.iconst 3, 1) := by decide +kernel
theorem d_D_reboot_27 : decode prog_1_method_20_code 27 = .ok (.if_icmp .ge (19), 3) := by decide +kernel
theorem d_D_reboot_30 : decode prog_1_method_20_code 30 = .ok (.aload_n 0, 1) := by decide +kernel
theorem d_D_reboot_31 : decode prog_1_method_20_code 31 = .ok (.getfield 35, 3) := by decide +kernel
theorem d_D_reboot_34 : decode prog_1_method_20_code 34 = .ok (.iload_n 1, 1) := by decide +kernel
theorem d_D_reboot_35 : decode prog_1_method_20_code 35 = .ok (.aaload, 1) := by decide +kernel
theorem d_D_reboot_36 : decode prog_1_method_20_code 36 = .ok (.iconst 0, 1) := by decide +kernel
theorem d_D_reboot_37 : decode prog_1_method_20_code 37 = .ok (.putfield 152, 3) := by decide +kernel
theorem d_D_reboot_40 : decode prog_1_method_20_code 40 = .ok (.iinc 1 (1), 3) := by decide +kernel
theorem d_D_reboot_43 : decode prog_1_method_20_code 43 = .ok (.goto (-18), 3) := by decide +kernel
theorem d_D_reboot_46 : decode prog_1_method_20_code 46 = .ok (.aload_n 0, 1) := by decide +kernel
theorem d_D_reboot_47 : decode prog_1_method_20_code 47 = .ok (.iconst (-1), 1) := by decide +kernel
theorem d_D_reboot_48 : decode prog_1_method_20_code 48 = .ok (.putfield 53, 3) := by decide +kernel
theorem d_D_reboot_51 : decode prog_1_method_20_code 51 = .ok (.aload_n 0, 1) := by decide +kernel
theorem d_D_reboot_52 : decode prog_1_method_20_code 52 = .ok (.iconst 0, 1) := by decide +kernel
theorem d_D_reboot_53 : decode prog_1_method_20_code 53 = .ok (.putfield 50, 3) := by decide +kernel
theorem d_D_reboot_56 : decode prog_1_method_20_code 56 = .ok (.iconst 1, 1) := by decide +kernel
theorem d_D_reboot_57 : decode prog_1_method_20_code 57 = .ok (.ireturn, 1) := by decide +kernel
def Y_D_reboot : sdY := ("SettingsDesk", prog_1_method_20_code, 2, (some .boolean), .code y_D_reboot prog_1_method_20_code 2 (some .boolean) :: sdB0, { frames := 6, cells := 0, slots := 0, locals := 136 }, 0, 0, [])
theorem cw_D_reboot_D_changeTo_235 : sd_cwV Y_D_reboot Y_D_changeTo y_D_changeTo 235 1 "SettingsDesk" := ⟨sd_goodV q270 q272 q273 q274 q271, ⟨_, rfl⟩, ⟨rfl, rfl, rfl, rfl⟩, ⟨rfl, by decide, by decide, by decide +kernel⟩, ⟨by decide, by decide⟩⟩
section
variable {l : Launch} {D : va_G} {dA : Nat → ClassId} {b n : Nat} {ad : Nat → Nat} {L : Nat → sdL} {sc : Option (Nat × Nat × (Nat → Int32))}
def h_D_reboot_25 (Q : Int32 → sdM → Prop) : Nat → sdM → Int32 → Prop
  | 0, _, _ => False
  | N + 1, M, x1 => ((3 : Int32) ≤ x1 → ∀ M14 : sdM, M14 = sd_s M 0 9 (-1 : Int32) → ∀ M16 : sdM, M16 = sd_s M14 0 8 (0 : Int32) → sdB (1 : Int32) ∧ Q (1 : Int32) M16) ∧ (¬ (3 : Int32) ≤ x1 → vp_in x1 3 ∧ sdB (0 : Int32) ∧ ∀ M19 : sdM, M19 = sd_s M (83 + 11 * x1.toNatClampNeg) 0 (0 : Int32) → h_D_reboot_25 Q N M19 (x1 + 1))
set_option maxHeartbeats 1000000 in
theorem t_D_reboot_25 (hA : sd_ad b n ad) (hT : l.stackTraces = false) (hD : isD n L dA) {Q : Int32 → sdM → Prop} (N : Nat) : ∀ (M : sdM) (x1 : Int32), h_D_reboot_25 Q N M x1 → sdW l (sdE0 sc) Y_D_reboot D (sd_tys dA) b n ad L ad (sd_H D (sdE0 sc).1 n ad L) (sd_qi Q) sd_xf 25 [(0, .ref 0), (1, .int x1)] [] M 0 0 := by
  induction N with
  | zero => intro M x1 hw; exact hw.elim
  | succ N ih =>
    intro M x1 hw
    rw [h_D_reboot_25] at hw
    refine x_iload_n 1 1 d_D_reboot_25 rfl rfl ?_
    refine x_iconst (v := 3) d_D_reboot_26 (by decide) ?_
    refine x_icmp_ge 46 d_D_reboot_27 rfl (fun hc => ?_) (fun hc => ?_)
    · have hw := hw.1 hc
      refine x_aload_n 0 0 d_D_reboot_46 rfl rfl ?_
      refine x_iconst (v := (-1)) d_D_reboot_47 (by decide) ?_
      refine x_puti 9 (ty := .int) hA d_D_reboot_48 hD.1 hD.2.1 rfl rfl (by decide) lay_D (List.mem_cons_of_mem _ q266) rfl ty_D ty_D_ok nm_D rfl (by decide +kernel) rfl rfl (fun M14 e15 => ?_)
      have hw := hw M14 e15
      clear e15
      refine x_aload_n 0 0 d_D_reboot_51 rfl rfl ?_
      refine x_iconst (v := 0) d_D_reboot_52 (by decide) ?_
      refine x_puti 8 (ty := .int) hA d_D_reboot_53 hD.1 hD.2.1 rfl rfl (by decide) lay_D (List.mem_cons_of_mem _ q267) rfl ty_D ty_D_ok nm_D rfl (by decide +kernel) rfl rfl (fun M16 e17 => ?_)
      have hw := hw M16 e17
      clear e17
      refine x_iconst (v := 1) d_D_reboot_56 (by decide) ?_
      exact x_zret d_D_reboot_57 rfl (sdB_n hw.1) (fun _ h => h) ⟨_, rfl, hw.2⟩
    · have hw := hw.2 hc
      refine x_aload_n 0 0 d_D_reboot_30 rfl rfl ?_
      refine x_getr 5 41 d_D_reboot_31 hD.1 hD.2.1 rfl rfl (by decide) lay_D (List.mem_cons_of_mem _ q268) rfl ?_
      refine x_iload_n 1 1 d_D_reboot_34 rfl rfl ?_
      obtain ⟨hi18, hw⟩ := hw
      refine x_aald (83 + 11 * x1.toNatClampNeg) d_D_reboot_35 hD.sessions.1 hD.sessions.2 (t0 := 6) rfl hi18 rfl ?_
      refine x_iconst (v := 0) d_D_reboot_36 (by decide) ?_
      obtain ⟨hb21, hw⟩ := hw
      refine x_puti 0 (ty := .boolean) hA d_D_reboot_37 (hD.sessionsAt hi18).1 (hD.sessionsAt hi18).2.1 rfl rfl (by decide) lay_N (List.mem_cons_of_mem _ q269) rfl ty_N ty_N_ok nm_N rfl (by decide +kernel) (sdB_n hb21) (sdB_f hb21) (fun M19 e20 => ?_)
      have hw := hw M19 e20
      clear e20
      refine x_iinc 1 1 [(1, .int (x1 + 1)), (0, .ref 0)] d_D_reboot_40 rfl (congrArg (HAdd.hAdd x1) (show Int32.ofInt 1 = 1 by decide)) (by decide) rfl ?_
      refine x_goto 25 d_D_reboot_43 rfl ?_
      refine x_sub [1, 0] [(0, .ref 0), (1, .int (x1 + 1))] rfl ?_
      exact ih M19 (x1 + 1) hw
def w_D_reboot (M : sdM) (Q : Int32 → sdM → Prop) : Prop := (¬ (M 0 10) = 0 → sdB (0 : Int32) ∧ ∀ M22 : sdM, M22 = sd_s M 0 10 (0 : Int32) → w_D_changeTo M22 30 (fun r26 M25 => ∃ N9 : Nat, h_D_reboot_25 Q N9 M25 (0 : Int32))) ∧ ((M 0 10) = 0 → sdB (0 : Int32) ∧ Q (0 : Int32) M)
set_option maxHeartbeats 1000000 in
theorem c_D_reboot (hA : sd_ad b n ad) (hT : l.stackTraces = false) (hD : isD n L dA) {Q : Int32 → sdM → Prop} {M : sdM} (hw : w_D_reboot M Q) : sd_Cn l (sdE0 sc) y_D_reboot Y_D_reboot.2.2.2.2.1 Y_D_reboot.2.2.2.2.2.1 0 0 D (sd_tys dA) b n ad L M [.ref 0] (sd_qi Q) sd_xf := by
  refine sd_enter (Y := Y_D_reboot) rfl rfl rfl rfl (Nat.le_of_ble_eq_true rfl) ?_
  show sdW l (sdE0 sc) Y_D_reboot D (sd_tys dA) b n ad L ad (sd_H D (sdE0 sc).1 n ad L) (sd_qi Q) sd_xf 0 [(0, .ref 0)] [] M 0 0
  unfold w_D_reboot at hw
  refine x_aload_n 0 0 d_D_reboot_0 rfl rfl ?_
  refine x_geti 10 d_D_reboot_1 hD.1 hD.2.1 rfl rfl (by decide) lay_D (List.mem_cons_of_mem _ q264) rfl ?_
  refine x_if_ne 9 d_D_reboot_4 rfl (fun hc => ?_) (fun hc => ?_)
  · have hw := hw.1 hc
    refine x_aload_n 0 0 d_D_reboot_9 rfl rfl ?_
    refine x_iconst (v := 0) d_D_reboot_10 (by decide) ?_
    obtain ⟨hb24, hw⟩ := hw
    refine x_puti 10 (ty := .boolean) hA d_D_reboot_11 hD.1 hD.2.1 rfl rfl (by decide) lay_D (List.mem_cons_of_mem _ q264) rfl ty_D ty_D_ok nm_D rfl (by decide +kernel) (sdB_n hb24) (sdB_f hb24) (fun M22 e23 => ?_)
    have hw := hw M22 e23
    clear e23
    refine x_aload_n 0 0 d_D_reboot_14 rfl rfl ?_
    refine x_aload_n 0 0 d_D_reboot_15 rfl rfl ?_
    refine x_getr 2 30 d_D_reboot_16 hD.1 hD.2.1 rfl rfl (by decide) lay_D (List.mem_cons_of_mem _ q265) rfl ?_
    refine x_callVi (As := [.ref 30]) (t := 0) (rest := []) (rc := 0) (rs := 0) (c_D_changeTo hA hT hD hD.saved hw) cw_D_reboot_D_changeTo_235 hD.1 hD.2.1 rfl d_D_reboot_19 rfl rfl (Nat.le_of_ble_eq_true rfl) rfl (fun _ _ h => h.elim) (fun _ _ h => h) (fun r26 M25 hw => ?_)
    refine x_pop d_D_reboot_22 rfl ?_
    refine x_iconst (v := 0) d_D_reboot_23 (by decide) ?_
    refine x_istore_n 1 [(1, .int (0 : Int32)), (0, .ref 0)] d_D_reboot_24 rfl (by decide) rfl ?_
    refine x_sub [1, 0] [(0, .ref 0), (1, .int (0 : Int32))] rfl ?_
    obtain ⟨N9, hw⟩ := hw
    exact t_D_reboot_25 hA hT hD N9 M25 (0 : Int32) hw
  · have hw := hw.2 hc
    refine x_iconst (v := 0) d_D_reboot_7 (by decide) ?_
    exact x_zret d_D_reboot_8 rfl (sdB_n hw.1) (fun _ h => h) ⟨_, rfl, hw.2⟩
end
theorem q275 : (.methodLink "SettingsDesk" 312 ⟨"java/lang/Math", "min", "(II)I"⟩ : Cond) ∈ sdB0 := sd_tb2 55 rfl rfl
abbrev y_D_olderCount : MethodName := ⟨"SettingsDesk", "olderCount", "()I"⟩
theorem d_D_olderCount_0 : decode prog_1_method_31_code 0 = .ok (.aload_n 0, 1) := by decide +kernel
theorem d_D_olderCount_1 : decode prog_1_method_31_code 1 = .ok (.getfield 46, 3) := by decide +kernel
theorem d_D_olderCount_4 : decode prog_1_method_31_code 4 = .ok (.bipush (8), 2) := by decide +kernel
theorem d_D_olderCount_6 : decode prog_1_method_31_code 6 = .ok (.invokestatic 312, 3) := by decide +kernel
theorem d_D_olderCount_9 : decode prog_1_method_31_code 9 = .ok (.ireturn, 1) := by decide +kernel
def Y_D_olderCount : sdY := ("SettingsDesk", prog_1_method_31_code, 1, (some .int), .code y_D_olderCount prog_1_method_31_code 1 (some .int) :: sdB0, { frames := 1, cells := 0, slots := 0, locals := 21 }, 0, 0, [])
theorem cw_D_olderCount_JM_min_312 : sd_cwS Y_D_olderCount Y_JM_min y_JM_min 312 2 := ⟨sd_goodS q275 q57 q58 q56, ⟨_, rfl⟩, ⟨rfl, rfl, rfl, rfl⟩, ⟨by decide, by decide, by decide +kernel⟩, ⟨by decide, by decide⟩⟩
section
variable {l : Launch} {D : va_G} {dA : Nat → ClassId} {b n : Nat} {ad : Nat → Nat} {L : Nat → sdL} {sc : Option (Nat × Nat × (Nat → Int32))}
def w_D_olderCount (M : sdM) (Q : Int32 → sdM → Prop) : Prop := w_JM_min M (M 0 7) (8 : Int32) (fun r4 M3 => Q r4 M3)
set_option maxHeartbeats 1000000 in
theorem c_D_olderCount (hA : sd_ad b n ad) (hT : l.stackTraces = false) (hD : isD n L dA) {Q : Int32 → sdM → Prop} {M : sdM} (hw : w_D_olderCount M Q) : sd_Cn l (sdE0 sc) y_D_olderCount Y_D_olderCount.2.2.2.2.1 Y_D_olderCount.2.2.2.2.2.1 0 0 D (sd_tys dA) b n ad L M [.ref 0] (sd_qi Q) sd_xf := by
  refine sd_enter (Y := Y_D_olderCount) rfl rfl rfl rfl (Nat.le_of_ble_eq_true rfl) ?_
  show sdW l (sdE0 sc) Y_D_olderCount D (sd_tys dA) b n ad L ad (sd_H D (sdE0 sc).1 n ad L) (sd_qi Q) sd_xf 0 [(0, .ref 0)] [] M 0 0
  unfold w_D_olderCount at hw
  refine x_aload_n 0 0 d_D_olderCount_0 rfl rfl ?_
  refine x_geti 7 d_D_olderCount_1 hD.1 hD.2.1 rfl rfl (by decide) lay_D (List.mem_cons_of_mem _ q255) rfl ?_
  refine x_bipush (v := 8) d_D_olderCount_4 (by decide) ?_
  refine x_callSi (As := [.int (M 0 7), .int (8 : Int32)]) (rest := []) (rc := 0) (rs := 0) (c_JM_min hA hT  hw) cw_D_olderCount_JM_min_312 d_D_olderCount_6 rfl rfl (Nat.le_of_ble_eq_true rfl) rfl (fun _ _ h => h.elim) (fun _ _ h => h) (fun r4 M3 hw => ?_)
  exact x_iret d_D_olderCount_9 rfl (fun _ h => h) ⟨_, rfl, hw⟩
end
theorem q276 : (.fieldLink "SettingsDesk" 42 "SettingsDesk" "trouble" "LSettingsDesk$Trouble;" : Cond) ∈ sdB0 := sd_tb1 206 rfl rfl
theorem q277 : (.fieldLink "SettingsDesk" 284 "SettingsDesk$Trouble" "fault" "I" : Cond) ∈ sdB0 := sd_tb1 163 rfl rfl
theorem q278 : (.fieldLink "SettingsDesk" 287 "SettingsDesk$Trouble" "atList" "I" : Cond) ∈ sdB0 := sd_tb1 165 rfl rfl
theorem q279 : (.fieldLink "SettingsDesk" 288 "SettingsDesk$Trouble" "atKey" "I" : Cond) ∈ sdB0 := sd_tb1 167 rfl rfl
theorem q280 : (.fieldLink "SettingsDesk" 289 "SettingsDesk$Trouble" "atPart" "I" : Cond) ∈ sdB0 := sd_tb1 169 rfl rfl
theorem q281 : (.fieldLink "SettingsDesk" 12 "SettingsDesk" "schema" "LSettingsDesk$Schema;" : Cond) ∈ sdB0 := sd_tb1 200 rfl rfl
theorem q282 : (.fieldLink "SettingsDesk" 67 "SettingsDesk$Schema" "lists" "I" : Cond) ∈ sdB0 := sd_tb1 107 rfl rfl
theorem q283 : (.fieldLink "SettingsDesk" 178 "SettingsDesk$Settings" "counts" "[I" : Cond) ∈ sdB0 := sd_tb1 139 rfl rfl
theorem q284 : (.methodLink "SettingsDesk" 242 ⟨"SettingsDesk", "olderCount", "()I"⟩ : Cond) ∈ sdB0 := sd_tb2 51 rfl rfl
theorem q285 : (.code ⟨"SettingsDesk", "olderCount", "()I"⟩ prog_1_method_31_code 1 (some .int) : Cond) ∈ sdB0 := sd_tb2 54 rfl rfl
theorem q286 : (.instanceMethod ⟨"SettingsDesk", "olderCount", "()I"⟩ : Cond) ∈ sdB0 := sd_tb2 53 rfl rfl
theorem q287 : (.selects "SettingsDesk" ⟨"SettingsDesk", "olderCount", "()I"⟩ ⟨"SettingsDesk", "olderCount", "()I"⟩ : Cond) ∈ sdB0 := sd_tbp (q := (⟨"SettingsDesk", "olderCount", "()I"⟩, 12)) (List.mem_of_getElem? (i := 1) rfl)
abbrev y_D_figure : MethodName := ⟨"SettingsDesk", "figure", "(I)I"⟩
theorem d_D_figure_0 : decode prog_1_method_21_code 0 = .ok (.iload_n 1, 1) := by decide +kernel
theorem d_D_figure_1 : decode prog_1_method_21_code 1 = .ok (.tableswitch (116) (0) (8) #[51, 56, 61, 66, 71, 84, 92, 100, 108], 51) := by decide +kernel
theorem d_D_figure_52 : decode prog_1_method_21_code 52 = .ok (.aload_n 0, 1) := by decide +kernel
theorem d_D_figure_53 : decode prog_1_method_21_code 53 = .ok (.getfield 46, 3) := by decide +kernel
theorem d_D_figure_56 : decode prog_1_method_21_code 56 = .ok (.ireturn, 1) := by decide +kernel
theorem d_D_figure_57 : decode prog_1_method_21_code 57 = .ok (.aload_n 0, 1) := by decide +kernel
theorem d_D_figure_58 : decode prog_1_method_21_code 58 = .ok (.invokevirtual 242, 3) := by decide +kernel
theorem d_D_figure_61 : decode prog_1_method_21_code 61 = .ok (.ireturn, 1) := by decide +kernel
theorem d_D_figure_62 : decode prog_1_method_21_code 62 = .ok (.aload_n 0, 1) := by decide +kernel
theorem d_D_figure_63 : decode prog_1_method_21_code 63 = .ok (.getfield 50, 3) := by decide +kernel
theorem d_D_figure_66 : decode prog_1_method_21_code 66 = .ok (.ireturn, 1) := by decide +kernel
theorem d_D_figure_67 : decode prog_1_method_21_code 67 = .ok (.aload_n 0, 1) := by decide +kernel
theorem d_D_figure_68 : decode prog_1_method_21_code 68 = .ok (.getfield 53, 3) := by decide +kernel
theorem d_D_figure_71 : decode prog_1_method_21_code 71 = .ok (.ireturn, 1) := by decide +kernel
theorem d_D_figure_72 : decode prog_1_method_21_code 72 = .ok (.aload_n 0, 1) := by decide +kernel
theorem d_D_figure_73 : decode prog_1_method_21_code 73 = .ok (.getfield 56, 3) := by decide +kernel
theorem d_D_figure_76 : decode prog_1_method_21_code 76 = .ok (.ifCond .eq (7), 3) := by decide +kernel
theorem d_D_figure_79 : decode prog_1_method_21_code 79 = .ok (.iconst 1, 1) := by decide +kernel
theorem d_D_figure_80 : decode prog_1_method_21_code 80 = .ok (.goto (4), 3) := by decide +kernel
theorem d_D_figure_83 : decode prog_1_method_21_code 83 = .ok (.iconst 0, 1) := by decide +kernel
theorem d_D_figure_84 : decode prog_1_method_21_code 84 = .ok (.ireturn, 1) := by decide +kernel
theorem d_D_figure_85 : decode prog_1_method_21_code 85 = .ok (.aload_n 0, 1) := by decide +kernel
theorem d_D_figure_86 : decode prog_1_method_21_code 86 = .ok (.getfield 42, 3) := by decide +kernel
theorem d_D_figure_89 : decode prog_1_method_21_code 89 = .ok (.getfield 284, 3) := by decide +kernel
theorem d_D_figure_92 : decode prog_1_method_21_code 92 = .ok (.ireturn, 1) := by decide +kernel
theorem d_D_figure_93 : decode prog_1_method_21_code 93 = .ok (.aload_n 0, 1) := by decide +kernel
theorem d_D_figure_94 : decode prog_1_method_21_code 94 = .ok (.getfield 42, 3) := by decide +kernel
theorem d_D_figure_97 : decode prog_1_method_21_code 97 = .ok (.getfield 287, 3) := by decide +kernel
theorem d_D_figure_100 : decode prog_1_method_21_code 100 = .ok (.ireturn, 1) := by decide +kernel
theorem d_D_figure_101 : decode prog_1_method_21_code 101 = .ok (.aload_n 0, 1) := by decide +kernel
theorem d_D_figure_102 : decode prog_1_method_21_code 102 = .ok (.getfield 42, 3) := by decide +kernel
theorem d_D_figure_105 : decode prog_1_method_21_code 105 = .ok (.getfield 288, 3) := by decide +kernel
theorem d_D_figure_108 : decode prog_1_method_21_code 108 = .ok (.ireturn, 1) := by decide +kernel
theorem d_D_figure_109 : decode prog_1_method_21_code 109 = .ok (.aload_n 0, 1) := by decide +kernel
theorem d_D_figure_110 : decode prog_1_method_21_code 110 = .ok (.getfield 42, 3) := by decide +kernel
theorem d_D_figure_113 : decode prog_1_method_21_code 113 = .ok (.getfield 289, 3) := by decide +kernel
theorem d_D_figure_116 : decode prog_1_method_21_code 116 = .ok (.ireturn, 1) := by decide +kernel
theorem d_D_figure_117 : decode prog_1_method_21_code 117 = .ok (.iload_n 1, 1) := by decide +kernel
theorem d_D_figure_118 : decode prog_1_method_21_code 118 = .ok (.bipush (10), 2) := by decide +kernel
theorem d_D_figure_120 : decode prog_1_method_21_code 120 = .ok (.if_icmp .lt (32), 3) := by decide +kernel
theorem d_D_figure_123 : decode prog_1_method_21_code 123 = .ok (.iload_n 1, 1) := by decide +kernel
theorem d_D_figure_124 : decode prog_1_method_21_code 124 = .ok (.bipush (10), 2) := by decide +kernel
theorem d_D_figure_126 : decode prog_1_method_21_code 126 = .ok (.isub, 1) := by decide +kernel
theorem d_D_figure_127 : decode prog_1_method_21_code 127 = .ok (.aload_n 0, 1) := by decide +kernel
theorem d_D_figure_128 : decode prog_1_method_21_code 128 = .ok (.getfield 12, 3) := by decide +kernel
theorem d_D_figure_131 : decode prog_1_method_21_code 131 = .ok (.getfield 67, 3) := by decide +kernel
theorem d_D_figure_134 : decode prog_1_method_21_code 134 = .ok (.if_icmp .ge (18), 3) := by decide +kernel
theorem d_D_figure_137 : decode prog_1_method_21_code 137 = .ok (.aload_n 0, 1) := by decide +kernel
theorem d_D_figure_138 : decode prog_1_method_21_code 138 = .ok (.getfield 19, 3) := by decide +kernel
theorem d_D_figure_141 : decode prog_1_method_21_code 141 = .ok (.getfield 178, 3) := by decide +kernel
theorem d_D_figure_144 : decode prog_1_method_21_code 144 = .ok (.iload_n 1, 1) := by decide +kernel
theorem d_D_figure_145 : decode prog_1_method_21_code 145 = .ok (.bipush (10), 2) := by decide +kernel
theorem d_D_figure_147 : decode prog_1_method_21_code 147 = .ok (.isub, 1) := by decide +kernel
theorem d_D_figure_148 : decode prog_1_method_21_code 148 = .ok (.iaload, 1) := by decide +kernel
theorem d_D_figure_149 : decode prog_1_method_21_code 149 = .ok (.goto (4), 3) := by decide +kernel
theorem d_D_figure_152 : decode prog_1_method_21_code 152 = .ok (.iconst (-1), 1) := by decide +kernel
theorem d_D_figure_153 : decode prog_1_method_21_code 153 = .ok (.ireturn, 1) := by decide +kernel
def Y_D_figure : sdY := ("SettingsDesk", prog_1_method_21_code, 2, (some .int), .code y_D_figure prog_1_method_21_code 2 (some .int) :: sdB0, { frames := 2, cells := 0, slots := 0, locals := 41 }, 0, 0, [])
theorem cw_D_figure_D_olderCount_242 : sd_cwV Y_D_figure Y_D_olderCount y_D_olderCount 242 0 "SettingsDesk" := ⟨sd_goodV q284 q286 q287 q274 q285, ⟨_, rfl⟩, ⟨rfl, rfl, rfl, rfl⟩, ⟨rfl, by decide, by decide, by decide +kernel⟩, ⟨by decide, by decide⟩⟩
section
variable {l : Launch} {D : va_G} {dA : Nat → ClassId} {b n : Nat} {ad : Nat → Nat} {L : Nat → sdL} {sc : Option (Nat × Nat × (Nat → Int32))}
def k_D_figure_153 (Q : Int32 → sdM → Prop) (M : sdM) (s0 : Int32) : Prop := Q s0 M
set_option maxHeartbeats 1000000 in
theorem t_D_figure_153 (hA : sd_ad b n ad) (hT : l.stackTraces = false) (hD : isD n L dA) {Q : Int32 → sdM → Prop} (M : sdM) (s0 : Int32) (hw : k_D_figure_153 Q M s0) : sdW l (sdE0 sc) Y_D_figure D (sd_tys dA) b n ad L ad (sd_H D (sdE0 sc).1 n ad L) (sd_qi Q) sd_xf 153 [] [.int s0] M 0 0 := by
  unfold k_D_figure_153 at hw
  exact x_iret d_D_figure_153 rfl (fun _ h => h) ⟨_, rfl, hw⟩
def k_D_figure_152 (Q : Int32 → sdM → Prop) (M : sdM) : Prop := k_D_figure_153 Q M (-1 : Int32)
set_option maxHeartbeats 1000000 in
theorem t_D_figure_152 (hA : sd_ad b n ad) (hT : l.stackTraces = false) (hD : isD n L dA) {Q : Int32 → sdM → Prop} (M : sdM) (hw : k_D_figure_152 Q M ) : sdW l (sdE0 sc) Y_D_figure D (sd_tys dA) b n ad L ad (sd_H D (sdE0 sc).1 n ad L) (sd_qi Q) sd_xf 152 [] [] M 0 0 := by
  unfold k_D_figure_152 at hw
  refine x_iconst (v := (-1)) d_D_figure_152 (by decide) ?_
  exact t_D_figure_153 hA hT hD M (-1 : Int32) hw
def k_D_figure_84 (Q : Int32 → sdM → Prop) (M : sdM) (s0 : Int32) : Prop := Q s0 M
set_option maxHeartbeats 1000000 in
theorem t_D_figure_84 (hA : sd_ad b n ad) (hT : l.stackTraces = false) (hD : isD n L dA) {Q : Int32 → sdM → Prop} (M : sdM) (s0 : Int32) (hw : k_D_figure_84 Q M s0) : sdW l (sdE0 sc) Y_D_figure D (sd_tys dA) b n ad L ad (sd_H D (sdE0 sc).1 n ad L) (sd_qi Q) sd_xf 84 [] [.int s0] M 0 0 := by
  unfold k_D_figure_84 at hw
  exact x_iret d_D_figure_84 rfl (fun _ h => h) ⟨_, rfl, hw⟩
def w_D_figure (M : sdM) (a1 : Int32) (Q : Int32 → sdM → Prop) : Prop := (a1 = 0 → Q (M 0 7) M) ∧ (¬ a1 = 0 → (a1 = 1 → w_D_olderCount M (fun r5 M4 => Q r5 M4)) ∧ (¬ a1 = 1 → (a1 = 2 → Q (M 0 8) M) ∧ (¬ a1 = 2 → (a1 = 3 → Q (M 0 9) M) ∧ (¬ a1 = 3 → (a1 = 4 → ((M 0 10) = 0 → k_D_figure_84 Q M (0 : Int32)) ∧ (¬ (M 0 10) = 0 → k_D_figure_84 Q M (1 : Int32))) ∧ (¬ a1 = 4 → (a1 = 5 → Q (M 42 0) M) ∧ (¬ a1 = 5 → (a1 = 6 → Q (M 42 1) M) ∧ (¬ a1 = 6 → (a1 = 7 → Q (M 42 2) M) ∧ (¬ a1 = 7 → (a1 = 8 → Q (M 42 3) M) ∧ (¬ a1 = 8 → (a1 < (10 : Int32) → k_D_figure_152 Q M) ∧ (¬ a1 < (10 : Int32) → ((M 1 1) ≤ (a1 - (10 : Int32)) → k_D_figure_152 Q M) ∧ (¬ (M 1 1) ≤ (a1 - (10 : Int32)) → vp_in (a1 - (10 : Int32)) 4 ∧ k_D_figure_153 Q M (M (25 + 1) (a1 - (10 : Int32)).toNatClampNeg))))))))))))
set_option maxHeartbeats 1000000 in
theorem c_D_figure {a1 : Int32} (hA : sd_ad b n ad) (hT : l.stackTraces = false) (hD : isD n L dA) {Q : Int32 → sdM → Prop} {M : sdM} (hw : w_D_figure M a1 Q) : sd_Cn l (sdE0 sc) y_D_figure Y_D_figure.2.2.2.2.1 Y_D_figure.2.2.2.2.2.1 0 0 D (sd_tys dA) b n ad L M [.ref 0, .int a1] (sd_qi Q) sd_xf := by
  refine sd_enter (Y := Y_D_figure) rfl rfl rfl rfl (Nat.le_of_ble_eq_true rfl) ?_
  show sdW l (sdE0 sc) Y_D_figure D (sd_tys dA) b n ad L ad (sd_H D (sdE0 sc).1 n ad L) (sd_qi Q) sd_xf 0 [(0, .ref 0), (1, .int a1)] [] M 0 0
  unfold w_D_figure at hw
  refine x_iload_n 1 1 d_D_figure_0 rfl rfl ?_
  -- switch at 1
  by_cases hx1_0 : a1 = 0
  · have hw := hw.1 hx1_0
    refine x_tin 52 d_D_figure_1 (by rw [hx1_0]; decide) (by rw [hx1_0]; decide) (by rw [hx1_0]; rfl) rfl ?_
    refine x_aload_n 0 0 d_D_figure_52 rfl rfl ?_
    refine x_geti 7 d_D_figure_53 hD.1 hD.2.1 rfl rfl (by decide) lay_D (List.mem_cons_of_mem _ q255) rfl ?_
    exact x_iret d_D_figure_56 rfl (fun _ h => h) ⟨_, rfl, hw⟩
  · have hw := hw.2 hx1_0
    by_cases hx1_1 : a1 = 1
    · have hw := hw.1 hx1_1
      refine x_tin 57 d_D_figure_1 (by rw [hx1_1]; decide) (by rw [hx1_1]; decide) (by rw [hx1_1]; rfl) rfl ?_
      refine x_aload_n 0 0 d_D_figure_57 rfl rfl ?_
      refine x_callVi (As := []) (t := 0) (rest := []) (rc := 0) (rs := 0) (c_D_olderCount hA hT hD hw) cw_D_figure_D_olderCount_242 hD.1 hD.2.1 rfl d_D_figure_58 rfl rfl (Nat.le_of_ble_eq_true rfl) rfl (fun _ _ h => h.elim) (fun _ _ h => h) (fun r5 M4 hw => ?_)
      exact x_iret d_D_figure_61 rfl (fun _ h => h) ⟨_, rfl, hw⟩
    · have hw := hw.2 hx1_1
      by_cases hx1_2 : a1 = 2
      · have hw := hw.1 hx1_2
        refine x_tin 62 d_D_figure_1 (by rw [hx1_2]; decide) (by rw [hx1_2]; decide) (by rw [hx1_2]; rfl) rfl ?_
        refine x_aload_n 0 0 d_D_figure_62 rfl rfl ?_
        refine x_geti 8 d_D_figure_63 hD.1 hD.2.1 rfl rfl (by decide) lay_D (List.mem_cons_of_mem _ q267) rfl ?_
        exact x_iret d_D_figure_66 rfl (fun _ h => h) ⟨_, rfl, hw⟩
      · have hw := hw.2 hx1_2
        by_cases hx1_3 : a1 = 3
        · have hw := hw.1 hx1_3
          refine x_tin 67 d_D_figure_1 (by rw [hx1_3]; decide) (by rw [hx1_3]; decide) (by rw [hx1_3]; rfl) rfl ?_
          refine x_aload_n 0 0 d_D_figure_67 rfl rfl ?_
          refine x_geti 9 d_D_figure_68 hD.1 hD.2.1 rfl rfl (by decide) lay_D (List.mem_cons_of_mem _ q266) rfl ?_
          exact x_iret d_D_figure_71 rfl (fun _ h => h) ⟨_, rfl, hw⟩
        · have hw := hw.2 hx1_3
          by_cases hx1_4 : a1 = 4
          · have hw := hw.1 hx1_4
            refine x_tin 72 d_D_figure_1 (by rw [hx1_4]; decide) (by rw [hx1_4]; decide) (by rw [hx1_4]; rfl) rfl ?_
            refine x_aload_n 0 0 d_D_figure_72 rfl rfl ?_
            refine x_geti 10 d_D_figure_73 hD.1 hD.2.1 rfl rfl (by decide) lay_D (List.mem_cons_of_mem _ q264) rfl ?_
            refine x_if_eq 83 d_D_figure_76 rfl (fun hc => ?_) (fun hc => ?_)
            · have hw := hw.1 hc
              refine x_iconst (v := 0) d_D_figure_83 (by decide) ?_
              refine x_sub [] [] rfl ?_
              exact t_D_figure_84 hA hT hD M (0 : Int32) hw
            · have hw := hw.2 hc
              refine x_iconst (v := 1) d_D_figure_79 (by decide) ?_
              refine x_goto 84 d_D_figure_80 rfl ?_
              refine x_sub [] [] rfl ?_
              exact t_D_figure_84 hA hT hD M (1 : Int32) hw
          · have hw := hw.2 hx1_4
            by_cases hx1_5 : a1 = 5
            · have hw := hw.1 hx1_5
              refine x_tin 85 d_D_figure_1 (by rw [hx1_5]; decide) (by rw [hx1_5]; decide) (by rw [hx1_5]; rfl) rfl ?_
              refine x_aload_n 0 0 d_D_figure_85 rfl rfl ?_
              refine x_getr 6 42 d_D_figure_86 hD.1 hD.2.1 rfl rfl (by decide) lay_D (List.mem_cons_of_mem _ q276) rfl ?_
              refine x_geti 0 d_D_figure_89 hD.trouble.1 hD.trouble.2 rfl rfl (by decide) lay_T (List.mem_cons_of_mem _ q277) rfl ?_
              exact x_iret d_D_figure_92 rfl (fun _ h => h) ⟨_, rfl, hw⟩
            · have hw := hw.2 hx1_5
              by_cases hx1_6 : a1 = 6
              · have hw := hw.1 hx1_6
                refine x_tin 93 d_D_figure_1 (by rw [hx1_6]; decide) (by rw [hx1_6]; decide) (by rw [hx1_6]; rfl) rfl ?_
                refine x_aload_n 0 0 d_D_figure_93 rfl rfl ?_
                refine x_getr 6 42 d_D_figure_94 hD.1 hD.2.1 rfl rfl (by decide) lay_D (List.mem_cons_of_mem _ q276) rfl ?_
                refine x_geti 1 d_D_figure_97 hD.trouble.1 hD.trouble.2 rfl rfl (by decide) lay_T (List.mem_cons_of_mem _ q278) rfl ?_
                exact x_iret d_D_figure_100 rfl (fun _ h => h) ⟨_, rfl, hw⟩
              · have hw := hw.2 hx1_6
                by_cases hx1_7 : a1 = 7
                · have hw := hw.1 hx1_7
                  refine x_tin 101 d_D_figure_1 (by rw [hx1_7]; decide) (by rw [hx1_7]; decide) (by rw [hx1_7]; rfl) rfl ?_
                  refine x_aload_n 0 0 d_D_figure_101 rfl rfl ?_
                  refine x_getr 6 42 d_D_figure_102 hD.1 hD.2.1 rfl rfl (by decide) lay_D (List.mem_cons_of_mem _ q276) rfl ?_
                  refine x_geti 2 d_D_figure_105 hD.trouble.1 hD.trouble.2 rfl rfl (by decide) lay_T (List.mem_cons_of_mem _ q279) rfl ?_
                  exact x_iret d_D_figure_108 rfl (fun _ h => h) ⟨_, rfl, hw⟩
                · have hw := hw.2 hx1_7
                  by_cases hx1_8 : a1 = 8
                  · have hw := hw.1 hx1_8
                    refine x_tin 109 d_D_figure_1 (by rw [hx1_8]; decide) (by rw [hx1_8]; decide) (by rw [hx1_8]; rfl) rfl ?_
                    refine x_aload_n 0 0 d_D_figure_109 rfl rfl ?_
                    refine x_getr 6 42 d_D_figure_110 hD.1 hD.2.1 rfl rfl (by decide) lay_D (List.mem_cons_of_mem _ q276) rfl ?_
                    refine x_geti 3 d_D_figure_113 hD.trouble.1 hD.trouble.2 rfl rfl (by decide) lay_T (List.mem_cons_of_mem _ q280) rfl ?_
                    exact x_iret d_D_figure_116 rfl (fun _ h => h) ⟨_, rfl, hw⟩
                  · have hw := hw.2 hx1_8
                    refine x_tout 117 d_D_figure_1 (by have g0 := lv_neT hx1_0 (show (0 : Int32).toInt = 0 from rfl); have g1 := lv_neT hx1_1 (show (1 : Int32).toInt = 1 from rfl); have g2 := lv_neT hx1_2 (show (2 : Int32).toInt = 2 from rfl); have g3 := lv_neT hx1_3 (show (3 : Int32).toInt = 3 from rfl); have g4 := lv_neT hx1_4 (show (4 : Int32).toInt = 4 from rfl); have g5 := lv_neT hx1_5 (show (5 : Int32).toInt = 5 from rfl); have g6 := lv_neT hx1_6 (show (6 : Int32).toInt = 6 from rfl); have g7 := lv_neT hx1_7 (show (7 : Int32).toInt = 7 from rfl); have g8 := lv_neT hx1_8 (show (8 : Int32).toInt = 8 from rfl); omega) rfl ?_
                    refine x_iload_n 1 1 d_D_figure_117 rfl rfl ?_
                    refine x_bipush (v := 10) d_D_figure_118 (by decide) ?_
                    refine x_icmp_lt 152 d_D_figure_120 rfl (fun hc => ?_) (fun hc => ?_)
                    · have hw := hw.1 hc
                      refine x_sub [] [] rfl ?_
                      exact t_D_figure_152 hA hT hD M hw
                    · have hw := hw.2 hc
                      refine x_iload_n 1 1 d_D_figure_123 rfl rfl ?_
                      refine x_bipush (v := 10) d_D_figure_124 (by decide) ?_
                      refine x_isub d_D_figure_126 ?_
                      refine x_aload_n 0 0 d_D_figure_127 rfl rfl ?_
                      refine x_getr 0 1 d_D_figure_128 hD.1 hD.2.1 rfl rfl (by decide) lay_D (List.mem_cons_of_mem _ q281) rfl ?_
                      refine x_geti 1 d_D_figure_131 hD.schema.1 hD.schema.2.1 rfl rfl (by decide) lay_C (List.mem_cons_of_mem _ q282) rfl ?_
                      refine x_icmp_ge 152 d_D_figure_134 rfl (fun hc => ?_) (fun hc => ?_)
                      · have hw := hw.1 hc
                        refine x_sub [] [] rfl ?_
                        exact t_D_figure_152 hA hT hD M hw
                      · have hw := hw.2 hc
                        refine x_aload_n 0 0 d_D_figure_137 rfl rfl ?_
                        refine x_getr 1 25 d_D_figure_138 hD.1 hD.2.1 rfl rfl (by decide) lay_D (List.mem_cons_of_mem _ q253) rfl ?_
                        refine x_getr 0 (25 + 1) d_D_figure_141 hD.running.1 hD.running.2.1 rfl rfl (by decide) lay_S (List.mem_cons_of_mem _ q283) rfl ?_
                        refine x_iload_n 1 1 d_D_figure_144 rfl rfl ?_
                        refine x_bipush (v := 10) d_D_figure_145 (by decide) ?_
                        refine x_isub d_D_figure_147 ?_
                        obtain ⟨hi6, hw⟩ := hw
                        refine x_iald d_D_figure_148 hD.running.counts.1 hD.running.counts.2 rfl hi6 ?_
                        refine x_goto 153 d_D_figure_149 rfl ?_
                        refine x_sub [] [] rfl ?_
                        exact t_D_figure_153 hA hT hD M (M (25 + 1) (a1 - (10 : Int32)).toNatClampNeg) hw
end
theorem q288 : (.fieldLink "SettingsDesk" 134 "SettingsDesk$Schema" "isReady" "Z" : Cond) ∈ sdB0 := sd_tb1 105 rfl rfl
theorem q289 : (.code ⟨"SettingsDesk", "requireOpenSchema", "()V"⟩ prog_1_method_22_code 1 none : Cond) ∈ sdB0 := sd_tb2 69 rfl rfl
theorem q290 : (.classLink "SettingsDesk" 70 "java/lang/IllegalStateException" : Cond) ∈ sdB0 := sd_tb2 70 rfl rfl
theorem q291 : (.initialized "java/lang/IllegalStateException" : Cond) ∈ sdB0 := sd_tb1 12 rfl rfl
theorem q292 : (.instantiable "java/lang/IllegalStateException" 6 : Cond) ∈ sdB0 := sd_tb2 71 rfl rfl
abbrev y_D_requireOpenSchema : MethodName := ⟨"SettingsDesk", "requireOpenSchema", "()V"⟩
theorem d_D_requireOpenSchema_0 : decode prog_1_method_22_code 0 = .ok (.aload_n 0, 1) := by decide +kernel
theorem d_D_requireOpenSchema_1 : decode prog_1_method_22_code 1 = .ok (.getfield 56, 3) := by decide +kernel
theorem d_D_requireOpenSchema_4 : decode prog_1_method_22_code 4 = .ok (.ifCond .ne (13), 3) := by decide +kernel
theorem d_D_requireOpenSchema_7 : decode prog_1_method_22_code 7 = .ok (.aload_n 0, 1) := by decide +kernel
theorem d_D_requireOpenSchema_8 : decode prog_1_method_22_code 8 = .ok (.getfield 12, 3) := by decide +kernel
theorem d_D_requireOpenSchema_11 : decode prog_1_method_22_code 11 = .ok (.getfield 134, 3) := by decide +kernel
theorem d_D_requireOpenSchema_14 : decode prog_1_method_22_code 14 = .ok (.ifCond .eq (14), 3) := by decide +kernel
theorem d_D_requireOpenSchema_17 : decode prog_1_method_22_code 17 = .ok (.new 70, 3) := by decide +kernel
theorem d_D_requireOpenSchema_20 : decode prog_1_method_22_code 20 = .ok (.dup, 1) := by decide +kernel
theorem d_D_requireOpenSchema_21 : decode prog_1_method_22_code 21 = .ok (.ldc_w 292, 3) := by decide +kernel
theorem d_D_requireOpenSchema_24 : decode prog_1_method_22_code 24 = .ok (.invokespecial 74, 3) := by decide +kernel
theorem d_D_requireOpenSchema_27 : decode prog_1_method_22_code 27 = .ok (.athrow, 1) := by decide +kernel
theorem d_D_requireOpenSchema_28 : decode prog_1_method_22_code 28 = .ok (.return_, 1) := by decide +kernel
def Y_D_requireOpenSchema : sdY := ("SettingsDesk", prog_1_method_22_code, 1, none, .code y_D_requireOpenSchema prog_1_method_22_code 1 none :: sdB0, { frames := 6, cells := 1, slots := 6, locals := 82 }, 1, 6, [])
section
variable {l : Launch} {D : va_G} {dA : Nat → ClassId} {b n : Nat} {ad : Nat → Nat} {L : Nat → sdL} {sc : Option (Nat × Nat × (Nat → Int32))}
def k_D_requireOpenSchema_17 (Q : sdM → Prop) (X : String → sdM → Prop) (M : sdM) : Prop := X "java/lang/IllegalStateException" M
set_option maxHeartbeats 1000000 in
theorem t_D_requireOpenSchema_17 (hA : sd_ad b n ad) (hT : l.stackTraces = false) (hD : isD n L dA) {Q : sdM → Prop} {X : String → sdM → Prop} (M : sdM) (hw : k_D_requireOpenSchema_17 Q X M ) : sdW l (sdE0 sc) Y_D_requireOpenSchema D (sd_tys dA) b n ad L ad (sd_H D (sdE0 sc).1 n ad L) (sd_qv Q) X 17 [] [] M 1 6 := by
  unfold k_D_requireOpenSchema_17 at hw
  exact x_throwS (names := sdExN) (is := 292) (ic := 74) (rc := 0) (rs := 0) hT rfl fit_ISE fit_N (sd_goodB q289) (List.mem_cons_of_mem _ q290) (List.mem_cons_of_mem _ q291) (List.mem_cons_of_mem _ q292) (List.mem_of_getElem? (i := 0) rfl) oa_ISE d_D_requireOpenSchema_17 d_D_requireOpenSchema_20 (Or.inr ⟨d_D_requireOpenSchema_21, rfl⟩) d_D_requireOpenSchema_24 d_D_requireOpenSchema_27 (by decide) (Nat.le_of_ble_eq_true rfl) rfl rfl (fun _ _ h => h) hw
def w_D_requireOpenSchema (M : sdM) (Q : sdM → Prop) (X : String → sdM → Prop) : Prop := (¬ (M 0 10) = 0 → k_D_requireOpenSchema_17 Q X M) ∧ ((M 0 10) = 0 → ((M 1 0) = 0 → Q M) ∧ (¬ (M 1 0) = 0 → k_D_requireOpenSchema_17 Q X M))
set_option maxHeartbeats 1000000 in
theorem c_D_requireOpenSchema (hA : sd_ad b n ad) (hT : l.stackTraces = false) (hD : isD n L dA) {Q : sdM → Prop} {X : String → sdM → Prop} {M : sdM} (hw : w_D_requireOpenSchema M Q X) : sd_Cn l (sdE0 sc) y_D_requireOpenSchema Y_D_requireOpenSchema.2.2.2.2.1 Y_D_requireOpenSchema.2.2.2.2.2.1 1 6 D (sd_tys dA) b n ad L M [.ref 0] (sd_qv Q) X := by
  refine sd_enter (Y := Y_D_requireOpenSchema) rfl rfl rfl rfl (Nat.le_of_ble_eq_true rfl) ?_
  show sdW l (sdE0 sc) Y_D_requireOpenSchema D (sd_tys dA) b n ad L ad (sd_H D (sdE0 sc).1 n ad L) (sd_qv Q) X 0 [(0, .ref 0)] [] M 1 6
  unfold w_D_requireOpenSchema at hw
  refine x_aload_n 0 0 d_D_requireOpenSchema_0 rfl rfl ?_
  refine x_geti 10 d_D_requireOpenSchema_1 hD.1 hD.2.1 rfl rfl (by decide) lay_D (List.mem_cons_of_mem _ q264) rfl ?_
  refine x_if_ne 17 d_D_requireOpenSchema_4 rfl (fun hc => ?_) (fun hc => ?_)
  · have hw := hw.1 hc
    refine x_sub [] [] rfl ?_
    exact t_D_requireOpenSchema_17 hA hT hD M hw
  · have hw := hw.2 hc
    refine x_aload_n 0 0 d_D_requireOpenSchema_7 rfl rfl ?_
    refine x_getr 0 1 d_D_requireOpenSchema_8 hD.1 hD.2.1 rfl rfl (by decide) lay_D (List.mem_cons_of_mem _ q281) rfl ?_
    refine x_geti 0 d_D_requireOpenSchema_11 hD.schema.1 hD.schema.2.1 rfl rfl (by decide) lay_C (List.mem_cons_of_mem _ q288) rfl ?_
    refine x_if_eq 28 d_D_requireOpenSchema_14 rfl (fun hc => ?_) (fun hc => ?_)
    · have hw := hw.1 hc
      exact x_vret d_D_requireOpenSchema_28 rfl (fun _ h => h) ⟨rfl, hw⟩
    · have hw := hw.2 hc
      refine x_sub [] [] rfl ?_
      exact t_D_requireOpenSchema_17 hA hT hD M hw
end
theorem q293 : (.code ⟨"SettingsDesk", "list", "()I"⟩ prog_1_method_2_code 1 (some .int) : Cond) ∈ sdB0 := sd_tb2 65 rfl rfl
theorem q294 : (.methodLink "SettingsDesk" 64 ⟨"SettingsDesk", "requireOpenSchema", "()V"⟩ : Cond) ∈ sdB0 := sd_tb2 66 rfl rfl
theorem q295 : (.instanceMethod ⟨"SettingsDesk", "requireOpenSchema", "()V"⟩ : Cond) ∈ sdB0 := sd_tb2 68 rfl rfl
theorem q296 : (.selects "SettingsDesk" ⟨"SettingsDesk", "requireOpenSchema", "()V"⟩ ⟨"SettingsDesk", "requireOpenSchema", "()V"⟩ : Cond) ∈ sdB0 := sd_tbp (q := (⟨"SettingsDesk", "requireOpenSchema", "()V"⟩, 12)) (List.mem_of_getElem? (i := 2) rfl)
abbrev y_D_list : MethodName := ⟨"SettingsDesk", "list", "()I"⟩
theorem d_D_list_0 : decode prog_1_method_2_code 0 = .ok (.aload_n 0, 1) := by decide +kernel
theorem d_D_list_1 : decode prog_1_method_2_code 1 = .ok (.invokevirtual 64, 3) := by decide +kernel
theorem d_D_list_4 : decode prog_1_method_2_code 4 = .ok (.aload_n 0, 1) := by decide +kernel
theorem d_D_list_5 : decode prog_1_method_2_code 5 = .ok (.getfield 12, 3) := by decide +kernel
theorem d_D_list_8 : decode prog_1_method_2_code 8 = .ok (.getfield 67, 3) := by decide +kernel
theorem d_D_list_11 : decode prog_1_method_2_code 11 = .ok (.iconst 4, 1) := by decide +kernel
theorem d_D_list_12 : decode prog_1_method_2_code 12 = .ok (.if_icmp .lt (13), 3) := by decide +kernel
theorem d_D_list_15 : decode prog_1_method_2_code 15 = .ok (.new 70, 3) := by decide +kernel
theorem d_D_list_18 : decode prog_1_method_2_code 18 = .ok (.dup, 1) := by decide +kernel
theorem d_D_list_19 : decode prog_1_method_2_code 19 = .ok (.ldc 72, 2) := by decide +kernel
theorem d_D_list_21 : decode prog_1_method_2_code 21 = .ok (.invokespecial 74, 3) := by decide +kernel
theorem d_D_list_24 : decode prog_1_method_2_code 24 = .ok (.athrow, 1) := by decide +kernel
theorem d_D_list_25 : decode prog_1_method_2_code 25 = .ok (.aload_n 0, 1) := by decide +kernel
theorem d_D_list_26 : decode prog_1_method_2_code 26 = .ok (.getfield 12, 3) := by decide +kernel
theorem d_D_list_29 : decode prog_1_method_2_code 29 = .ok (.dup, 1) := by decide +kernel
theorem d_D_list_30 : decode prog_1_method_2_code 30 = .ok (.getfield 67, 3) := by decide +kernel
theorem d_D_list_33 : decode prog_1_method_2_code 33 = .ok (.iconst 1, 1) := by decide +kernel
theorem d_D_list_34 : decode prog_1_method_2_code 34 = .ok (.iadd, 1) := by decide +kernel
theorem d_D_list_35 : decode prog_1_method_2_code 35 = .ok (.putfield 67, 3) := by decide +kernel
theorem d_D_list_38 : decode prog_1_method_2_code 38 = .ok (.aload_n 0, 1) := by decide +kernel
theorem d_D_list_39 : decode prog_1_method_2_code 39 = .ok (.getfield 12, 3) := by decide +kernel
theorem d_D_list_42 : decode prog_1_method_2_code 42 = .ok (.getfield 67, 3) := by decide +kernel
theorem d_D_list_45 : decode prog_1_method_2_code 45 = .ok (.iconst 1, 1) := by decide +kernel
theorem d_D_list_46 : decode prog_1_method_2_code 46 = .ok (.isub, 1) := by decide +kernel
theorem d_D_list_47 : decode prog_1_method_2_code 47 = .ok (.ireturn, 1) := by decide +kernel
def Y_D_list : sdY := ("SettingsDesk", prog_1_method_2_code, 1, (some .int), .code y_D_list prog_1_method_2_code 1 (some .int) :: sdB0, { frames := 7, cells := 2, slots := 12, locals := 102 }, 2, 12, [])
theorem cw_D_list_D_requireOpenSchema_64 : sd_cwV Y_D_list Y_D_requireOpenSchema y_D_requireOpenSchema 64 0 "SettingsDesk" := ⟨sd_goodV q294 q295 q296 q274 q289, ⟨_, rfl⟩, ⟨rfl, rfl, rfl, rfl⟩, ⟨rfl, by decide, by decide, by decide +kernel⟩, ⟨by decide, by decide⟩⟩
section
variable {l : Launch} {D : va_G} {dA : Nat → ClassId} {b n : Nat} {ad : Nat → Nat} {L : Nat → sdL} {sc : Option (Nat × Nat × (Nat → Int32))}
def w_D_list (M : sdM) (Q : Int32 → sdM → Prop) (X : String → sdM → Prop) : Prop := w_D_requireOpenSchema M (fun M4 => ((M4 1 1) < (4 : Int32) → ∀ M5 : sdM, M5 = sd_s M4 1 1 ((M4 1 1) + (1 : Int32)) → Q ((M5 1 1) - (1 : Int32)) M5) ∧ (¬ (M4 1 1) < (4 : Int32) → X "java/lang/IllegalStateException" M4)) X
set_option maxHeartbeats 1000000 in
theorem c_D_list (hA : sd_ad b n ad) (hT : l.stackTraces = false) (hD : isD n L dA) {Q : Int32 → sdM → Prop} {X : String → sdM → Prop} {M : sdM} (hw : w_D_list M Q X) : sd_Cn l (sdE0 sc) y_D_list Y_D_list.2.2.2.2.1 Y_D_list.2.2.2.2.2.1 2 12 D (sd_tys dA) b n ad L M [.ref 0] (sd_qi Q) X := by
  refine sd_enter (Y := Y_D_list) rfl rfl rfl rfl (Nat.le_of_ble_eq_true rfl) ?_
  show sdW l (sdE0 sc) Y_D_list D (sd_tys dA) b n ad L ad (sd_H D (sdE0 sc).1 n ad L) (sd_qi Q) X 0 [(0, .ref 0)] [] M 2 12
  unfold w_D_list at hw
  refine x_aload_n 0 0 d_D_list_0 rfl rfl ?_
  refine x_callVv (As := []) (t := 0) (rest := []) (rc := 1) (rs := 6) (c_D_requireOpenSchema hA hT hD hw) cw_D_list_D_requireOpenSchema_64 hD.1 hD.2.1 rfl d_D_list_1 rfl rfl (Nat.le_of_ble_eq_true rfl) rfl (fun _ _ h => h) (fun _ _ h => h) (fun M4 hw => ?_)
  refine x_aload_n 0 0 d_D_list_4 rfl rfl ?_
  refine x_getr 0 1 d_D_list_5 hD.1 hD.2.1 rfl rfl (by decide) lay_D (List.mem_cons_of_mem _ q281) rfl ?_
  refine x_geti 1 d_D_list_8 hD.schema.1 hD.schema.2.1 rfl rfl (by decide) lay_C (List.mem_cons_of_mem _ q282) rfl ?_
  refine x_iconst (v := 4) d_D_list_11 (by decide) ?_
  refine x_icmp_lt 25 d_D_list_12 rfl (fun hc => ?_) (fun hc => ?_)
  · have hw := hw.1 hc
    refine x_aload_n 0 0 d_D_list_25 rfl rfl ?_
    refine x_getr 0 1 d_D_list_26 hD.1 hD.2.1 rfl rfl (by decide) lay_D (List.mem_cons_of_mem _ q281) rfl ?_
    refine x_dup d_D_list_29 rfl ?_
    refine x_geti 1 d_D_list_30 hD.schema.1 hD.schema.2.1 rfl rfl (by decide) lay_C (List.mem_cons_of_mem _ q282) rfl ?_
    refine x_iconst (v := 1) d_D_list_33 (by decide) ?_
    refine x_iadd d_D_list_34 ?_
    refine x_puti 1 (ty := .int) hA d_D_list_35 hD.schema.1 hD.schema.2.1 rfl rfl (by decide) lay_C (List.mem_cons_of_mem _ q282) rfl ty_C ty_C_ok nm_C rfl (by decide +kernel) rfl rfl (fun M5 e6 => ?_)
    have hw := hw M5 e6
    clear e6
    refine x_aload_n 0 0 d_D_list_38 rfl rfl ?_
    refine x_getr 0 1 d_D_list_39 hD.1 hD.2.1 rfl rfl (by decide) lay_D (List.mem_cons_of_mem _ q281) rfl ?_
    refine x_geti 1 d_D_list_42 hD.schema.1 hD.schema.2.1 rfl rfl (by decide) lay_C (List.mem_cons_of_mem _ q282) rfl ?_
    refine x_iconst (v := 1) d_D_list_45 (by decide) ?_
    refine x_isub d_D_list_46 ?_
    exact x_iret d_D_list_47 rfl (fun _ h => h) ⟨_, rfl, hw⟩
  · have hw := hw.2 hc
    exact x_throwS (names := sdExN) (is := 72) (ic := 74) (rc := 0) (rs := 0) hT rfl fit_ISE fit_N (sd_goodB q293) (List.mem_cons_of_mem _ q290) (List.mem_cons_of_mem _ q291) (List.mem_cons_of_mem _ q292) (List.mem_of_getElem? (i := 1) rfl) oa_ISE d_D_list_15 d_D_list_18 (Or.inl ⟨d_D_list_19, rfl⟩) d_D_list_21 d_D_list_24 (by decide) (Nat.le_of_ble_eq_true rfl) rfl rfl (fun _ _ h => h) hw
end
theorem q297 : (.code ⟨"SettingsDesk", "requireList", "(I)V"⟩ prog_1_method_24_code 2 none : Cond) ∈ sdB0 := sd_tb2 152 rfl rfl
theorem q298 : (.classLink "SettingsDesk" 206 "java/lang/IndexOutOfBoundsException" : Cond) ∈ sdB0 := sd_tb2 157 rfl rfl
theorem q299 : (.initialized "java/lang/IndexOutOfBoundsException" : Cond) ∈ sdB0 := sd_tb1 13 rfl rfl
theorem q300 : (.instantiable "java/lang/IndexOutOfBoundsException" 6 : Cond) ∈ sdB0 := sd_tb2 158 rfl rfl
theorem q301 : (.methodLink "SettingsDesk" 296 ⟨"SettingsDesk$Schema", "hasList", "(I)Z"⟩ : Cond) ∈ sdB0 := sd_tb2 153 rfl rfl
abbrev y_D_requireList : MethodName := ⟨"SettingsDesk", "requireList", "(I)V"⟩
theorem d_D_requireList_0 : decode prog_1_method_24_code 0 = .ok (.aload_n 0, 1) := by decide +kernel
theorem d_D_requireList_1 : decode prog_1_method_24_code 1 = .ok (.getfield 12, 3) := by decide +kernel
theorem d_D_requireList_4 : decode prog_1_method_24_code 4 = .ok (.iload_n 1, 1) := by decide +kernel
theorem d_D_requireList_5 : decode prog_1_method_24_code 5 = .ok (.invokevirtual 296, 3) := by decide +kernel
theorem d_D_requireList_8 : decode prog_1_method_24_code 8 = .ok (.ifCond .ne (14), 3) := by decide +kernel
theorem d_D_requireList_11 : decode prog_1_method_24_code 11 = .ok (.new 206, 3) := by decide +kernel
theorem d_D_requireList_14 : decode prog_1_method_24_code 14 = .ok (.dup, 1) := by decide +kernel
theorem d_D_requireList_15 : decode prog_1_method_24_code 15 = .ok (.ldc_w 299, 3) := by decide +kernel
theorem d_D_requireList_18 : decode prog_1_method_24_code 18 = .ok (.invokespecial 210, 3) := by decide +kernel
theorem d_D_requireList_21 : decode prog_1_method_24_code 21 = .ok (.athrow, 1) := by decide +kernel
theorem d_D_requireList_22 : decode prog_1_method_24_code 22 = .ok (.return_, 1) := by decide +kernel
def Y_D_requireList : sdY := ("SettingsDesk", prog_1_method_24_code, 2, none, .code y_D_requireList prog_1_method_24_code 2 none :: sdB0, { frames := 6, cells := 1, slots := 6, locals := 82 }, 1, 6, [])
theorem cw_D_requireList_C_hasList_296 : sd_cwV Y_D_requireList Y_C_hasList y_C_hasList 296 1 "SettingsDesk$Schema" := ⟨sd_goodV q301 q75 q76 q77 q74, ⟨_, rfl⟩, ⟨rfl, rfl, rfl, rfl⟩, ⟨rfl, by decide, by decide, by decide +kernel⟩, ⟨by decide, by decide⟩⟩
section
variable {l : Launch} {D : va_G} {dA : Nat → ClassId} {b n : Nat} {ad : Nat → Nat} {L : Nat → sdL} {sc : Option (Nat × Nat × (Nat → Int32))}
def w_D_requireList (M : sdM) (a1 : Int32) (Q : sdM → Prop) (X : String → sdM → Prop) : Prop := w_C_hasList M a1 (fun r4 M3 => (¬ r4 = 0 → Q M3) ∧ (r4 = 0 → X "java/lang/IndexOutOfBoundsException" M3))
set_option maxHeartbeats 1000000 in
theorem c_D_requireList {a1 : Int32} (hA : sd_ad b n ad) (hT : l.stackTraces = false) (hD : isD n L dA) {Q : sdM → Prop} {X : String → sdM → Prop} {M : sdM} (hw : w_D_requireList M a1 Q X) : sd_Cn l (sdE0 sc) y_D_requireList Y_D_requireList.2.2.2.2.1 Y_D_requireList.2.2.2.2.2.1 1 6 D (sd_tys dA) b n ad L M [.ref 0, .int a1] (sd_qv Q) X := by
  refine sd_enter (Y := Y_D_requireList) rfl rfl rfl rfl (Nat.le_of_ble_eq_true rfl) ?_
  show sdW l (sdE0 sc) Y_D_requireList D (sd_tys dA) b n ad L ad (sd_H D (sdE0 sc).1 n ad L) (sd_qv Q) X 0 [(0, .ref 0), (1, .int a1)] [] M 1 6
  unfold w_D_requireList at hw
  refine x_aload_n 0 0 d_D_requireList_0 rfl rfl ?_
  refine x_getr 0 1 d_D_requireList_1 hD.1 hD.2.1 rfl rfl (by decide) lay_D (List.mem_cons_of_mem _ q281) rfl ?_
  refine x_iload_n 1 1 d_D_requireList_4 rfl rfl ?_
  refine x_callVi (As := [.int a1]) (t := 1) (rest := []) (rc := 1) (rs := 6) (c_C_hasList hA hT hD.schema hw) cw_D_requireList_C_hasList_296 hD.schema.1 hD.schema.2.1 rfl d_D_requireList_5 rfl rfl (Nat.le_of_ble_eq_true rfl) rfl (fun _ _ h => h.elim) (fun _ _ h => h) (fun r4 M3 hw => ?_)
  refine x_if_ne 22 d_D_requireList_8 rfl (fun hc => ?_) (fun hc => ?_)
  · have hw := hw.1 hc
    exact x_vret d_D_requireList_22 rfl (fun _ h => h) ⟨rfl, hw⟩
  · have hw := hw.2 hc
    exact x_throwS (names := sdExN) (is := 299) (ic := 210) (rc := 0) (rs := 0) hT rfl fit_IOB fit_N (sd_goodB q297) (List.mem_cons_of_mem _ q298) (List.mem_cons_of_mem _ q299) (List.mem_cons_of_mem _ q300) (List.mem_of_getElem? (i := 2) rfl) oa_IOB d_D_requireList_11 d_D_requireList_14 (Or.inr ⟨d_D_requireList_15, rfl⟩) d_D_requireList_18 d_D_requireList_21 (by decide) (Nat.le_of_ble_eq_true rfl) rfl rfl (fun _ _ h => h) hw
end
theorem q302 : (.fieldLink "SettingsDesk" 81 "SettingsDesk$Schema" "leaves" "[I" : Cond) ∈ sdB0 := sd_tb1 110 rfl rfl
theorem q303 : (.code ⟨"SettingsDesk", "leaf", "(IIIII)I"⟩ prog_1_method_3_code 6 (some .int) : Cond) ∈ sdB0 := sd_tb2 148 rfl rfl
theorem q304 : (.classLink "SettingsDesk" 91 "java/lang/IllegalArgumentException" : Cond) ∈ sdB0 := sd_tb2 179 rfl rfl
theorem q305 : (.initialized "java/lang/IllegalArgumentException" : Cond) ∈ sdB0 := sd_tb1 14 rfl rfl
theorem q306 : (.instantiable "java/lang/IllegalArgumentException" 6 : Cond) ∈ sdB0 := sd_tb2 180 rfl rfl
theorem q307 : (.methodLink "SettingsDesk" 77 ⟨"SettingsDesk", "requireList", "(I)V"⟩ : Cond) ∈ sdB0 := sd_tb2 149 rfl rfl
theorem q308 : (.instanceMethod ⟨"SettingsDesk", "requireList", "(I)V"⟩ : Cond) ∈ sdB0 := sd_tb2 151 rfl rfl
theorem q309 : (.selects "SettingsDesk" ⟨"SettingsDesk", "requireList", "(I)V"⟩ ⟨"SettingsDesk", "requireList", "(I)V"⟩ : Cond) ∈ sdB0 := sd_tbp (q := (⟨"SettingsDesk", "requireList", "(I)V"⟩, 12)) (List.mem_of_getElem? (i := 4) rfl)
theorem q310 : (.methodLink "SettingsDesk" 87 ⟨"SettingsDesk$Schema", "allowsLeaf", "(III)Z"⟩ : Cond) ∈ sdB0 := sd_tb2 174 rfl rfl
theorem q311 : (.code ⟨"SettingsDesk$Schema", "allowsLeaf", "(III)Z"⟩ prog_7_method_5_code 4 (some .boolean) : Cond) ∈ sdB0 := sd_tb2 177 rfl rfl
theorem q312 : (.instanceMethod ⟨"SettingsDesk$Schema", "allowsLeaf", "(III)Z"⟩ : Cond) ∈ sdB0 := sd_tb2 175 rfl rfl
theorem q313 : (.selects "SettingsDesk$Schema" ⟨"SettingsDesk$Schema", "allowsLeaf", "(III)Z"⟩ ⟨"SettingsDesk$Schema", "allowsLeaf", "(III)Z"⟩ : Cond) ∈ sdB0 := sd_tb2 176 rfl rfl
theorem q314 : (.methodLink "SettingsDesk" 96 ⟨"SettingsDesk$Schema", "addLeaf", "(IIIII)I"⟩ : Cond) ∈ sdB0 := sd_tb2 195 rfl rfl
theorem q315 : (.code ⟨"SettingsDesk$Schema", "addLeaf", "(IIIII)I"⟩ prog_7_method_6_code 8 (some .int) : Cond) ∈ sdB0 := sd_tb2 198 rfl rfl
theorem q316 : (.instanceMethod ⟨"SettingsDesk$Schema", "addLeaf", "(IIIII)I"⟩ : Cond) ∈ sdB0 := sd_tb2 196 rfl rfl
theorem q317 : (.selects "SettingsDesk$Schema" ⟨"SettingsDesk$Schema", "addLeaf", "(IIIII)I"⟩ ⟨"SettingsDesk$Schema", "addLeaf", "(IIIII)I"⟩ : Cond) ∈ sdB0 := sd_tb2 197 rfl rfl
abbrev y_D_leaf : MethodName := ⟨"SettingsDesk", "leaf", "(IIIII)I"⟩
theorem d_D_leaf_0 : decode prog_1_method_3_code 0 = .ok (.aload_n 0, 1) := by decide +kernel
theorem d_D_leaf_1 : decode prog_1_method_3_code 1 = .ok (.invokevirtual 64, 3) := by decide +kernel
theorem d_D_leaf_4 : decode prog_1_method_3_code 4 = .ok (.aload_n 0, 1) := by decide +kernel
theorem d_D_leaf_5 : decode prog_1_method_3_code 5 = .ok (.iload_n 1, 1) := by decide +kernel
theorem d_D_leaf_6 : decode prog_1_method_3_code 6 = .ok (.invokevirtual 77, 3) := by decide +kernel
theorem d_D_leaf_9 : decode prog_1_method_3_code 9 = .ok (.aload_n 0, 1) := by decide +kernel
theorem d_D_leaf_10 : decode prog_1_method_3_code 10 = .ok (.getfield 12, 3) := by decide +kernel
theorem d_D_leaf_13 : decode prog_1_method_3_code 13 = .ok (.getfield 81, 3) := by decide +kernel
theorem d_D_leaf_16 : decode prog_1_method_3_code 16 = .ok (.iload_n 1, 1) := by decide +kernel
theorem d_D_leaf_17 : decode prog_1_method_3_code 17 = .ok (.iaload, 1) := by decide +kernel
theorem d_D_leaf_18 : decode prog_1_method_3_code 18 = .ok (.iconst 4, 1) := by decide +kernel
theorem d_D_leaf_19 : decode prog_1_method_3_code 19 = .ok (.if_icmp .lt (13), 3) := by decide +kernel
theorem d_D_leaf_22 : decode prog_1_method_3_code 22 = .ok (.new 70, 3) := by decide +kernel
theorem d_D_leaf_25 : decode prog_1_method_3_code 25 = .ok (.dup, 1) := by decide +kernel
theorem d_D_leaf_26 : decode prog_1_method_3_code 26 = .ok (.ldc 85, 2) := by decide +kernel
theorem d_D_leaf_28 : decode prog_1_method_3_code 28 = .ok (.invokespecial 74, 3) := by decide +kernel
theorem d_D_leaf_31 : decode prog_1_method_3_code 31 = .ok (.athrow, 1) := by decide +kernel
theorem d_D_leaf_32 : decode prog_1_method_3_code 32 = .ok (.aload_n 0, 1) := by decide +kernel
theorem d_D_leaf_33 : decode prog_1_method_3_code 33 = .ok (.getfield 12, 3) := by decide +kernel
theorem d_D_leaf_36 : decode prog_1_method_3_code 36 = .ok (.iload_n 2, 1) := by decide +kernel
theorem d_D_leaf_37 : decode prog_1_method_3_code 37 = .ok (.iload_n 3, 1) := by decide +kernel
theorem d_D_leaf_38 : decode prog_1_method_3_code 38 = .ok (.iload 4, 2) := by decide +kernel
theorem d_D_leaf_40 : decode prog_1_method_3_code 40 = .ok (.invokevirtual 87, 3) := by decide +kernel
theorem d_D_leaf_43 : decode prog_1_method_3_code 43 = .ok (.ifCond .eq (14), 3) := by decide +kernel
theorem d_D_leaf_46 : decode prog_1_method_3_code 46 = .ok (.iload 5, 2) := by decide +kernel
theorem d_D_leaf_48 : decode prog_1_method_3_code 48 = .ok (.ifCond .lt (9), 3) := by decide +kernel
theorem d_D_leaf_51 : decode prog_1_method_3_code 51 = .ok (.iload 5, 2) := by decide +kernel
theorem d_D_leaf_53 : decode prog_1_method_3_code 53 = .ok (.iconst 3, 1) := by decide +kernel
theorem d_D_leaf_54 : decode prog_1_method_3_code 54 = .ok (.if_icmp .le (13), 3) := by decide +kernel
theorem d_D_leaf_57 : decode prog_1_method_3_code 57 = .ok (.new 91, 3) := by decide +kernel
theorem d_D_leaf_60 : decode prog_1_method_3_code 60 = .ok (.dup, 1) := by decide +kernel
theorem d_D_leaf_61 : decode prog_1_method_3_code 61 = .ok (.ldc 93, 2) := by decide +kernel
theorem d_D_leaf_63 : decode prog_1_method_3_code 63 = .ok (.invokespecial 95, 3) := by decide +kernel
theorem d_D_leaf_66 : decode prog_1_method_3_code 66 = .ok (.athrow, 1) := by decide +kernel
theorem d_D_leaf_67 : decode prog_1_method_3_code 67 = .ok (.aload_n 0, 1) := by decide +kernel
theorem d_D_leaf_68 : decode prog_1_method_3_code 68 = .ok (.getfield 12, 3) := by decide +kernel
theorem d_D_leaf_71 : decode prog_1_method_3_code 71 = .ok (.iload_n 1, 1) := by decide +kernel
theorem d_D_leaf_72 : decode prog_1_method_3_code 72 = .ok (.iload_n 2, 1) := by decide +kernel
theorem d_D_leaf_73 : decode prog_1_method_3_code 73 = .ok (.iload_n 3, 1) := by decide +kernel
theorem d_D_leaf_74 : decode prog_1_method_3_code 74 = .ok (.iload 4, 2) := by decide +kernel
theorem d_D_leaf_76 : decode prog_1_method_3_code 76 = .ok (.iload 5, 2) := by decide +kernel
theorem d_D_leaf_78 : decode prog_1_method_3_code 78 = .ok (.invokevirtual 96, 3) := by decide +kernel
theorem d_D_leaf_81 : decode prog_1_method_3_code 81 = .ok (.ireturn, 1) := by decide +kernel
def Y_D_leaf : sdY := ("SettingsDesk", prog_1_method_3_code, 6, (some .int), .code y_D_leaf prog_1_method_3_code 6 (some .int) :: sdB0, { frames := 7, cells := 3, slots := 18, locals := 103 }, 3, 18, [])
theorem cw_D_leaf_D_requireOpenSchema_64 : sd_cwV Y_D_leaf Y_D_requireOpenSchema y_D_requireOpenSchema 64 0 "SettingsDesk" := ⟨sd_goodV q294 q295 q296 q274 q289, ⟨_, rfl⟩, ⟨rfl, rfl, rfl, rfl⟩, ⟨rfl, by decide, by decide, by decide +kernel⟩, ⟨by decide, by decide⟩⟩
theorem cw_D_leaf_D_requireList_77 : sd_cwV Y_D_leaf Y_D_requireList y_D_requireList 77 1 "SettingsDesk" := ⟨sd_goodV q307 q308 q309 q274 q297, ⟨_, rfl⟩, ⟨rfl, rfl, rfl, rfl⟩, ⟨rfl, by decide, by decide, by decide +kernel⟩, ⟨by decide, by decide⟩⟩
theorem cw_D_leaf_C_allowsLeaf_87 : sd_cwV Y_D_leaf Y_C_allowsLeaf y_C_allowsLeaf 87 3 "SettingsDesk$Schema" := ⟨sd_goodV q310 q312 q313 q77 q311, ⟨_, rfl⟩, ⟨rfl, rfl, rfl, rfl⟩, ⟨rfl, by decide, by decide, by decide +kernel⟩, ⟨by decide, by decide⟩⟩
theorem cw_D_leaf_C_addLeaf_96 : sd_cwV Y_D_leaf Y_C_addLeaf y_C_addLeaf 96 5 "SettingsDesk$Schema" := ⟨sd_goodV q314 q316 q317 q77 q315, ⟨_, rfl⟩, ⟨rfl, rfl, rfl, rfl⟩, ⟨rfl, by decide, by decide, by decide +kernel⟩, ⟨by decide, by decide⟩⟩
section
variable {l : Launch} {D : va_G} {dA : Nat → ClassId} {b n : Nat} {ad : Nat → Nat} {L : Nat → sdL} {sc : Option (Nat × Nat × (Nat → Int32))}
def k_D_leaf_57 (Q : Int32 → sdM → Prop) (X : String → sdM → Prop) (M : sdM) : Prop := X "java/lang/IllegalArgumentException" M
set_option maxHeartbeats 1000000 in
theorem t_D_leaf_57 (hA : sd_ad b n ad) (hT : l.stackTraces = false) (hD : isD n L dA) {Q : Int32 → sdM → Prop} {X : String → sdM → Prop} (M : sdM) (hw : k_D_leaf_57 Q X M ) : sdW l (sdE0 sc) Y_D_leaf D (sd_tys dA) b n ad L ad (sd_H D (sdE0 sc).1 n ad L) (sd_qi Q) X 57 [] [] M 1 6 := by
  unfold k_D_leaf_57 at hw
  exact x_throwS (names := sdExN) (is := 93) (ic := 95) (rc := 0) (rs := 0) hT rfl fit_IAE fit_N (sd_goodB q303) (List.mem_cons_of_mem _ q304) (List.mem_cons_of_mem _ q305) (List.mem_cons_of_mem _ q306) (List.mem_of_getElem? (i := 4) rfl) oa_IAE d_D_leaf_57 d_D_leaf_60 (Or.inl ⟨d_D_leaf_61, rfl⟩) d_D_leaf_63 d_D_leaf_66 (by decide) (Nat.le_of_ble_eq_true rfl) rfl rfl (fun _ _ h => h) hw
def w_D_leaf (M : sdM) (a1 : Int32) (a2 : Int32) (a3 : Int32) (a4 : Int32) (a5 : Int32) (Q : Int32 → sdM → Prop) (X : String → sdM → Prop) : Prop := w_D_requireOpenSchema M (fun M8 => w_D_requireList M8 a1 (fun M9 => vp_in a1 4 ∧ ((M9 2 a1.toNatClampNeg) < (4 : Int32) → w_C_allowsLeaf M9 a2 a3 a4 (fun r12 M11 => (r12 = 0 → k_D_leaf_57 Q X M11) ∧ (¬ r12 = 0 → (a5 < 0 → k_D_leaf_57 Q X M11) ∧ (¬ a5 < 0 → (a5 ≤ (3 : Int32) → w_C_addLeaf M11 a1 a2 a3 a4 a5 (fun r14 M13 => Q r14 M13)) ∧ (¬ a5 ≤ (3 : Int32) → k_D_leaf_57 Q X M11))))) ∧ (¬ (M9 2 a1.toNatClampNeg) < (4 : Int32) → X "java/lang/IllegalStateException" M9)) X) X
set_option maxHeartbeats 1000000 in
theorem c_D_leaf {a1 : Int32} {a2 : Int32} {a3 : Int32} {a4 : Int32} {a5 : Int32} (hA : sd_ad b n ad) (hT : l.stackTraces = false) (hD : isD n L dA) {Q : Int32 → sdM → Prop} {X : String → sdM → Prop} {M : sdM} (hw : w_D_leaf M a1 a2 a3 a4 a5 Q X) : sd_Cn l (sdE0 sc) y_D_leaf Y_D_leaf.2.2.2.2.1 Y_D_leaf.2.2.2.2.2.1 3 18 D (sd_tys dA) b n ad L M [.ref 0, .int a1, .int a2, .int a3, .int a4, .int a5] (sd_qi Q) X := by
  refine sd_enter (Y := Y_D_leaf) rfl rfl rfl rfl (Nat.le_of_ble_eq_true rfl) ?_
  show sdW l (sdE0 sc) Y_D_leaf D (sd_tys dA) b n ad L ad (sd_H D (sdE0 sc).1 n ad L) (sd_qi Q) X 0 [(0, .ref 0), (1, .int a1), (2, .int a2), (3, .int a3), (4, .int a4), (5, .int a5)] [] M 3 18
  unfold w_D_leaf at hw
  refine x_aload_n 0 0 d_D_leaf_0 rfl rfl ?_
  refine x_callVv (As := []) (t := 0) (rest := []) (rc := 2) (rs := 12) (c_D_requireOpenSchema hA hT hD hw) cw_D_leaf_D_requireOpenSchema_64 hD.1 hD.2.1 rfl d_D_leaf_1 rfl rfl (Nat.le_of_ble_eq_true rfl) rfl (fun _ _ h => h) (fun _ _ h => h) (fun M8 hw => ?_)
  refine x_aload_n 0 0 d_D_leaf_4 rfl rfl ?_
  refine x_iload_n 1 1 d_D_leaf_5 rfl rfl ?_
  refine x_callVv (As := [.int a1]) (t := 0) (rest := []) (rc := 1) (rs := 6) (c_D_requireList hA hT hD hw) cw_D_leaf_D_requireList_77 hD.1 hD.2.1 rfl d_D_leaf_6 rfl rfl (Nat.le_of_ble_eq_true rfl) rfl (fun _ _ h => h) (fun _ _ h => h) (fun M9 hw => ?_)
  refine x_aload_n 0 0 d_D_leaf_9 rfl rfl ?_
  refine x_getr 0 1 d_D_leaf_10 hD.1 hD.2.1 rfl rfl (by decide) lay_D (List.mem_cons_of_mem _ q281) rfl ?_
  refine x_getr 2 2 d_D_leaf_13 hD.schema.1 hD.schema.2.1 rfl rfl (by decide) lay_C (List.mem_cons_of_mem _ q302) rfl ?_
  refine x_iload_n 1 1 d_D_leaf_16 rfl rfl ?_
  obtain ⟨hi10, hw⟩ := hw
  refine x_iald d_D_leaf_17 hD.schema.leaves.1 hD.schema.leaves.2 rfl hi10 ?_
  refine x_iconst (v := 4) d_D_leaf_18 (by decide) ?_
  refine x_icmp_lt 32 d_D_leaf_19 rfl (fun hc => ?_) (fun hc => ?_)
  · have hw := hw.1 hc
    refine x_aload_n 0 0 d_D_leaf_32 rfl rfl ?_
    refine x_getr 0 1 d_D_leaf_33 hD.1 hD.2.1 rfl rfl (by decide) lay_D (List.mem_cons_of_mem _ q281) rfl ?_
    refine x_iload_n 2 2 d_D_leaf_36 rfl rfl ?_
    refine x_iload_n 3 3 d_D_leaf_37 rfl rfl ?_
    refine x_iload 4 4 d_D_leaf_38 rfl ?_
    refine x_callVi (As := [.int a2, .int a3, .int a4]) (t := 1) (rest := []) (rc := 1) (rs := 6) (c_C_allowsLeaf hA hT hD.schema hw) cw_D_leaf_C_allowsLeaf_87 hD.schema.1 hD.schema.2.1 rfl d_D_leaf_40 rfl rfl (Nat.le_of_ble_eq_true rfl) rfl (fun _ _ h => h.elim) (fun _ _ h => h) (fun r12 M11 hw => ?_)
    refine x_if_eq 57 d_D_leaf_43 rfl (fun hc => ?_) (fun hc => ?_)
    · have hw := hw.1 hc
      refine x_sub [] [] rfl ?_
      exact t_D_leaf_57 hA hT hD M11 hw
    · have hw := hw.2 hc
      refine x_iload 5 5 d_D_leaf_46 rfl ?_
      refine x_if_lt 57 d_D_leaf_48 rfl (fun hc => ?_) (fun hc => ?_)
      · have hw := hw.1 hc
        refine x_sub [] [] rfl ?_
        exact t_D_leaf_57 hA hT hD M11 hw
      · have hw := hw.2 hc
        refine x_iload 5 5 d_D_leaf_51 rfl ?_
        refine x_iconst (v := 3) d_D_leaf_53 (by decide) ?_
        refine x_icmp_le 67 d_D_leaf_54 rfl (fun hc => ?_) (fun hc => ?_)
        · have hw := hw.1 hc
          refine x_aload_n 0 0 d_D_leaf_67 rfl rfl ?_
          refine x_getr 0 1 d_D_leaf_68 hD.1 hD.2.1 rfl rfl (by decide) lay_D (List.mem_cons_of_mem _ q281) rfl ?_
          refine x_iload_n 1 1 d_D_leaf_71 rfl rfl ?_
          refine x_iload_n 2 2 d_D_leaf_72 rfl rfl ?_
          refine x_iload_n 3 3 d_D_leaf_73 rfl rfl ?_
          refine x_iload 4 4 d_D_leaf_74 rfl ?_
          refine x_iload 5 5 d_D_leaf_76 rfl ?_
          refine x_callVi (As := [.int a1, .int a2, .int a3, .int a4, .int a5]) (t := 1) (rest := []) (rc := 1) (rs := 6) (c_C_addLeaf hA hT hD.schema hw) cw_D_leaf_C_addLeaf_96 hD.schema.1 hD.schema.2.1 rfl d_D_leaf_78 rfl rfl (Nat.le_of_ble_eq_true rfl) rfl (fun _ _ h => h.elim) (fun _ _ h => h) (fun r14 M13 hw => ?_)
          exact x_iret d_D_leaf_81 rfl (fun _ h => h) ⟨_, rfl, hw⟩
        · have hw := hw.2 hc
          refine x_sub [] [] rfl ?_
          exact t_D_leaf_57 hA hT hD M11 hw
  · have hw := hw.2 hc
    exact x_throwS (names := sdExN) (is := 85) (ic := 74) (rc := 0) (rs := 0) hT rfl fit_ISE fit_N (sd_goodB q303) (List.mem_cons_of_mem _ q290) (List.mem_cons_of_mem _ q291) (List.mem_cons_of_mem _ q292) (List.mem_of_getElem? (i := 3) rfl) oa_ISE d_D_leaf_22 d_D_leaf_25 (Or.inl ⟨d_D_leaf_26, rfl⟩) d_D_leaf_28 d_D_leaf_31 (by decide) (Nat.le_of_ble_eq_true rfl) rfl rfl (fun _ _ h => h) hw
end
theorem q318 : (.code ⟨"SettingsDesk", "requireLeaf", "(II)V"⟩ prog_1_method_25_code 3 none : Cond) ∈ sdB0 := sd_tb2 213 rfl rfl
theorem q319 : (.methodLink "SettingsDesk" 301 ⟨"SettingsDesk$Schema", "hasLeaf", "(II)Z"⟩ : Cond) ∈ sdB0 := sd_tb2 214 rfl rfl
theorem q320 : (.code ⟨"SettingsDesk$Schema", "hasLeaf", "(II)Z"⟩ prog_7_method_3_code 3 (some .boolean) : Cond) ∈ sdB0 := sd_tb2 217 rfl rfl
theorem q321 : (.instanceMethod ⟨"SettingsDesk$Schema", "hasLeaf", "(II)Z"⟩ : Cond) ∈ sdB0 := sd_tb2 215 rfl rfl
theorem q322 : (.selects "SettingsDesk$Schema" ⟨"SettingsDesk$Schema", "hasLeaf", "(II)Z"⟩ ⟨"SettingsDesk$Schema", "hasLeaf", "(II)Z"⟩ : Cond) ∈ sdB0 := sd_tb2 216 rfl rfl
abbrev y_D_requireLeaf : MethodName := ⟨"SettingsDesk", "requireLeaf", "(II)V"⟩
theorem d_D_requireLeaf_0 : decode prog_1_method_25_code 0 = .ok (.aload_n 0, 1) := by decide +kernel
theorem d_D_requireLeaf_1 : decode prog_1_method_25_code 1 = .ok (.getfield 12, 3) := by decide +kernel
theorem d_D_requireLeaf_4 : decode prog_1_method_25_code 4 = .ok (.iload_n 1, 1) := by decide +kernel
theorem d_D_requireLeaf_5 : decode prog_1_method_25_code 5 = .ok (.iload_n 2, 1) := by decide +kernel
theorem d_D_requireLeaf_6 : decode prog_1_method_25_code 6 = .ok (.invokevirtual 301, 3) := by decide +kernel
theorem d_D_requireLeaf_9 : decode prog_1_method_25_code 9 = .ok (.ifCond .ne (14), 3) := by decide +kernel
theorem d_D_requireLeaf_12 : decode prog_1_method_25_code 12 = .ok (.new 206, 3) := by decide +kernel
theorem d_D_requireLeaf_15 : decode prog_1_method_25_code 15 = .ok (.dup, 1) := by decide +kernel
theorem d_D_requireLeaf_16 : decode prog_1_method_25_code 16 = .ok (.ldc_w 304, 3) := by decide +kernel
theorem d_D_requireLeaf_19 : decode prog_1_method_25_code 19 = .ok (.invokespecial 210, 3) := by decide +kernel
theorem d_D_requireLeaf_22 : decode prog_1_method_25_code 22 = .ok (.athrow, 1) := by decide +kernel
theorem d_D_requireLeaf_23 : decode prog_1_method_25_code 23 = .ok (.return_, 1) := by decide +kernel
def Y_D_requireLeaf : sdY := ("SettingsDesk", prog_1_method_25_code, 3, none, .code y_D_requireLeaf prog_1_method_25_code 3 none :: sdB0, { frames := 6, cells := 1, slots := 6, locals := 82 }, 1, 6, [])
theorem cw_D_requireLeaf_C_hasLeaf_301 : sd_cwV Y_D_requireLeaf Y_C_hasLeaf y_C_hasLeaf 301 2 "SettingsDesk$Schema" := ⟨sd_goodV q319 q321 q322 q77 q320, ⟨_, rfl⟩, ⟨rfl, rfl, rfl, rfl⟩, ⟨rfl, by decide, by decide, by decide +kernel⟩, ⟨by decide, by decide⟩⟩
section
variable {l : Launch} {D : va_G} {dA : Nat → ClassId} {b n : Nat} {ad : Nat → Nat} {L : Nat → sdL} {sc : Option (Nat × Nat × (Nat → Int32))}
def w_D_requireLeaf (M : sdM) (a1 : Int32) (a2 : Int32) (Q : sdM → Prop) (X : String → sdM → Prop) : Prop := w_C_hasLeaf M a1 a2 (fun r4 M3 => (¬ r4 = 0 → Q M3) ∧ (r4 = 0 → X "java/lang/IndexOutOfBoundsException" M3))
set_option maxHeartbeats 1000000 in
theorem c_D_requireLeaf {a1 : Int32} {a2 : Int32} (hA : sd_ad b n ad) (hT : l.stackTraces = false) (hD : isD n L dA) {Q : sdM → Prop} {X : String → sdM → Prop} {M : sdM} (hw : w_D_requireLeaf M a1 a2 Q X) : sd_Cn l (sdE0 sc) y_D_requireLeaf Y_D_requireLeaf.2.2.2.2.1 Y_D_requireLeaf.2.2.2.2.2.1 1 6 D (sd_tys dA) b n ad L M [.ref 0, .int a1, .int a2] (sd_qv Q) X := by
  refine sd_enter (Y := Y_D_requireLeaf) rfl rfl rfl rfl (Nat.le_of_ble_eq_true rfl) ?_
  show sdW l (sdE0 sc) Y_D_requireLeaf D (sd_tys dA) b n ad L ad (sd_H D (sdE0 sc).1 n ad L) (sd_qv Q) X 0 [(0, .ref 0), (1, .int a1), (2, .int a2)] [] M 1 6
  unfold w_D_requireLeaf at hw
  refine x_aload_n 0 0 d_D_requireLeaf_0 rfl rfl ?_
  refine x_getr 0 1 d_D_requireLeaf_1 hD.1 hD.2.1 rfl rfl (by decide) lay_D (List.mem_cons_of_mem _ q281) rfl ?_
  refine x_iload_n 1 1 d_D_requireLeaf_4 rfl rfl ?_
  refine x_iload_n 2 2 d_D_requireLeaf_5 rfl rfl ?_
  refine x_callVi (As := [.int a1, .int a2]) (t := 1) (rest := []) (rc := 1) (rs := 6) (c_C_hasLeaf hA hT hD.schema hw) cw_D_requireLeaf_C_hasLeaf_301 hD.schema.1 hD.schema.2.1 rfl d_D_requireLeaf_6 rfl rfl (Nat.le_of_ble_eq_true rfl) rfl (fun _ _ h => h.elim) (fun _ _ h => h) (fun r4 M3 hw => ?_)
  refine x_if_ne 23 d_D_requireLeaf_9 rfl (fun hc => ?_) (fun hc => ?_)
  · have hw := hw.1 hc
    exact x_vret d_D_requireLeaf_23 rfl (fun _ h => h) ⟨rfl, hw⟩
  · have hw := hw.2 hc
    exact x_throwS (names := sdExN) (is := 304) (ic := 210) (rc := 0) (rs := 0) hT rfl fit_IOB fit_N (sd_goodB q318) (List.mem_cons_of_mem _ q298) (List.mem_cons_of_mem _ q299) (List.mem_cons_of_mem _ q300) (List.mem_of_getElem? (i := 5) rfl) oa_IOB d_D_requireLeaf_12 d_D_requireLeaf_15 (Or.inr ⟨d_D_requireLeaf_16, rfl⟩) d_D_requireLeaf_19 d_D_requireLeaf_22 (by decide) (Nat.le_of_ble_eq_true rfl) rfl rfl (fun _ _ h => h) hw
end
theorem q323 : (.fieldLink "SettingsDesk" 108 "SettingsDesk$Leaf" "isReference" "Z" : Cond) ∈ sdB0 := sd_tb1 46 rfl rfl
theorem q324 : (.fieldLink "SettingsDesk" 119 "SettingsDesk$Leaf" "hasStandard" "Z" : Cond) ∈ sdB0 := sd_tb1 58 rfl rfl
theorem q325 : (.fieldLink "SettingsDesk" 122 "SettingsDesk$Leaf" "standardValue" "I" : Cond) ∈ sdB0 := sd_tb1 60 rfl rfl
theorem q326 : (.code ⟨"SettingsDesk", "standard", "(III)V"⟩ prog_1_method_4_code 5 none : Cond) ∈ sdB0 := sd_tb2 209 rfl rfl
theorem q327 : (.methodLink "SettingsDesk" 100 ⟨"SettingsDesk", "requireLeaf", "(II)V"⟩ : Cond) ∈ sdB0 := sd_tb2 210 rfl rfl
theorem q328 : (.instanceMethod ⟨"SettingsDesk", "requireLeaf", "(II)V"⟩ : Cond) ∈ sdB0 := sd_tb2 212 rfl rfl
theorem q329 : (.selects "SettingsDesk" ⟨"SettingsDesk", "requireLeaf", "(II)V"⟩ ⟨"SettingsDesk", "requireLeaf", "(II)V"⟩ : Cond) ∈ sdB0 := sd_tbp (q := (⟨"SettingsDesk", "requireLeaf", "(II)V"⟩, 12)) (List.mem_of_getElem? (i := 5) rfl)
theorem q330 : (.methodLink "SettingsDesk" 104 ⟨"SettingsDesk$Schema", "leafAt", "(II)LSettingsDesk$Leaf;"⟩ : Cond) ∈ sdB0 := sd_tb2 219 rfl rfl
theorem q331 : (.methodLink "SettingsDesk" 113 ⟨"SettingsDesk$Leaf", "takes", "(I)Z"⟩ : Cond) ∈ sdB0 := sd_tb2 220 rfl rfl
theorem q332 : (.code ⟨"SettingsDesk$Leaf", "takes", "(I)Z"⟩ prog_4_method_2_code 2 (some .boolean) : Cond) ∈ sdB0 := sd_tb2 223 rfl rfl
theorem q333 : (.instanceMethod ⟨"SettingsDesk$Leaf", "takes", "(I)Z"⟩ : Cond) ∈ sdB0 := sd_tb2 221 rfl rfl
theorem q334 : (.selects "SettingsDesk$Leaf" ⟨"SettingsDesk$Leaf", "takes", "(I)Z"⟩ ⟨"SettingsDesk$Leaf", "takes", "(I)Z"⟩ : Cond) ∈ sdB0 := sd_tb2 222 rfl rfl
theorem q335 : (.initialized "SettingsDesk$Leaf" : Cond) ∈ sdB0 := sd_tb1 3 rfl rfl
abbrev y_D_standard : MethodName := ⟨"SettingsDesk", "standard", "(III)V"⟩
theorem d_D_standard_0 : decode prog_1_method_4_code 0 = .ok (.aload_n 0, 1) := by decide +kernel
theorem d_D_standard_1 : decode prog_1_method_4_code 1 = .ok (.invokevirtual 64, 3) := by decide +kernel
theorem d_D_standard_4 : decode prog_1_method_4_code 4 = .ok (.aload_n 0, 1) := by decide +kernel
theorem d_D_standard_5 : decode prog_1_method_4_code 5 = .ok (.iload_n 1, 1) := by decide +kernel
theorem d_D_standard_6 : decode prog_1_method_4_code 6 = .ok (.iload_n 2, 1) := by decide +kernel
theorem d_D_standard_7 : decode prog_1_method_4_code 7 = .ok (.invokevirtual 100, 3) := by decide +kernel
theorem d_D_standard_10 : decode prog_1_method_4_code 10 = .ok (.aload_n 0, 1) := by decide +kernel
theorem d_D_standard_11 : decode prog_1_method_4_code 11 = .ok (.getfield 12, 3) := by decide +kernel
theorem d_D_standard_14 : decode prog_1_method_4_code 14 = .ok (.iload_n 1, 1) := by decide +kernel
theorem d_D_standard_15 : decode prog_1_method_4_code 15 = .ok (.iload_n 2, 1) := by decide +kernel
theorem d_D_standard_16 : decode prog_1_method_4_code 16 = .ok (.invokevirtual 104, 3) := by decide +kernel
theorem d_D_standard_19 : decode prog_1_method_4_code 19 = .ok (.astore 4, 2) := by decide +kernel
theorem d_D_standard_21 : decode prog_1_method_4_code 21 = .ok (.aload 4, 2) := by decide +kernel
theorem d_D_standard_23 : decode prog_1_method_4_code 23 = .ok (.getfield 108, 3) := by decide +kernel
theorem d_D_standard_26 : decode prog_1_method_4_code 26 = .ok (.ifCond .ne (12), 3) := by decide +kernel
theorem d_D_standard_29 : decode prog_1_method_4_code 29 = .ok (.aload 4, 2) := by decide +kernel
theorem d_D_standard_31 : decode prog_1_method_4_code 31 = .ok (.iload_n 3, 1) := by decide +kernel
theorem d_D_standard_32 : decode prog_1_method_4_code 32 = .ok (.invokevirtual 113, 3) := by decide +kernel
theorem d_D_standard_35 : decode prog_1_method_4_code 35 = .ok (.ifCond .ne (13), 3) := by decide +kernel
theorem d_D_standard_38 : decode prog_1_method_4_code 38 = .ok (.new 91, 3) := by decide +kernel
theorem d_D_standard_41 : decode prog_1_method_4_code 41 = .ok (.dup, 1) := by decide +kernel
theorem d_D_standard_42 : decode prog_1_method_4_code 42 = .ok (.ldc 117, 2) := by decide +kernel
theorem d_D_standard_44 : decode prog_1_method_4_code 44 = .ok (.invokespecial 95, 3) := by decide +kernel
theorem d_D_standard_47 : decode prog_1_method_4_code 47 = .ok (.athrow, 1) := by decide +kernel
theorem d_D_standard_48 : decode prog_1_method_4_code 48 = .ok (.aload 4, 2) := by decide +kernel
theorem d_D_standard_50 : decode prog_1_method_4_code 50 = .ok (.iconst 1, 1) := by decide +kernel
theorem d_D_standard_51 : decode prog_1_method_4_code 51 = .ok (.putfield 119, 3) := by decide +kernel
theorem d_D_standard_54 : decode prog_1_method_4_code 54 = .ok (.aload 4, 2) := by decide +kernel
theorem d_D_standard_56 : decode prog_1_method_4_code 56 = .ok (.iload_n 3, 1) := by decide +kernel
theorem d_D_standard_57 : decode prog_1_method_4_code 57 = .ok (.putfield 122, 3) := by decide +kernel
theorem d_D_standard_60 : decode prog_1_method_4_code 60 = .ok (.return_, 1) := by decide +kernel
def Y_D_standard : sdY := ("SettingsDesk", prog_1_method_4_code, 5, none, .code y_D_standard prog_1_method_4_code 5 none :: sdB0, { frames := 7, cells := 3, slots := 18, locals := 104 }, 3, 18, [])
theorem cw_D_standard_D_requireOpenSchema_64 : sd_cwV Y_D_standard Y_D_requireOpenSchema y_D_requireOpenSchema 64 0 "SettingsDesk" := ⟨sd_goodV q294 q295 q296 q274 q289, ⟨_, rfl⟩, ⟨rfl, rfl, rfl, rfl⟩, ⟨rfl, by decide, by decide, by decide +kernel⟩, ⟨by decide, by decide⟩⟩
theorem cw_D_standard_D_requireLeaf_100 : sd_cwV Y_D_standard Y_D_requireLeaf y_D_requireLeaf 100 2 "SettingsDesk" := ⟨sd_goodV q327 q328 q329 q274 q318, ⟨_, rfl⟩, ⟨rfl, rfl, rfl, rfl⟩, ⟨rfl, by decide, by decide, by decide +kernel⟩, ⟨by decide, by decide⟩⟩
theorem cw_D_standard_C_leafAt_104 : sd_cwV Y_D_standard Y_C_leafAt y_C_leafAt 104 2 "SettingsDesk$Schema" := ⟨sd_goodV q330 q87 q88 q77 q86, ⟨_, rfl⟩, ⟨rfl, rfl, rfl, rfl⟩, ⟨rfl, by decide, by decide, by decide +kernel⟩, ⟨by decide, by decide⟩⟩
theorem cw_D_standard_F_takes_113 : sd_cwV Y_D_standard Y_F_takes y_F_takes 113 1 "SettingsDesk$Leaf" := ⟨sd_goodV q331 q333 q334 q335 q332, ⟨_, rfl⟩, ⟨rfl, rfl, rfl, rfl⟩, ⟨rfl, by decide, by decide, by decide +kernel⟩, ⟨by decide, by decide⟩⟩
section
variable {l : Launch} {D : va_G} {dA : Nat → ClassId} {b n : Nat} {ad : Nat → Nat} {L : Nat → sdL} {sc : Option (Nat × Nat × (Nat → Int32))}
def k_D_standard_38 (Q : sdM → Prop) (X : String → sdM → Prop) (M : sdM) : Prop := X "java/lang/IllegalArgumentException" M
set_option maxHeartbeats 1000000 in
theorem t_D_standard_38 (hA : sd_ad b n ad) (hT : l.stackTraces = false) (hD : isD n L dA) {Q : sdM → Prop} {X : String → sdM → Prop} (M : sdM) (hw : k_D_standard_38 Q X M ) : sdW l (sdE0 sc) Y_D_standard D (sd_tys dA) b n ad L ad (sd_H D (sdE0 sc).1 n ad L) (sd_qv Q) X 38 [] [] M 1 6 := by
  unfold k_D_standard_38 at hw
  exact x_throwS (names := sdExN) (is := 117) (ic := 95) (rc := 0) (rs := 0) hT rfl fit_IAE fit_N (sd_goodB q326) (List.mem_cons_of_mem _ q304) (List.mem_cons_of_mem _ q305) (List.mem_cons_of_mem _ q306) (List.mem_of_getElem? (i := 6) rfl) oa_IAE d_D_standard_38 d_D_standard_41 (Or.inl ⟨d_D_standard_42, rfl⟩) d_D_standard_44 d_D_standard_47 (by decide) (Nat.le_of_ble_eq_true rfl) rfl rfl (fun _ _ h => h) hw
def w_D_standard (M : sdM) (a1 : Int32) (a2 : Int32) (a3 : Int32) (Q : sdM → Prop) (X : String → sdM → Prop) : Prop := w_D_requireOpenSchema M (fun M13 => w_D_requireLeaf M13 a1 a2 (fun M14 => w_C_leafAt M14 a1 a2 (fun t16 M15 => (¬ (M15 t16 0) = 0 → k_D_standard_38 Q X M15) ∧ ((M15 t16 0) = 0 → w_F_takes t16 M15 a3 (fun r19 M18 => (¬ r19 = 0 → sdB (1 : Int32) ∧ ∀ M20 : sdM, M20 = sd_s M18 t16 5 (1 : Int32) → ∀ M23 : sdM, M23 = sd_s M20 t16 6 a3 → Q M23) ∧ (r19 = 0 → k_D_standard_38 Q X M18))))) X) X
set_option maxHeartbeats 1000000 in
theorem c_D_standard {a1 : Int32} {a2 : Int32} {a3 : Int32} (hA : sd_ad b n ad) (hT : l.stackTraces = false) (hD : isD n L dA) {Q : sdM → Prop} {X : String → sdM → Prop} {M : sdM} (hw : w_D_standard M a1 a2 a3 Q X) : sd_Cn l (sdE0 sc) y_D_standard Y_D_standard.2.2.2.2.1 Y_D_standard.2.2.2.2.2.1 3 18 D (sd_tys dA) b n ad L M [.ref 0, .int a1, .int a2, .int a3] (sd_qv Q) X := by
  refine sd_enter (Y := Y_D_standard) rfl rfl rfl rfl (Nat.le_of_ble_eq_true rfl) ?_
  show sdW l (sdE0 sc) Y_D_standard D (sd_tys dA) b n ad L ad (sd_H D (sdE0 sc).1 n ad L) (sd_qv Q) X 0 [(0, .ref 0), (1, .int a1), (2, .int a2), (3, .int a3)] [] M 3 18
  unfold w_D_standard at hw
  refine x_aload_n 0 0 d_D_standard_0 rfl rfl ?_
  refine x_callVv (As := []) (t := 0) (rest := []) (rc := 2) (rs := 12) (c_D_requireOpenSchema hA hT hD hw) cw_D_standard_D_requireOpenSchema_64 hD.1 hD.2.1 rfl d_D_standard_1 rfl rfl (Nat.le_of_ble_eq_true rfl) rfl (fun _ _ h => h) (fun _ _ h => h) (fun M13 hw => ?_)
  refine x_aload_n 0 0 d_D_standard_4 rfl rfl ?_
  refine x_iload_n 1 1 d_D_standard_5 rfl rfl ?_
  refine x_iload_n 2 2 d_D_standard_6 rfl rfl ?_
  refine x_callVv (As := [.int a1, .int a2]) (t := 0) (rest := []) (rc := 1) (rs := 6) (c_D_requireLeaf hA hT hD hw) cw_D_standard_D_requireLeaf_100 hD.1 hD.2.1 rfl d_D_standard_7 rfl rfl (Nat.le_of_ble_eq_true rfl) rfl (fun _ _ h => h) (fun _ _ h => h) (fun M14 hw => ?_)
  refine x_aload_n 0 0 d_D_standard_10 rfl rfl ?_
  refine x_getr 0 1 d_D_standard_11 hD.1 hD.2.1 rfl rfl (by decide) lay_D (List.mem_cons_of_mem _ q281) rfl ?_
  refine x_iload_n 1 1 d_D_standard_14 rfl rfl ?_
  refine x_iload_n 2 2 d_D_standard_15 rfl rfl ?_
  refine x_callVr (As := [.int a1, .int a2]) (t := 1) (rest := []) (rc := 1) (rs := 6) (c_C_leafAt hA hT hD.schema hw) cw_D_standard_C_leafAt_104 hD.schema.1 hD.schema.2.1 rfl d_D_standard_16 rfl rfl (Nat.le_of_ble_eq_true rfl) rfl (fun _ _ h => h.elim) (fun _ _ h => h) (fun t16 M15 ht17 hw => ?_)
  refine x_astore 4 [(4, .ref t16), (0, .ref 0), (1, .int a1), (2, .int a2), (3, .int a3)] d_D_standard_19 (by decide) rfl ?_
  refine x_aload 4 0 d_D_standard_21 rfl ?_
  refine x_geti 0 d_D_standard_23 ht17.1 ht17.2 rfl rfl (by decide) lay_F (List.mem_cons_of_mem _ q323) rfl ?_
  refine x_if_ne 38 d_D_standard_26 rfl (fun hc => ?_) (fun hc => ?_)
  · have hw := hw.1 hc
    refine x_sub [] [] rfl ?_
    exact t_D_standard_38 hA hT hD M15 hw
  · have hw := hw.2 hc
    refine x_aload 4 0 d_D_standard_29 rfl ?_
    refine x_iload_n 3 4 d_D_standard_31 rfl rfl ?_
    refine x_callVi (As := [.int a3]) (t := t16) (rest := []) (rc := 1) (rs := 6) (c_F_takes hA hT ht17 hw) cw_D_standard_F_takes_113 ht17.1 ht17.2 rfl d_D_standard_32 rfl rfl (Nat.le_of_ble_eq_true rfl) rfl (fun _ _ h => h.elim) (fun _ _ h => h) (fun r19 M18 hw => ?_)
    refine x_if_ne 48 d_D_standard_35 rfl (fun hc => ?_) (fun hc => ?_)
    · have hw := hw.1 hc
      refine x_aload 4 0 d_D_standard_48 rfl ?_
      refine x_iconst (v := 1) d_D_standard_50 (by decide) ?_
      obtain ⟨hb22, hw⟩ := hw
      refine x_puti 5 (ty := .boolean) hA d_D_standard_51 ht17.1 ht17.2 rfl rfl (by decide) lay_F (List.mem_cons_of_mem _ q324) rfl ty_F ty_F_ok nm_F rfl (by decide +kernel) (sdB_n hb22) (sdB_f hb22) (fun M20 e21 => ?_)
      have hw := hw M20 e21
      clear e21
      refine x_aload 4 0 d_D_standard_54 rfl ?_
      refine x_iload_n 3 4 d_D_standard_56 rfl rfl ?_
      refine x_puti 6 (ty := .int) hA d_D_standard_57 ht17.1 ht17.2 rfl rfl (by decide) lay_F (List.mem_cons_of_mem _ q325) rfl ty_F ty_F_ok nm_F rfl (by decide +kernel) rfl rfl (fun M23 e24 => ?_)
      have hw := hw M23 e24
      clear e24
      exact x_vret d_D_standard_60 rfl (fun _ h => h) ⟨rfl, hw⟩
    · have hw := hw.2 hc
      refine x_sub [] [] rfl ?_
      exact t_D_standard_38 hA hT hD M18 hw
end
theorem q336 : (.fieldLink "SettingsDesk" 125 "SettingsDesk$Schema" "ruleCount" "I" : Cond) ∈ sdB0 := sd_tb1 114 rfl rfl
theorem q337 : (.code ⟨"SettingsDesk", "rule", "(IIIIZ)I"⟩ prog_1_method_5_code 6 (some .int) : Cond) ∈ sdB0 := sd_tb2 231 rfl rfl
theorem q338 : (.methodLink "SettingsDesk" 130 ⟨"SettingsDesk$Schema", "addRule", "(IIIIZ)I"⟩ : Cond) ∈ sdB0 := sd_tb2 233 rfl rfl
theorem q339 : (.code ⟨"SettingsDesk$Schema", "addRule", "(IIIIZ)I"⟩ prog_7_method_7_code 7 (some .int) : Cond) ∈ sdB0 := sd_tb2 236 rfl rfl
theorem q340 : (.instanceMethod ⟨"SettingsDesk$Schema", "addRule", "(IIIIZ)I"⟩ : Cond) ∈ sdB0 := sd_tb2 234 rfl rfl
theorem q341 : (.selects "SettingsDesk$Schema" ⟨"SettingsDesk$Schema", "addRule", "(IIIIZ)I"⟩ ⟨"SettingsDesk$Schema", "addRule", "(IIIIZ)I"⟩ : Cond) ∈ sdB0 := sd_tb2 235 rfl rfl
abbrev y_D_rule : MethodName := ⟨"SettingsDesk", "rule", "(IIIIZ)I"⟩
theorem d_D_rule_0 : decode prog_1_method_5_code 0 = .ok (.aload_n 0, 1) := by decide +kernel
theorem d_D_rule_1 : decode prog_1_method_5_code 1 = .ok (.invokevirtual 64, 3) := by decide +kernel
theorem d_D_rule_4 : decode prog_1_method_5_code 4 = .ok (.aload_n 0, 1) := by decide +kernel
theorem d_D_rule_5 : decode prog_1_method_5_code 5 = .ok (.getfield 12, 3) := by decide +kernel
theorem d_D_rule_8 : decode prog_1_method_5_code 8 = .ok (.getfield 125, 3) := by decide +kernel
theorem d_D_rule_11 : decode prog_1_method_5_code 11 = .ok (.iconst 4, 1) := by decide +kernel
theorem d_D_rule_12 : decode prog_1_method_5_code 12 = .ok (.if_icmp .lt (13), 3) := by decide +kernel
theorem d_D_rule_15 : decode prog_1_method_5_code 15 = .ok (.new 70, 3) := by decide +kernel
theorem d_D_rule_18 : decode prog_1_method_5_code 18 = .ok (.dup, 1) := by decide +kernel
theorem d_D_rule_19 : decode prog_1_method_5_code 19 = .ok (.ldc 128, 2) := by decide +kernel
theorem d_D_rule_21 : decode prog_1_method_5_code 21 = .ok (.invokespecial 74, 3) := by decide +kernel
theorem d_D_rule_24 : decode prog_1_method_5_code 24 = .ok (.athrow, 1) := by decide +kernel
theorem d_D_rule_25 : decode prog_1_method_5_code 25 = .ok (.aload_n 0, 1) := by decide +kernel
theorem d_D_rule_26 : decode prog_1_method_5_code 26 = .ok (.iload_n 1, 1) := by decide +kernel
theorem d_D_rule_27 : decode prog_1_method_5_code 27 = .ok (.iload_n 2, 1) := by decide +kernel
theorem d_D_rule_28 : decode prog_1_method_5_code 28 = .ok (.invokevirtual 100, 3) := by decide +kernel
theorem d_D_rule_31 : decode prog_1_method_5_code 31 = .ok (.aload_n 0, 1) := by decide +kernel
theorem d_D_rule_32 : decode prog_1_method_5_code 32 = .ok (.iload_n 1, 1) := by decide +kernel
theorem d_D_rule_33 : decode prog_1_method_5_code 33 = .ok (.iload 4, 2) := by decide +kernel
theorem d_D_rule_35 : decode prog_1_method_5_code 35 = .ok (.invokevirtual 100, 3) := by decide +kernel
theorem d_D_rule_38 : decode prog_1_method_5_code 38 = .ok (.aload_n 0, 1) := by decide +kernel
theorem d_D_rule_39 : decode prog_1_method_5_code 39 = .ok (.getfield 12, 3) := by decide +kernel
theorem d_D_rule_42 : decode prog_1_method_5_code 42 = .ok (.iload_n 1, 1) := by decide +kernel
theorem d_D_rule_43 : decode prog_1_method_5_code 43 = .ok (.iload_n 2, 1) := by decide +kernel
theorem d_D_rule_44 : decode prog_1_method_5_code 44 = .ok (.iload_n 3, 1) := by decide +kernel
theorem d_D_rule_45 : decode prog_1_method_5_code 45 = .ok (.iload 4, 2) := by decide +kernel
theorem d_D_rule_47 : decode prog_1_method_5_code 47 = .ok (.iload 5, 2) := by decide +kernel
theorem d_D_rule_49 : decode prog_1_method_5_code 49 = .ok (.invokevirtual 130, 3) := by decide +kernel
theorem d_D_rule_52 : decode prog_1_method_5_code 52 = .ok (.ireturn, 1) := by decide +kernel
def Y_D_rule : sdY := ("SettingsDesk", prog_1_method_5_code, 6, (some .int), .code y_D_rule prog_1_method_5_code 6 (some .int) :: sdB0, { frames := 7, cells := 3, slots := 18, locals := 104 }, 3, 18, [])
theorem cw_D_rule_D_requireOpenSchema_64 : sd_cwV Y_D_rule Y_D_requireOpenSchema y_D_requireOpenSchema 64 0 "SettingsDesk" := ⟨sd_goodV q294 q295 q296 q274 q289, ⟨_, rfl⟩, ⟨rfl, rfl, rfl, rfl⟩, ⟨rfl, by decide, by decide, by decide +kernel⟩, ⟨by decide, by decide⟩⟩
theorem cw_D_rule_D_requireLeaf_100 : sd_cwV Y_D_rule Y_D_requireLeaf y_D_requireLeaf 100 2 "SettingsDesk" := ⟨sd_goodV q327 q328 q329 q274 q318, ⟨_, rfl⟩, ⟨rfl, rfl, rfl, rfl⟩, ⟨rfl, by decide, by decide, by decide +kernel⟩, ⟨by decide, by decide⟩⟩
theorem cw_D_rule_C_addRule_130 : sd_cwV Y_D_rule Y_C_addRule y_C_addRule 130 5 "SettingsDesk$Schema" := ⟨sd_goodV q338 q340 q341 q77 q339, ⟨_, rfl⟩, ⟨rfl, rfl, rfl, rfl⟩, ⟨rfl, by decide, by decide, by decide +kernel⟩, ⟨by decide, by decide⟩⟩
section
variable {l : Launch} {D : va_G} {dA : Nat → ClassId} {b n : Nat} {ad : Nat → Nat} {L : Nat → sdL} {sc : Option (Nat × Nat × (Nat → Int32))}
def w_D_rule (M : sdM) (a1 : Int32) (a2 : Int32) (a3 : Int32) (a4 : Int32) (a5 : Int32) (Q : Int32 → sdM → Prop) (X : String → sdM → Prop) : Prop := w_D_requireOpenSchema M (fun M6 => ((M6 1 4) < (4 : Int32) → w_D_requireLeaf M6 a1 a2 (fun M7 => w_D_requireLeaf M7 a1 a4 (fun M8 => w_C_addRule M8 a1 a2 a3 a4 a5 (fun r10 M9 => Q r10 M9)) X) X) ∧ (¬ (M6 1 4) < (4 : Int32) → X "java/lang/IllegalStateException" M6)) X
set_option maxHeartbeats 1000000 in
theorem c_D_rule {a1 : Int32} {a2 : Int32} {a3 : Int32} {a4 : Int32} {a5 : Int32} (hA : sd_ad b n ad) (hT : l.stackTraces = false) (hD : isD n L dA) {Q : Int32 → sdM → Prop} {X : String → sdM → Prop} {M : sdM} (hw : w_D_rule M a1 a2 a3 a4 a5 Q X) : sd_Cn l (sdE0 sc) y_D_rule Y_D_rule.2.2.2.2.1 Y_D_rule.2.2.2.2.2.1 3 18 D (sd_tys dA) b n ad L M [.ref 0, .int a1, .int a2, .int a3, .int a4, .int a5] (sd_qi Q) X := by
  refine sd_enter (Y := Y_D_rule) rfl rfl rfl rfl (Nat.le_of_ble_eq_true rfl) ?_
  show sdW l (sdE0 sc) Y_D_rule D (sd_tys dA) b n ad L ad (sd_H D (sdE0 sc).1 n ad L) (sd_qi Q) X 0 [(0, .ref 0), (1, .int a1), (2, .int a2), (3, .int a3), (4, .int a4), (5, .int a5)] [] M 3 18
  unfold w_D_rule at hw
  refine x_aload_n 0 0 d_D_rule_0 rfl rfl ?_
  refine x_callVv (As := []) (t := 0) (rest := []) (rc := 2) (rs := 12) (c_D_requireOpenSchema hA hT hD hw) cw_D_rule_D_requireOpenSchema_64 hD.1 hD.2.1 rfl d_D_rule_1 rfl rfl (Nat.le_of_ble_eq_true rfl) rfl (fun _ _ h => h) (fun _ _ h => h) (fun M6 hw => ?_)
  refine x_aload_n 0 0 d_D_rule_4 rfl rfl ?_
  refine x_getr 0 1 d_D_rule_5 hD.1 hD.2.1 rfl rfl (by decide) lay_D (List.mem_cons_of_mem _ q281) rfl ?_
  refine x_geti 4 d_D_rule_8 hD.schema.1 hD.schema.2.1 rfl rfl (by decide) lay_C (List.mem_cons_of_mem _ q336) rfl ?_
  refine x_iconst (v := 4) d_D_rule_11 (by decide) ?_
  refine x_icmp_lt 25 d_D_rule_12 rfl (fun hc => ?_) (fun hc => ?_)
  · have hw := hw.1 hc
    refine x_aload_n 0 0 d_D_rule_25 rfl rfl ?_
    refine x_iload_n 1 1 d_D_rule_26 rfl rfl ?_
    refine x_iload_n 2 2 d_D_rule_27 rfl rfl ?_
    refine x_callVv (As := [.int a1, .int a2]) (t := 0) (rest := []) (rc := 1) (rs := 6) (c_D_requireLeaf hA hT hD hw) cw_D_rule_D_requireLeaf_100 hD.1 hD.2.1 rfl d_D_rule_28 rfl rfl (Nat.le_of_ble_eq_true rfl) rfl (fun _ _ h => h) (fun _ _ h => h) (fun M7 hw => ?_)
    refine x_aload_n 0 0 d_D_rule_31 rfl rfl ?_
    refine x_iload_n 1 1 d_D_rule_32 rfl rfl ?_
    refine x_iload 4 4 d_D_rule_33 rfl ?_
    refine x_callVv (As := [.int a1, .int a4]) (t := 0) (rest := []) (rc := 0) (rs := 0) (c_D_requireLeaf hA hT hD hw) cw_D_rule_D_requireLeaf_100 hD.1 hD.2.1 rfl d_D_rule_35 rfl rfl (Nat.le_of_ble_eq_true rfl) rfl (fun _ _ h => h) (fun _ _ h => h) (fun M8 hw => ?_)
    refine x_aload_n 0 0 d_D_rule_38 rfl rfl ?_
    refine x_getr 0 1 d_D_rule_39 hD.1 hD.2.1 rfl rfl (by decide) lay_D (List.mem_cons_of_mem _ q281) rfl ?_
    refine x_iload_n 1 1 d_D_rule_42 rfl rfl ?_
    refine x_iload_n 2 2 d_D_rule_43 rfl rfl ?_
    refine x_iload_n 3 3 d_D_rule_44 rfl rfl ?_
    refine x_iload 4 4 d_D_rule_45 rfl ?_
    refine x_iload 5 5 d_D_rule_47 rfl ?_
    refine x_callVi (As := [.int a1, .int a2, .int a3, .int a4, .int a5]) (t := 1) (rest := []) (rc := 0) (rs := 0) (c_C_addRule hA hT hD.schema hw) cw_D_rule_C_addRule_130 hD.schema.1 hD.schema.2.1 rfl d_D_rule_49 rfl rfl (Nat.le_of_ble_eq_true rfl) rfl (fun _ _ h => h.elim) (fun _ _ h => h) (fun r10 M9 hw => ?_)
    exact x_iret d_D_rule_52 rfl (fun _ h => h) ⟨_, rfl, hw⟩
  · have hw := hw.2 hc
    exact x_throwS (names := sdExN) (is := 128) (ic := 74) (rc := 1) (rs := 6) hT rfl fit_ISE fit_N (sd_goodB q337) (List.mem_cons_of_mem _ q290) (List.mem_cons_of_mem _ q291) (List.mem_cons_of_mem _ q292) (List.mem_of_getElem? (i := 7) rfl) oa_ISE d_D_rule_15 d_D_rule_18 (Or.inl ⟨d_D_rule_19, rfl⟩) d_D_rule_21 d_D_rule_24 (by decide) (Nat.le_of_ble_eq_true rfl) rfl rfl (fun _ _ h => h) hw
end
theorem q342 : (.code ⟨"SettingsDesk", "requireReady", "()V"⟩ prog_1_method_23_code 1 none : Cond) ∈ sdB0 := sd_tb3 91 rfl rfl
abbrev y_D_requireReady : MethodName := ⟨"SettingsDesk", "requireReady", "()V"⟩
theorem d_D_requireReady_0 : decode prog_1_method_23_code 0 = .ok (.aload_n 0, 1) := by decide +kernel
theorem d_D_requireReady_1 : decode prog_1_method_23_code 1 = .ok (.getfield 56, 3) := by decide +kernel
theorem d_D_requireReady_4 : decode prog_1_method_23_code 4 = .ok (.ifCond .ne (13), 3) := by decide +kernel
theorem d_D_requireReady_7 : decode prog_1_method_23_code 7 = .ok (.aload_n 0, 1) := by decide +kernel
theorem d_D_requireReady_8 : decode prog_1_method_23_code 8 = .ok (.getfield 12, 3) := by decide +kernel
theorem d_D_requireReady_11 : decode prog_1_method_23_code 11 = .ok (.getfield 134, 3) := by decide +kernel
theorem d_D_requireReady_14 : decode prog_1_method_23_code 14 = .ok (.ifCond .ne (14), 3) := by decide +kernel
theorem d_D_requireReady_17 : decode prog_1_method_23_code 17 = .ok (.new 70, 3) := by decide +kernel
theorem d_D_requireReady_20 : decode prog_1_method_23_code 20 = .ok (.dup, 1) := by decide +kernel
theorem d_D_requireReady_21 : decode prog_1_method_23_code 21 = .ok (.ldc_w 294, 3) := by decide +kernel
theorem d_D_requireReady_24 : decode prog_1_method_23_code 24 = .ok (.invokespecial 74, 3) := by decide +kernel
theorem d_D_requireReady_27 : decode prog_1_method_23_code 27 = .ok (.athrow, 1) := by decide +kernel
theorem d_D_requireReady_28 : decode prog_1_method_23_code 28 = .ok (.return_, 1) := by decide +kernel
def Y_D_requireReady : sdY := ("SettingsDesk", prog_1_method_23_code, 1, none, .code y_D_requireReady prog_1_method_23_code 1 none :: sdB0, { frames := 6, cells := 1, slots := 6, locals := 82 }, 1, 6, [])
section
variable {l : Launch} {D : va_G} {dA : Nat → ClassId} {b n : Nat} {ad : Nat → Nat} {L : Nat → sdL} {sc : Option (Nat × Nat × (Nat → Int32))}
def k_D_requireReady_17 (Q : sdM → Prop) (X : String → sdM → Prop) (M : sdM) : Prop := X "java/lang/IllegalStateException" M
set_option maxHeartbeats 1000000 in
theorem t_D_requireReady_17 (hA : sd_ad b n ad) (hT : l.stackTraces = false) (hD : isD n L dA) {Q : sdM → Prop} {X : String → sdM → Prop} (M : sdM) (hw : k_D_requireReady_17 Q X M ) : sdW l (sdE0 sc) Y_D_requireReady D (sd_tys dA) b n ad L ad (sd_H D (sdE0 sc).1 n ad L) (sd_qv Q) X 17 [] [] M 1 6 := by
  unfold k_D_requireReady_17 at hw
  exact x_throwS (names := sdExN) (is := 294) (ic := 74) (rc := 0) (rs := 0) hT rfl fit_ISE fit_N (sd_goodB q342) (List.mem_cons_of_mem _ q290) (List.mem_cons_of_mem _ q291) (List.mem_cons_of_mem _ q292) (List.mem_of_getElem? (i := 8) rfl) oa_ISE d_D_requireReady_17 d_D_requireReady_20 (Or.inr ⟨d_D_requireReady_21, rfl⟩) d_D_requireReady_24 d_D_requireReady_27 (by decide) (Nat.le_of_ble_eq_true rfl) rfl rfl (fun _ _ h => h) hw
def w_D_requireReady (M : sdM) (Q : sdM → Prop) (X : String → sdM → Prop) : Prop := (¬ (M 0 10) = 0 → k_D_requireReady_17 Q X M) ∧ ((M 0 10) = 0 → (¬ (M 1 0) = 0 → Q M) ∧ ((M 1 0) = 0 → k_D_requireReady_17 Q X M))
set_option maxHeartbeats 1000000 in
theorem c_D_requireReady (hA : sd_ad b n ad) (hT : l.stackTraces = false) (hD : isD n L dA) {Q : sdM → Prop} {X : String → sdM → Prop} {M : sdM} (hw : w_D_requireReady M Q X) : sd_Cn l (sdE0 sc) y_D_requireReady Y_D_requireReady.2.2.2.2.1 Y_D_requireReady.2.2.2.2.2.1 1 6 D (sd_tys dA) b n ad L M [.ref 0] (sd_qv Q) X := by
  refine sd_enter (Y := Y_D_requireReady) rfl rfl rfl rfl (Nat.le_of_ble_eq_true rfl) ?_
  show sdW l (sdE0 sc) Y_D_requireReady D (sd_tys dA) b n ad L ad (sd_H D (sdE0 sc).1 n ad L) (sd_qv Q) X 0 [(0, .ref 0)] [] M 1 6
  unfold w_D_requireReady at hw
  refine x_aload_n 0 0 d_D_requireReady_0 rfl rfl ?_
  refine x_geti 10 d_D_requireReady_1 hD.1 hD.2.1 rfl rfl (by decide) lay_D (List.mem_cons_of_mem _ q264) rfl ?_
  refine x_if_ne 17 d_D_requireReady_4 rfl (fun hc => ?_) (fun hc => ?_)
  · have hw := hw.1 hc
    refine x_sub [] [] rfl ?_
    exact t_D_requireReady_17 hA hT hD M hw
  · have hw := hw.2 hc
    refine x_aload_n 0 0 d_D_requireReady_7 rfl rfl ?_
    refine x_getr 0 1 d_D_requireReady_8 hD.1 hD.2.1 rfl rfl (by decide) lay_D (List.mem_cons_of_mem _ q281) rfl ?_
    refine x_geti 0 d_D_requireReady_11 hD.schema.1 hD.schema.2.1 rfl rfl (by decide) lay_C (List.mem_cons_of_mem _ q288) rfl ?_
    refine x_if_ne 28 d_D_requireReady_14 rfl (fun hc => ?_) (fun hc => ?_)
    · have hw := hw.1 hc
      exact x_vret d_D_requireReady_28 rfl (fun _ h => h) ⟨rfl, hw⟩
    · have hw := hw.2 hc
      refine x_sub [] [] rfl ?_
      exact t_D_requireReady_17 hA hT hD M hw
end
theorem q343 : (.code ⟨"SettingsDesk", "requireSession", "(I)V"⟩ prog_1_method_26_code 2 none : Cond) ∈ sdB0 := sd_tb3 96 rfl rfl
abbrev y_D_requireSession : MethodName := ⟨"SettingsDesk", "requireSession", "(I)V"⟩
theorem d_D_requireSession_0 : decode prog_1_method_26_code 0 = .ok (.iload_n 1, 1) := by decide +kernel
theorem d_D_requireSession_1 : decode prog_1_method_26_code 1 = .ok (.ifCond .lt (8), 3) := by decide +kernel
theorem d_D_requireSession_4 : decode prog_1_method_26_code 4 = .ok (.iload_n 1, 1) := by decide +kernel
theorem d_D_requireSession_5 : decode prog_1_method_26_code 5 = .ok (.iconst 3, 1) := by decide +kernel
theorem d_D_requireSession_6 : decode prog_1_method_26_code 6 = .ok (.if_icmp .lt (14), 3) := by decide +kernel
theorem d_D_requireSession_9 : decode prog_1_method_26_code 9 = .ok (.new 206, 3) := by decide +kernel
theorem d_D_requireSession_12 : decode prog_1_method_26_code 12 = .ok (.dup, 1) := by decide +kernel
theorem d_D_requireSession_13 : decode prog_1_method_26_code 13 = .ok (.ldc_w 306, 3) := by decide +kernel
theorem d_D_requireSession_16 : decode prog_1_method_26_code 16 = .ok (.invokespecial 210, 3) := by decide +kernel
theorem d_D_requireSession_19 : decode prog_1_method_26_code 19 = .ok (.athrow, 1) := by decide +kernel
theorem d_D_requireSession_20 : decode prog_1_method_26_code 20 = .ok (.return_, 1) := by decide +kernel
def Y_D_requireSession : sdY := ("SettingsDesk", prog_1_method_26_code, 2, none, .code y_D_requireSession prog_1_method_26_code 2 none :: sdB0, { frames := 6, cells := 1, slots := 6, locals := 82 }, 1, 6, [])
section
variable {l : Launch} {D : va_G} {dA : Nat → ClassId} {b n : Nat} {ad : Nat → Nat} {L : Nat → sdL} {sc : Option (Nat × Nat × (Nat → Int32))}
def k_D_requireSession_9 (Q : sdM → Prop) (X : String → sdM → Prop) (M : sdM) : Prop := X "java/lang/IndexOutOfBoundsException" M
set_option maxHeartbeats 1000000 in
theorem t_D_requireSession_9 (hA : sd_ad b n ad) (hT : l.stackTraces = false) (hD : isD n L dA) {Q : sdM → Prop} {X : String → sdM → Prop} (M : sdM) (hw : k_D_requireSession_9 Q X M ) : sdW l (sdE0 sc) Y_D_requireSession D (sd_tys dA) b n ad L ad (sd_H D (sdE0 sc).1 n ad L) (sd_qv Q) X 9 [] [] M 1 6 := by
  unfold k_D_requireSession_9 at hw
  exact x_throwS (names := sdExN) (is := 306) (ic := 210) (rc := 0) (rs := 0) hT rfl fit_IOB fit_N (sd_goodB q343) (List.mem_cons_of_mem _ q298) (List.mem_cons_of_mem _ q299) (List.mem_cons_of_mem _ q300) (List.mem_of_getElem? (i := 9) rfl) oa_IOB d_D_requireSession_9 d_D_requireSession_12 (Or.inr ⟨d_D_requireSession_13, rfl⟩) d_D_requireSession_16 d_D_requireSession_19 (by decide) (Nat.le_of_ble_eq_true rfl) rfl rfl (fun _ _ h => h) hw
def w_D_requireSession (M : sdM) (a1 : Int32) (Q : sdM → Prop) (X : String → sdM → Prop) : Prop := (a1 < 0 → k_D_requireSession_9 Q X M) ∧ (¬ a1 < 0 → (a1 < (3 : Int32) → Q M) ∧ (¬ a1 < (3 : Int32) → k_D_requireSession_9 Q X M))
set_option maxHeartbeats 1000000 in
theorem c_D_requireSession {a1 : Int32} (hA : sd_ad b n ad) (hT : l.stackTraces = false) (hD : isD n L dA) {Q : sdM → Prop} {X : String → sdM → Prop} {M : sdM} (hw : w_D_requireSession M a1 Q X) : sd_Cn l (sdE0 sc) y_D_requireSession Y_D_requireSession.2.2.2.2.1 Y_D_requireSession.2.2.2.2.2.1 1 6 D (sd_tys dA) b n ad L M [.ref 0, .int a1] (sd_qv Q) X := by
  refine sd_enter (Y := Y_D_requireSession) rfl rfl rfl rfl (Nat.le_of_ble_eq_true rfl) ?_
  show sdW l (sdE0 sc) Y_D_requireSession D (sd_tys dA) b n ad L ad (sd_H D (sdE0 sc).1 n ad L) (sd_qv Q) X 0 [(0, .ref 0), (1, .int a1)] [] M 1 6
  unfold w_D_requireSession at hw
  refine x_iload_n 1 1 d_D_requireSession_0 rfl rfl ?_
  refine x_if_lt 9 d_D_requireSession_1 rfl (fun hc => ?_) (fun hc => ?_)
  · have hw := hw.1 hc
    refine x_sub [] [] rfl ?_
    exact t_D_requireSession_9 hA hT hD M hw
  · have hw := hw.2 hc
    refine x_iload_n 1 1 d_D_requireSession_4 rfl rfl ?_
    refine x_iconst (v := 3) d_D_requireSession_5 (by decide) ?_
    refine x_icmp_lt 20 d_D_requireSession_6 rfl (fun hc => ?_) (fun hc => ?_)
    · have hw := hw.1 hc
      exact x_vret d_D_requireSession_20 rfl (fun _ h => h) ⟨rfl, hw⟩
    · have hw := hw.2 hc
      refine x_sub [] [] rfl ?_
      exact t_D_requireSession_9 hA hT hD M hw
end
abbrev y_D_begunSessions : MethodName := ⟨"SettingsDesk", "begunSessions", "()I"⟩
theorem d_D_begunSessions_0 : decode prog_1_method_29_code 0 = .ok (.iconst 0, 1) := by decide +kernel
theorem d_D_begunSessions_1 : decode prog_1_method_29_code 1 = .ok (.istore_n 1, 1) := by decide +kernel
theorem d_D_begunSessions_2 : decode prog_1_method_29_code 2 = .ok (.iconst 0, 1) := by decide +kernel
theorem d_D_begunSessions_3 : decode prog_1_method_29_code 3 = .ok (.istore_n 2, 1) := by decide +kernel
theorem d_D_begunSessions_4 : decode prog_1_method_29_code 4 = .ok (.iload_n 2, 1) := by decide +kernel
theorem d_D_begunSessions_5 : decode prog_1_method_29_code 5 = .ok (.iconst 3, 1) := by decide +kernel
theorem d_D_begunSessions_6 : decode prog_1_method_29_code 6 = .ok (.if_icmp .ge (24), 3) := by decide +kernel
theorem d_D_begunSessions_9 : decode prog_1_method_29_code 9 = .ok (.aload_n 0, 1) := by decide +kernel
theorem d_D_begunSessions_10 : decode prog_1_method_29_code 10 = .ok (.getfield 35, 3) := by decide +kernel
theorem d_D_begunSessions_13 : decode prog_1_method_29_code 13 = .ok (.iload_n 2, 1) := by decide +kernel
theorem d_D_begunSessions_14 : decode prog_1_method_29_code 14 = .ok (.aaload, 1) := by decide +kernel
theorem d_D_begunSessions_15 : decode prog_1_method_29_code 15 = .ok (.getfield 152, 3) := by decide +kernel
theorem d_D_begunSessions_18 : decode prog_1_method_29_code 18 = .ok (.ifCond .eq (6), 3) := by decide +kernel
theorem d_D_begunSessions_21 : decode prog_1_method_29_code 21 = .ok (.iinc 1 (1), 3) := by decide +kernel
theorem d_D_begunSessions_24 : decode prog_1_method_29_code 24 = .ok (.iinc 2 (1), 3) := by decide +kernel
theorem d_D_begunSessions_27 : decode prog_1_method_29_code 27 = .ok (.goto (-23), 3) := by decide +kernel
theorem d_D_begunSessions_30 : decode prog_1_method_29_code 30 = .ok (.iload_n 1, 1) := by decide +kernel
theorem d_D_begunSessions_31 : decode prog_1_method_29_code 31 = .ok (.ireturn, 1) := by decide +kernel
def Y_D_begunSessions : sdY := ("SettingsDesk", prog_1_method_29_code, 3, (some .int), .code y_D_begunSessions prog_1_method_29_code 3 (some .int) :: sdB0, { frames := 0, cells := 0, slots := 0, locals := 0 }, 0, 0, [])
section
variable {l : Launch} {D : va_G} {dA : Nat → ClassId} {b n : Nat} {ad : Nat → Nat} {L : Nat → sdL} {sc : Option (Nat × Nat × (Nat → Int32))}
def k_D_begunSessions_24 (Q : Int32 → sdM → Prop) (k4 : sdM → Int32 → Int32 → Prop) (M : sdM) (x1 : Int32) (x2 : Int32) : Prop := k4 M x1 (x2 + 1)
set_option maxHeartbeats 1000000 in
theorem t_D_begunSessions_24 (hA : sd_ad b n ad) (hT : l.stackTraces = false) (hD : isD n L dA) {Q : Int32 → sdM → Prop} {k4 : sdM → Int32 → Int32 → Prop} (hk4 : ∀ (M : sdM) (x1 : Int32) (x2 : Int32), k4 M x1 x2 → sdW l (sdE0 sc) Y_D_begunSessions D (sd_tys dA) b n ad L ad (sd_H D (sdE0 sc).1 n ad L) (sd_qi Q) sd_xf 4 [(0, .ref 0), (1, .int x1), (2, .int x2)] [] M 0 0) (M : sdM) (x1 : Int32) (x2 : Int32) (hw : k_D_begunSessions_24 Q k4 M x1 x2) : sdW l (sdE0 sc) Y_D_begunSessions D (sd_tys dA) b n ad L ad (sd_H D (sdE0 sc).1 n ad L) (sd_qi Q) sd_xf 24 [(0, .ref 0), (1, .int x1), (2, .int x2)] [] M 0 0 := by
  unfold k_D_begunSessions_24 at hw
  refine x_iinc 2 2 [(2, .int (x2 + 1)), (0, .ref 0), (1, .int x1)] d_D_begunSessions_24 rfl (congrArg (HAdd.hAdd x2) (show Int32.ofInt 1 = 1 by decide)) (by decide) rfl ?_
  refine x_goto 4 d_D_begunSessions_27 rfl ?_
  refine x_sub [1, 2, 0] [(0, .ref 0), (1, .int x1), (2, .int (x2 + 1))] rfl ?_
  exact hk4 M x1 (x2 + 1) hw
def h_D_begunSessions_4 (Q : Int32 → sdM → Prop) : Nat → sdM → Int32 → Int32 → Prop
  | 0, _, _, _ => False
  | N + 1, M, x1, x2 => ((3 : Int32) ≤ x2 → Q x1 M) ∧ (¬ (3 : Int32) ≤ x2 → vp_in x2 3 ∧ ((M (83 + 11 * x2.toNatClampNeg) 0) = 0 → k_D_begunSessions_24 Q (fun M x1 x2 => h_D_begunSessions_4 Q N M x1 x2) M x1 x2) ∧ (¬ (M (83 + 11 * x2.toNatClampNeg) 0) = 0 → k_D_begunSessions_24 Q (fun M x1 x2 => h_D_begunSessions_4 Q N M x1 x2) M (x1 + 1) x2))
set_option maxHeartbeats 1000000 in
theorem t_D_begunSessions_4 (hA : sd_ad b n ad) (hT : l.stackTraces = false) (hD : isD n L dA) {Q : Int32 → sdM → Prop} (N : Nat) : ∀ (M : sdM) (x1 : Int32) (x2 : Int32), h_D_begunSessions_4 Q N M x1 x2 → sdW l (sdE0 sc) Y_D_begunSessions D (sd_tys dA) b n ad L ad (sd_H D (sdE0 sc).1 n ad L) (sd_qi Q) sd_xf 4 [(0, .ref 0), (1, .int x1), (2, .int x2)] [] M 0 0 := by
  induction N with
  | zero => intro M x1 x2 hw; exact hw.elim
  | succ N ih =>
    intro M x1 x2 hw
    rw [h_D_begunSessions_4] at hw
    refine x_iload_n 2 2 d_D_begunSessions_4 rfl rfl ?_
    refine x_iconst (v := 3) d_D_begunSessions_5 (by decide) ?_
    refine x_icmp_ge 30 d_D_begunSessions_6 rfl (fun hc => ?_) (fun hc => ?_)
    · have hw := hw.1 hc
      refine x_iload_n 1 1 d_D_begunSessions_30 rfl rfl ?_
      exact x_iret d_D_begunSessions_31 rfl (fun _ h => h) ⟨_, rfl, hw⟩
    · have hw := hw.2 hc
      refine x_aload_n 0 0 d_D_begunSessions_9 rfl rfl ?_
      refine x_getr 5 41 d_D_begunSessions_10 hD.1 hD.2.1 rfl rfl (by decide) lay_D (List.mem_cons_of_mem _ q268) rfl ?_
      refine x_iload_n 2 2 d_D_begunSessions_13 rfl rfl ?_
      obtain ⟨hi2, hw⟩ := hw
      refine x_aald (83 + 11 * x2.toNatClampNeg) d_D_begunSessions_14 hD.sessions.1 hD.sessions.2 (t0 := 6) rfl hi2 rfl ?_
      refine x_geti 0 d_D_begunSessions_15 (hD.sessionsAt hi2).1 (hD.sessionsAt hi2).2.1 rfl rfl (by decide) lay_N (List.mem_cons_of_mem _ q269) rfl ?_
      refine x_if_eq 24 d_D_begunSessions_18 rfl (fun hc => ?_) (fun hc => ?_)
      · have hw := hw.1 hc
        exact t_D_begunSessions_24 hA hT hD (fun M x1 x2  hw => ih M x1 x2 hw) M x1 x2 hw
      · have hw := hw.2 hc
        refine x_iinc 1 1 [(1, .int (x1 + 1)), (0, .ref 0), (2, .int x2)] d_D_begunSessions_21 rfl (congrArg (HAdd.hAdd x1) (show Int32.ofInt 1 = 1 by decide)) (by decide) rfl ?_
        refine x_sub [1, 0, 2] [(0, .ref 0), (1, .int (x1 + 1)), (2, .int x2)] rfl ?_
        exact t_D_begunSessions_24 hA hT hD (fun M x1 x2  hw => ih M x1 x2 hw) M (x1 + 1) x2 hw
def w_D_begunSessions (M : sdM) (Q : Int32 → sdM → Prop) : Prop := ∃ N9 : Nat, h_D_begunSessions_4 Q N9 M (0 : Int32) (0 : Int32)
set_option maxHeartbeats 1000000 in
theorem c_D_begunSessions (hA : sd_ad b n ad) (hT : l.stackTraces = false) (hD : isD n L dA) {Q : Int32 → sdM → Prop} {M : sdM} (hw : w_D_begunSessions M Q) : sd_Cn l (sdE0 sc) y_D_begunSessions Y_D_begunSessions.2.2.2.2.1 Y_D_begunSessions.2.2.2.2.2.1 0 0 D (sd_tys dA) b n ad L M [.ref 0] (sd_qi Q) sd_xf := by
  refine sd_enter (Y := Y_D_begunSessions) rfl rfl rfl rfl (Nat.le_of_ble_eq_true rfl) ?_
  show sdW l (sdE0 sc) Y_D_begunSessions D (sd_tys dA) b n ad L ad (sd_H D (sdE0 sc).1 n ad L) (sd_qi Q) sd_xf 0 [(0, .ref 0)] [] M 0 0
  unfold w_D_begunSessions at hw
  refine x_iconst (v := 0) d_D_begunSessions_0 (by decide) ?_
  refine x_istore_n 1 [(1, .int (0 : Int32)), (0, .ref 0)] d_D_begunSessions_1 rfl (by decide) rfl ?_
  refine x_iconst (v := 0) d_D_begunSessions_2 (by decide) ?_
  refine x_istore_n 2 [(2, .int (0 : Int32)), (1, .int (0 : Int32)), (0, .ref 0)] d_D_begunSessions_3 rfl (by decide) rfl ?_
  refine x_sub [2, 1, 0] [(0, .ref 0), (1, .int (0 : Int32)), (2, .int (0 : Int32))] rfl ?_
  obtain ⟨N9, hw⟩ := hw
  exact t_D_begunSessions_4 hA hT hD N9 M (0 : Int32) (0 : Int32) hw
end
theorem q344 : (.methodLink "SettingsDesk" 146 ⟨"SettingsDesk", "requireReady", "()V"⟩ : Cond) ∈ sdB0 := sd_tb3 88 rfl rfl
theorem q345 : (.instanceMethod ⟨"SettingsDesk", "requireReady", "()V"⟩ : Cond) ∈ sdB0 := sd_tb3 90 rfl rfl
theorem q346 : (.selects "SettingsDesk" ⟨"SettingsDesk", "requireReady", "()V"⟩ ⟨"SettingsDesk", "requireReady", "()V"⟩ : Cond) ∈ sdB0 := sd_tbp (q := (⟨"SettingsDesk", "requireReady", "()V"⟩, 12)) (List.mem_of_getElem? (i := 6) rfl)
theorem q347 : (.methodLink "SettingsDesk" 149 ⟨"SettingsDesk", "requireSession", "(I)V"⟩ : Cond) ∈ sdB0 := sd_tb3 93 rfl rfl
theorem q348 : (.instanceMethod ⟨"SettingsDesk", "requireSession", "(I)V"⟩ : Cond) ∈ sdB0 := sd_tb3 95 rfl rfl
theorem q349 : (.selects "SettingsDesk" ⟨"SettingsDesk", "requireSession", "(I)V"⟩ ⟨"SettingsDesk", "requireSession", "(I)V"⟩ : Cond) ∈ sdB0 := sd_tbp (q := (⟨"SettingsDesk", "requireSession", "(I)V"⟩, 12)) (List.mem_of_getElem? (i := 7) rfl)
theorem q350 : (.methodLink "SettingsDesk" 155 ⟨"SettingsDesk$Session", "takeOver", "(LSettingsDesk$Settings;LSettingsDesk$Settings;)V"⟩ : Cond) ∈ sdB0 := sd_tb3 98 rfl rfl
theorem q351 : (.code ⟨"SettingsDesk$Session", "takeOver", "(LSettingsDesk$Settings;LSettingsDesk$Settings;)V"⟩ prog_8_method_2_code 3 none : Cond) ∈ sdB0 := sd_tb3 101 rfl rfl
theorem q352 : (.instanceMethod ⟨"SettingsDesk$Session", "takeOver", "(LSettingsDesk$Settings;LSettingsDesk$Settings;)V"⟩ : Cond) ∈ sdB0 := sd_tb3 99 rfl rfl
theorem q353 : (.selects "SettingsDesk$Session" ⟨"SettingsDesk$Session", "takeOver", "(LSettingsDesk$Settings;LSettingsDesk$Settings;)V"⟩ ⟨"SettingsDesk$Session", "takeOver", "(LSettingsDesk$Settings;LSettingsDesk$Settings;)V"⟩ : Cond) ∈ sdB0 := sd_tb3 100 rfl rfl
theorem q354 : (.initialized "SettingsDesk$Session" : Cond) ∈ sdB0 := sd_tb1 7 rfl rfl
theorem q355 : (.methodLink "SettingsDesk" 159 ⟨"SettingsDesk", "begunSessions", "()I"⟩ : Cond) ∈ sdB0 := sd_tb3 103 rfl rfl
theorem q356 : (.code ⟨"SettingsDesk", "begunSessions", "()I"⟩ prog_1_method_29_code 3 (some .int) : Cond) ∈ sdB0 := sd_tb3 106 rfl rfl
theorem q357 : (.instanceMethod ⟨"SettingsDesk", "begunSessions", "()I"⟩ : Cond) ∈ sdB0 := sd_tb3 105 rfl rfl
theorem q358 : (.selects "SettingsDesk" ⟨"SettingsDesk", "begunSessions", "()I"⟩ ⟨"SettingsDesk", "begunSessions", "()I"⟩ : Cond) ∈ sdB0 := sd_tbp (q := (⟨"SettingsDesk", "begunSessions", "()I"⟩, 12)) (List.mem_of_getElem? (i := 8) rfl)
abbrev y_D_begin : MethodName := ⟨"SettingsDesk", "begin", "(I)I"⟩
theorem d_D_begin_0 : decode prog_1_method_7_code 0 = .ok (.aload_n 0, 1) := by decide +kernel
theorem d_D_begin_1 : decode prog_1_method_7_code 1 = .ok (.invokevirtual 146, 3) := by decide +kernel
theorem d_D_begin_4 : decode prog_1_method_7_code 4 = .ok (.aload_n 0, 1) := by decide +kernel
theorem d_D_begin_5 : decode prog_1_method_7_code 5 = .ok (.iload_n 1, 1) := by decide +kernel
theorem d_D_begin_6 : decode prog_1_method_7_code 6 = .ok (.invokevirtual 149, 3) := by decide +kernel
theorem d_D_begin_9 : decode prog_1_method_7_code 9 = .ok (.aload_n 0, 1) := by decide +kernel
theorem d_D_begin_10 : decode prog_1_method_7_code 10 = .ok (.getfield 35, 3) := by decide +kernel
theorem d_D_begin_13 : decode prog_1_method_7_code 13 = .ok (.iload_n 1, 1) := by decide +kernel
theorem d_D_begin_14 : decode prog_1_method_7_code 14 = .ok (.aaload, 1) := by decide +kernel
theorem d_D_begin_15 : decode prog_1_method_7_code 15 = .ok (.iconst 1, 1) := by decide +kernel
theorem d_D_begin_16 : decode prog_1_method_7_code 16 = .ok (.putfield 152, 3) := by decide +kernel
theorem d_D_begin_19 : decode prog_1_method_7_code 19 = .ok (.aload_n 0, 1) := by decide +kernel
theorem d_D_begin_20 : decode prog_1_method_7_code 20 = .ok (.getfield 35, 3) := by decide +kernel
theorem d_D_begin_23 : decode prog_1_method_7_code 23 = .ok (.iload_n 1, 1) := by decide +kernel
theorem d_D_begin_24 : decode prog_1_method_7_code 24 = .ok (.aaload, 1) := by decide +kernel
theorem d_D_begin_25 : decode prog_1_method_7_code 25 = .ok (.aload_n 0, 1) := by decide +kernel
theorem d_D_begin_26 : decode prog_1_method_7_code 26 = .ok (.getfield 19, 3) := by decide +kernel
theorem d_D_begin_29 : decode prog_1_method_7_code 29 = .ok (.aload_n 0, 1) := by decide +kernel
theorem d_D_begin_30 : decode prog_1_method_7_code 30 = .ok (.getfield 19, 3) := by decide +kernel
theorem d_D_begin_33 : decode prog_1_method_7_code 33 = .ok (.invokevirtual 155, 3) := by decide +kernel
theorem d_D_begin_36 : decode prog_1_method_7_code 36 = .ok (.aload_n 0, 1) := by decide +kernel
theorem d_D_begin_37 : decode prog_1_method_7_code 37 = .ok (.invokevirtual 159, 3) := by decide +kernel
theorem d_D_begin_40 : decode prog_1_method_7_code 40 = .ok (.ireturn, 1) := by decide +kernel
def Y_D_begin : sdY := ("SettingsDesk", prog_1_method_7_code, 2, (some .int), .code y_D_begin prog_1_method_7_code 2 (some .int) :: sdB0, { frames := 7, cells := 2, slots := 12, locals := 103 }, 2, 12, [])
theorem cw_D_begin_D_requireReady_146 : sd_cwV Y_D_begin Y_D_requireReady y_D_requireReady 146 0 "SettingsDesk" := ⟨sd_goodV q344 q345 q346 q274 q342, ⟨_, rfl⟩, ⟨rfl, rfl, rfl, rfl⟩, ⟨rfl, by decide, by decide, by decide +kernel⟩, ⟨by decide, by decide⟩⟩
theorem cw_D_begin_D_requireSession_149 : sd_cwV Y_D_begin Y_D_requireSession y_D_requireSession 149 1 "SettingsDesk" := ⟨sd_goodV q347 q348 q349 q274 q343, ⟨_, rfl⟩, ⟨rfl, rfl, rfl, rfl⟩, ⟨rfl, by decide, by decide, by decide +kernel⟩, ⟨by decide, by decide⟩⟩
theorem cw_D_begin_N_takeOver_155 : sd_cwV Y_D_begin Y_N_takeOver y_N_takeOver 155 2 "SettingsDesk$Session" := ⟨sd_goodV q350 q352 q353 q354 q351, ⟨_, rfl⟩, ⟨rfl, rfl, rfl, rfl⟩, ⟨rfl, by decide, by decide, by decide +kernel⟩, ⟨by decide, by decide⟩⟩
theorem cw_D_begin_D_begunSessions_159 : sd_cwV Y_D_begin Y_D_begunSessions y_D_begunSessions 159 0 "SettingsDesk" := ⟨sd_goodV q355 q357 q358 q274 q356, ⟨_, rfl⟩, ⟨rfl, rfl, rfl, rfl⟩, ⟨rfl, by decide, by decide, by decide +kernel⟩, ⟨by decide, by decide⟩⟩
section
variable {l : Launch} {D : va_G} {dA : Nat → ClassId} {b n : Nat} {ad : Nat → Nat} {L : Nat → sdL} {sc : Option (Nat × Nat × (Nat → Int32))}
def w_D_begin (M : sdM) (a1 : Int32) (Q : Int32 → sdM → Prop) (X : String → sdM → Prop) : Prop := w_D_requireReady M (fun M11 => w_D_requireSession M11 a1 (fun M12 => vp_in a1 3 ∧ sdB (1 : Int32) ∧ ∀ M14 : sdM, M14 = sd_s M12 (83 + 11 * a1.toNatClampNeg) 0 (1 : Int32) → vp_in a1 3 ∧ w_N_takeOver (83 + 11 * a1.toNatClampNeg) M14 25 25 (fun M18 => w_D_begunSessions M18 (fun r20 M19 => Q r20 M19))) X) X
set_option maxHeartbeats 1000000 in
theorem c_D_begin {a1 : Int32} (hA : sd_ad b n ad) (hT : l.stackTraces = false) (hD : isD n L dA) {Q : Int32 → sdM → Prop} {X : String → sdM → Prop} {M : sdM} (hw : w_D_begin M a1 Q X) : sd_Cn l (sdE0 sc) y_D_begin Y_D_begin.2.2.2.2.1 Y_D_begin.2.2.2.2.2.1 2 12 D (sd_tys dA) b n ad L M [.ref 0, .int a1] (sd_qi Q) X := by
  refine sd_enter (Y := Y_D_begin) rfl rfl rfl rfl (Nat.le_of_ble_eq_true rfl) ?_
  show sdW l (sdE0 sc) Y_D_begin D (sd_tys dA) b n ad L ad (sd_H D (sdE0 sc).1 n ad L) (sd_qi Q) X 0 [(0, .ref 0), (1, .int a1)] [] M 2 12
  unfold w_D_begin at hw
  refine x_aload_n 0 0 d_D_begin_0 rfl rfl ?_
  refine x_callVv (As := []) (t := 0) (rest := []) (rc := 1) (rs := 6) (c_D_requireReady hA hT hD hw) cw_D_begin_D_requireReady_146 hD.1 hD.2.1 rfl d_D_begin_1 rfl rfl (Nat.le_of_ble_eq_true rfl) rfl (fun _ _ h => h) (fun _ _ h => h) (fun M11 hw => ?_)
  refine x_aload_n 0 0 d_D_begin_4 rfl rfl ?_
  refine x_iload_n 1 1 d_D_begin_5 rfl rfl ?_
  refine x_callVv (As := [.int a1]) (t := 0) (rest := []) (rc := 0) (rs := 0) (c_D_requireSession hA hT hD hw) cw_D_begin_D_requireSession_149 hD.1 hD.2.1 rfl d_D_begin_6 rfl rfl (Nat.le_of_ble_eq_true rfl) rfl (fun _ _ h => h) (fun _ _ h => h) (fun M12 hw => ?_)
  refine x_aload_n 0 0 d_D_begin_9 rfl rfl ?_
  refine x_getr 5 41 d_D_begin_10 hD.1 hD.2.1 rfl rfl (by decide) lay_D (List.mem_cons_of_mem _ q268) rfl ?_
  refine x_iload_n 1 1 d_D_begin_13 rfl rfl ?_
  obtain ⟨hi13, hw⟩ := hw
  refine x_aald (83 + 11 * a1.toNatClampNeg) d_D_begin_14 hD.sessions.1 hD.sessions.2 (t0 := 6) rfl hi13 rfl ?_
  refine x_iconst (v := 1) d_D_begin_15 (by decide) ?_
  obtain ⟨hb16, hw⟩ := hw
  refine x_puti 0 (ty := .boolean) hA d_D_begin_16 (hD.sessionsAt hi13).1 (hD.sessionsAt hi13).2.1 rfl rfl (by decide) lay_N (List.mem_cons_of_mem _ q269) rfl ty_N ty_N_ok nm_N rfl (by decide +kernel) (sdB_n hb16) (sdB_f hb16) (fun M14 e15 => ?_)
  have hw := hw M14 e15
  clear e15
  refine x_aload_n 0 0 d_D_begin_19 rfl rfl ?_
  refine x_getr 5 41 d_D_begin_20 hD.1 hD.2.1 rfl rfl (by decide) lay_D (List.mem_cons_of_mem _ q268) rfl ?_
  refine x_iload_n 1 1 d_D_begin_23 rfl rfl ?_
  obtain ⟨hi17, hw⟩ := hw
  refine x_aald (83 + 11 * a1.toNatClampNeg) d_D_begin_24 hD.sessions.1 hD.sessions.2 (t0 := 6) rfl hi17 rfl ?_
  refine x_aload_n 0 0 d_D_begin_25 rfl rfl ?_
  refine x_getr 1 25 d_D_begin_26 hD.1 hD.2.1 rfl rfl (by decide) lay_D (List.mem_cons_of_mem _ q253) rfl ?_
  refine x_aload_n 0 0 d_D_begin_29 rfl rfl ?_
  refine x_getr 1 25 d_D_begin_30 hD.1 hD.2.1 rfl rfl (by decide) lay_D (List.mem_cons_of_mem _ q253) rfl ?_
  refine x_callVv (As := [.ref 25, .ref 25]) (t := (83 + 11 * a1.toNatClampNeg)) (rest := []) (rc := 0) (rs := 0) (c_N_takeOver hA hT (hD.sessionsAt hi17) hD.running hD.running hw) cw_D_begin_N_takeOver_155 (hD.sessionsAt hi17).1 (hD.sessionsAt hi17).2.1 rfl d_D_begin_33 rfl rfl (Nat.le_of_ble_eq_true rfl) rfl (fun _ _ h => h.elim) (fun _ _ h => h) (fun M18 hw => ?_)
  refine x_aload_n 0 0 d_D_begin_36 rfl rfl ?_
  refine x_callVi (As := []) (t := 0) (rest := []) (rc := 0) (rs := 0) (c_D_begunSessions hA hT hD hw) cw_D_begin_D_begunSessions_159 hD.1 hD.2.1 rfl d_D_begin_37 rfl rfl (Nat.le_of_ble_eq_true rfl) rfl (fun _ _ h => h.elim) (fun _ _ h => h) (fun r20 M19 hw => ?_)
  exact x_iret d_D_begin_40 rfl (fun _ h => h) ⟨_, rfl, hw⟩
end
theorem q359 : (.code ⟨"SettingsDesk", "requireBegun", "(I)V"⟩ prog_1_method_27_code 2 none : Cond) ∈ sdB0 := sd_tb3 118 rfl rfl
abbrev y_D_requireBegun : MethodName := ⟨"SettingsDesk", "requireBegun", "(I)V"⟩
theorem d_D_requireBegun_0 : decode prog_1_method_27_code 0 = .ok (.aload_n 0, 1) := by decide +kernel
theorem d_D_requireBegun_1 : decode prog_1_method_27_code 1 = .ok (.getfield 35, 3) := by decide +kernel
theorem d_D_requireBegun_4 : decode prog_1_method_27_code 4 = .ok (.iload_n 1, 1) := by decide +kernel
theorem d_D_requireBegun_5 : decode prog_1_method_27_code 5 = .ok (.aaload, 1) := by decide +kernel
theorem d_D_requireBegun_6 : decode prog_1_method_27_code 6 = .ok (.getfield 152, 3) := by decide +kernel
theorem d_D_requireBegun_9 : decode prog_1_method_27_code 9 = .ok (.ifCond .ne (14), 3) := by decide +kernel
theorem d_D_requireBegun_12 : decode prog_1_method_27_code 12 = .ok (.new 70, 3) := by decide +kernel
theorem d_D_requireBegun_15 : decode prog_1_method_27_code 15 = .ok (.dup, 1) := by decide +kernel
theorem d_D_requireBegun_16 : decode prog_1_method_27_code 16 = .ok (.ldc_w 308, 3) := by decide +kernel
theorem d_D_requireBegun_19 : decode prog_1_method_27_code 19 = .ok (.invokespecial 74, 3) := by decide +kernel
theorem d_D_requireBegun_22 : decode prog_1_method_27_code 22 = .ok (.athrow, 1) := by decide +kernel
theorem d_D_requireBegun_23 : decode prog_1_method_27_code 23 = .ok (.return_, 1) := by decide +kernel
def Y_D_requireBegun : sdY := ("SettingsDesk", prog_1_method_27_code, 2, none, .code y_D_requireBegun prog_1_method_27_code 2 none :: sdB0, { frames := 6, cells := 1, slots := 6, locals := 82 }, 1, 6, [])
section
variable {l : Launch} {D : va_G} {dA : Nat → ClassId} {b n : Nat} {ad : Nat → Nat} {L : Nat → sdL} {sc : Option (Nat × Nat × (Nat → Int32))}
def w_D_requireBegun (M : sdM) (a1 : Int32) (Q : sdM → Prop) (X : String → sdM → Prop) : Prop := vp_in a1 3 ∧ (¬ (M (83 + 11 * a1.toNatClampNeg) 0) = 0 → Q M) ∧ ((M (83 + 11 * a1.toNatClampNeg) 0) = 0 → X "java/lang/IllegalStateException" M)
set_option maxHeartbeats 1000000 in
theorem c_D_requireBegun {a1 : Int32} (hA : sd_ad b n ad) (hT : l.stackTraces = false) (hD : isD n L dA) {Q : sdM → Prop} {X : String → sdM → Prop} {M : sdM} (hw : w_D_requireBegun M a1 Q X) : sd_Cn l (sdE0 sc) y_D_requireBegun Y_D_requireBegun.2.2.2.2.1 Y_D_requireBegun.2.2.2.2.2.1 1 6 D (sd_tys dA) b n ad L M [.ref 0, .int a1] (sd_qv Q) X := by
  refine sd_enter (Y := Y_D_requireBegun) rfl rfl rfl rfl (Nat.le_of_ble_eq_true rfl) ?_
  show sdW l (sdE0 sc) Y_D_requireBegun D (sd_tys dA) b n ad L ad (sd_H D (sdE0 sc).1 n ad L) (sd_qv Q) X 0 [(0, .ref 0), (1, .int a1)] [] M 1 6
  unfold w_D_requireBegun at hw
  refine x_aload_n 0 0 d_D_requireBegun_0 rfl rfl ?_
  refine x_getr 5 41 d_D_requireBegun_1 hD.1 hD.2.1 rfl rfl (by decide) lay_D (List.mem_cons_of_mem _ q268) rfl ?_
  refine x_iload_n 1 1 d_D_requireBegun_4 rfl rfl ?_
  obtain ⟨hi2, hw⟩ := hw
  refine x_aald (83 + 11 * a1.toNatClampNeg) d_D_requireBegun_5 hD.sessions.1 hD.sessions.2 (t0 := 6) rfl hi2 rfl ?_
  refine x_geti 0 d_D_requireBegun_6 (hD.sessionsAt hi2).1 (hD.sessionsAt hi2).2.1 rfl rfl (by decide) lay_N (List.mem_cons_of_mem _ q269) rfl ?_
  refine x_if_ne 23 d_D_requireBegun_9 rfl (fun hc => ?_) (fun hc => ?_)
  · have hw := hw.1 hc
    exact x_vret d_D_requireBegun_23 rfl (fun _ h => h) ⟨rfl, hw⟩
  · have hw := hw.2 hc
    exact x_throwS (names := sdExN) (is := 308) (ic := 74) (rc := 0) (rs := 0) hT rfl fit_ISE fit_N (sd_goodB q359) (List.mem_cons_of_mem _ q290) (List.mem_cons_of_mem _ q291) (List.mem_cons_of_mem _ q292) (List.mem_of_getElem? (i := 10) rfl) oa_ISE d_D_requireBegun_12 d_D_requireBegun_15 (Or.inr ⟨d_D_requireBegun_16, rfl⟩) d_D_requireBegun_19 d_D_requireBegun_22 (by decide) (Nat.le_of_ble_eq_true rfl) rfl rfl (fun _ _ h => h) hw
end
theorem q360 : (.fieldLink "SettingsDesk" 168 "SettingsDesk$Session" "candidate" "LSettingsDesk$Settings;" : Cond) ∈ sdB0 := sd_tb1 190 rfl rfl
theorem q361 : (.code ⟨"SettingsDesk", "entry", "(IIIZ)Z"⟩ prog_1_method_8_code 7 (some .boolean) : Cond) ∈ sdB0 := sd_tb3 114 rfl rfl
theorem q362 : (.classLink "SettingsDesk" 181 "java/lang/UnsupportedOperationException" : Cond) ∈ sdB0 := sd_tb3 130 rfl rfl
theorem q363 : (.initialized "java/lang/UnsupportedOperationException" : Cond) ∈ sdB0 := sd_tb1 17 rfl rfl
theorem q364 : (.instantiable "java/lang/UnsupportedOperationException" 6 : Cond) ∈ sdB0 := sd_tb3 131 rfl rfl
theorem q365 : (.methodLink "SettingsDesk" 163 ⟨"SettingsDesk", "requireBegun", "(I)V"⟩ : Cond) ∈ sdB0 := sd_tb3 115 rfl rfl
theorem q366 : (.instanceMethod ⟨"SettingsDesk", "requireBegun", "(I)V"⟩ : Cond) ∈ sdB0 := sd_tb3 117 rfl rfl
theorem q367 : (.selects "SettingsDesk" ⟨"SettingsDesk", "requireBegun", "(I)V"⟩ ⟨"SettingsDesk", "requireBegun", "(I)V"⟩ : Cond) ∈ sdB0 := sd_tbp (q := (⟨"SettingsDesk", "requireBegun", "(I)V"⟩, 12)) (List.mem_of_getElem? (i := 9) rfl)
theorem q368 : (.methodLink "SettingsDesk" 171 ⟨"SettingsDesk$Settings", "rowOf", "(II)I"⟩ : Cond) ∈ sdB0 := sd_tb3 121 rfl rfl
theorem q369 : (.methodLink "SettingsDesk" 186 ⟨"SettingsDesk$Settings", "addEntry", "(II)I"⟩ : Cond) ∈ sdB0 := sd_tb3 146 rfl rfl
theorem q370 : (.methodLink "SettingsDesk" 175 ⟨"SettingsDesk$Settings", "removeEntry", "(II)V"⟩ : Cond) ∈ sdB0 := sd_tb3 122 rfl rfl
theorem q371 : (.code ⟨"SettingsDesk$Settings", "removeEntry", "(II)V"⟩ prog_9_method_11_code 4 none : Cond) ∈ sdB0 := sd_tb3 125 rfl rfl
theorem q372 : (.instanceMethod ⟨"SettingsDesk$Settings", "removeEntry", "(II)V"⟩ : Cond) ∈ sdB0 := sd_tb3 123 rfl rfl
theorem q373 : (.selects "SettingsDesk$Settings" ⟨"SettingsDesk$Settings", "removeEntry", "(II)V"⟩ ⟨"SettingsDesk$Settings", "removeEntry", "(II)V"⟩ : Cond) ∈ sdB0 := sd_tb3 124 rfl rfl
abbrev y_D_entry : MethodName := ⟨"SettingsDesk", "entry", "(IIIZ)Z"⟩
theorem d_D_entry_0 : decode prog_1_method_8_code 0 = .ok (.aload_n 0, 1) := by decide +kernel
theorem d_D_entry_1 : decode prog_1_method_8_code 1 = .ok (.invokevirtual 146, 3) := by decide +kernel
theorem d_D_entry_4 : decode prog_1_method_8_code 4 = .ok (.aload_n 0, 1) := by decide +kernel
theorem d_D_entry_5 : decode prog_1_method_8_code 5 = .ok (.iload_n 1, 1) := by decide +kernel
theorem d_D_entry_6 : decode prog_1_method_8_code 6 = .ok (.invokevirtual 149, 3) := by decide +kernel
theorem d_D_entry_9 : decode prog_1_method_8_code 9 = .ok (.aload_n 0, 1) := by decide +kernel
theorem d_D_entry_10 : decode prog_1_method_8_code 10 = .ok (.iload_n 2, 1) := by decide +kernel
theorem d_D_entry_11 : decode prog_1_method_8_code 11 = .ok (.invokevirtual 77, 3) := by decide +kernel
theorem d_D_entry_14 : decode prog_1_method_8_code 14 = .ok (.aload_n 0, 1) := by decide +kernel
theorem d_D_entry_15 : decode prog_1_method_8_code 15 = .ok (.iload_n 1, 1) := by decide +kernel
theorem d_D_entry_16 : decode prog_1_method_8_code 16 = .ok (.invokevirtual 163, 3) := by decide +kernel
theorem d_D_entry_19 : decode prog_1_method_8_code 19 = .ok (.iload_n 2, 1) := by decide +kernel
theorem d_D_entry_20 : decode prog_1_method_8_code 20 = .ok (.ifCond .eq (14), 3) := by decide +kernel
theorem d_D_entry_23 : decode prog_1_method_8_code 23 = .ok (.iload_n 3, 1) := by decide +kernel
theorem d_D_entry_24 : decode prog_1_method_8_code 24 = .ok (.iconst 1, 1) := by decide +kernel
theorem d_D_entry_25 : decode prog_1_method_8_code 25 = .ok (.if_icmp .lt (9), 3) := by decide +kernel
theorem d_D_entry_28 : decode prog_1_method_8_code 28 = .ok (.iload_n 3, 1) := by decide +kernel
theorem d_D_entry_29 : decode prog_1_method_8_code 29 = .ok (.bipush (100), 2) := by decide +kernel
theorem d_D_entry_31 : decode prog_1_method_8_code 31 = .ok (.if_icmp .le (13), 3) := by decide +kernel
theorem d_D_entry_34 : decode prog_1_method_8_code 34 = .ok (.new 91, 3) := by decide +kernel
theorem d_D_entry_37 : decode prog_1_method_8_code 37 = .ok (.dup, 1) := by decide +kernel
theorem d_D_entry_38 : decode prog_1_method_8_code 38 = .ok (.ldc 166, 2) := by decide +kernel
theorem d_D_entry_40 : decode prog_1_method_8_code 40 = .ok (.invokespecial 95, 3) := by decide +kernel
theorem d_D_entry_43 : decode prog_1_method_8_code 43 = .ok (.athrow, 1) := by decide +kernel
theorem d_D_entry_44 : decode prog_1_method_8_code 44 = .ok (.aload_n 0, 1) := by decide +kernel
theorem d_D_entry_45 : decode prog_1_method_8_code 45 = .ok (.getfield 35, 3) := by decide +kernel
theorem d_D_entry_48 : decode prog_1_method_8_code 48 = .ok (.iload_n 1, 1) := by decide +kernel
theorem d_D_entry_49 : decode prog_1_method_8_code 49 = .ok (.aaload, 1) := by decide +kernel
theorem d_D_entry_50 : decode prog_1_method_8_code 50 = .ok (.getfield 168, 3) := by decide +kernel
theorem d_D_entry_53 : decode prog_1_method_8_code 53 = .ok (.astore 5, 2) := by decide +kernel
theorem d_D_entry_55 : decode prog_1_method_8_code 55 = .ok (.aload 5, 2) := by decide +kernel
theorem d_D_entry_57 : decode prog_1_method_8_code 57 = .ok (.iload_n 2, 1) := by decide +kernel
theorem d_D_entry_58 : decode prog_1_method_8_code 58 = .ok (.iload_n 3, 1) := by decide +kernel
theorem d_D_entry_59 : decode prog_1_method_8_code 59 = .ok (.invokevirtual 171, 3) := by decide +kernel
theorem d_D_entry_62 : decode prog_1_method_8_code 62 = .ok (.istore 6, 2) := by decide +kernel
theorem d_D_entry_64 : decode prog_1_method_8_code 64 = .ok (.iload 4, 2) := by decide +kernel
theorem d_D_entry_66 : decode prog_1_method_8_code 66 = .ok (.iload 6, 2) := by decide +kernel
theorem d_D_entry_68 : decode prog_1_method_8_code 68 = .ok (.iconst (-1), 1) := by decide +kernel
theorem d_D_entry_69 : decode prog_1_method_8_code 69 = .ok (.if_icmp .eq (7), 3) := by decide +kernel
theorem d_D_entry_72 : decode prog_1_method_8_code 72 = .ok (.iconst 1, 1) := by decide +kernel
theorem d_D_entry_73 : decode prog_1_method_8_code 73 = .ok (.goto (4), 3) := by decide +kernel
theorem d_D_entry_76 : decode prog_1_method_8_code 76 = .ok (.iconst 0, 1) := by decide +kernel
theorem d_D_entry_77 : decode prog_1_method_8_code 77 = .ok (.if_icmp .ne (5), 3) := by decide +kernel
theorem d_D_entry_80 : decode prog_1_method_8_code 80 = .ok (.iconst 0, 1) := by decide +kernel
theorem d_D_entry_81 : decode prog_1_method_8_code 81 = .ok (.ireturn, 1) := by decide +kernel
theorem d_D_entry_82 : decode prog_1_method_8_code 82 = .ok (.iload 4, 2) := by decide +kernel
theorem d_D_entry_84 : decode prog_1_method_8_code 84 = .ok (.ifCond .ne (13), 3) := by decide +kernel
theorem d_D_entry_87 : decode prog_1_method_8_code 87 = .ok (.aload 5, 2) := by decide +kernel
theorem d_D_entry_89 : decode prog_1_method_8_code 89 = .ok (.iload_n 2, 1) := by decide +kernel
theorem d_D_entry_90 : decode prog_1_method_8_code 90 = .ok (.iload 6, 2) := by decide +kernel
theorem d_D_entry_92 : decode prog_1_method_8_code 92 = .ok (.invokevirtual 175, 3) := by decide +kernel
theorem d_D_entry_95 : decode prog_1_method_8_code 95 = .ok (.iconst 1, 1) := by decide +kernel
theorem d_D_entry_96 : decode prog_1_method_8_code 96 = .ok (.ireturn, 1) := by decide +kernel
theorem d_D_entry_97 : decode prog_1_method_8_code 97 = .ok (.aload 5, 2) := by decide +kernel
theorem d_D_entry_99 : decode prog_1_method_8_code 99 = .ok (.getfield 178, 3) := by decide +kernel
theorem d_D_entry_102 : decode prog_1_method_8_code 102 = .ok (.iload_n 2, 1) := by decide +kernel
theorem d_D_entry_103 : decode prog_1_method_8_code 103 = .ok (.iaload, 1) := by decide +kernel
theorem d_D_entry_104 : decode prog_1_method_8_code 104 = .ok (.bipush (6), 2) := by decide +kernel
theorem d_D_entry_106 : decode prog_1_method_8_code 106 = .ok (.if_icmp .lt (13), 3) := by decide +kernel
theorem d_D_entry_109 : decode prog_1_method_8_code 109 = .ok (.new 181, 3) := by decide +kernel
theorem d_D_entry_112 : decode prog_1_method_8_code 112 = .ok (.dup, 1) := by decide +kernel
theorem d_D_entry_113 : decode prog_1_method_8_code 113 = .ok (.ldc 183, 2) := by decide +kernel
theorem d_D_entry_115 : decode prog_1_method_8_code 115 = .ok (.invokespecial 185, 3) := by decide +kernel
theorem d_D_entry_118 : decode prog_1_method_8_code 118 = .ok (.athrow, 1) := by decide +kernel
theorem d_D_entry_119 : decode prog_1_method_8_code 119 = .ok (.aload 5, 2) := by decide +kernel
theorem d_D_entry_121 : decode prog_1_method_8_code 121 = .ok (.iload_n 2, 1) := by decide +kernel
theorem d_D_entry_122 : decode prog_1_method_8_code 122 = .ok (.iload_n 3, 1) := by decide +kernel
theorem d_D_entry_123 : decode prog_1_method_8_code 123 = .ok (.invokevirtual 186, 3) := by decide +kernel
theorem d_D_entry_126 : decode prog_1_method_8_code 126 = .ok (.pop, 1) := by decide +kernel
theorem d_D_entry_127 : decode prog_1_method_8_code 127 = .ok (.iconst 1, 1) := by decide +kernel
theorem d_D_entry_128 : decode prog_1_method_8_code 128 = .ok (.ireturn, 1) := by decide +kernel
def Y_D_entry : sdY := ("SettingsDesk", prog_1_method_8_code, 7, (some .boolean), .code y_D_entry prog_1_method_8_code 7 (some .boolean) :: sdB0, { frames := 7, cells := 5, slots := 30, locals := 103 }, 5, 30, [])
theorem cw_D_entry_D_requireReady_146 : sd_cwV Y_D_entry Y_D_requireReady y_D_requireReady 146 0 "SettingsDesk" := ⟨sd_goodV q344 q345 q346 q274 q342, ⟨_, rfl⟩, ⟨rfl, rfl, rfl, rfl⟩, ⟨rfl, by decide, by decide, by decide +kernel⟩, ⟨by decide, by decide⟩⟩
theorem cw_D_entry_D_requireSession_149 : sd_cwV Y_D_entry Y_D_requireSession y_D_requireSession 149 1 "SettingsDesk" := ⟨sd_goodV q347 q348 q349 q274 q343, ⟨_, rfl⟩, ⟨rfl, rfl, rfl, rfl⟩, ⟨rfl, by decide, by decide, by decide +kernel⟩, ⟨by decide, by decide⟩⟩
theorem cw_D_entry_D_requireList_77 : sd_cwV Y_D_entry Y_D_requireList y_D_requireList 77 1 "SettingsDesk" := ⟨sd_goodV q307 q308 q309 q274 q297, ⟨_, rfl⟩, ⟨rfl, rfl, rfl, rfl⟩, ⟨rfl, by decide, by decide, by decide +kernel⟩, ⟨by decide, by decide⟩⟩
theorem cw_D_entry_D_requireBegun_163 : sd_cwV Y_D_entry Y_D_requireBegun y_D_requireBegun 163 1 "SettingsDesk" := ⟨sd_goodV q365 q366 q367 q274 q359, ⟨_, rfl⟩, ⟨rfl, rfl, rfl, rfl⟩, ⟨rfl, by decide, by decide, by decide +kernel⟩, ⟨by decide, by decide⟩⟩
theorem cw_D_entry_S_rowOf_171 : sd_cwV Y_D_entry Y_S_rowOf y_S_rowOf 171 2 "SettingsDesk$Settings" := ⟨sd_goodV q368 q126 q127 q7 q125, ⟨_, rfl⟩, ⟨rfl, rfl, rfl, rfl⟩, ⟨rfl, by decide, by decide, by decide +kernel⟩, ⟨by decide, by decide⟩⟩
theorem cw_D_entry_S_addEntry_186 : sd_cwV Y_D_entry Y_S_addEntry y_S_addEntry 186 2 "SettingsDesk$Settings" := ⟨sd_goodV q369 q108 q109 q7 q107, ⟨_, rfl⟩, ⟨rfl, rfl, rfl, rfl⟩, ⟨rfl, by decide, by decide, by decide +kernel⟩, ⟨by decide, by decide⟩⟩
theorem cw_D_entry_S_removeEntry_175 : sd_cwV Y_D_entry Y_S_removeEntry y_S_removeEntry 175 2 "SettingsDesk$Settings" := ⟨sd_goodV q370 q372 q373 q7 q371, ⟨_, rfl⟩, ⟨rfl, rfl, rfl, rfl⟩, ⟨rfl, by decide, by decide, by decide +kernel⟩, ⟨by decide, by decide⟩⟩
section
variable {l : Launch} {D : va_G} {dA : Nat → ClassId} {b n : Nat} {ad : Nat → Nat} {L : Nat → sdL} {sc : Option (Nat × Nat × (Nat → Int32))}
def k_D_entry_77 (Q : Int32 → sdM → Prop) (X : String → sdM → Prop) (M : sdM) (x2 : Int32) (x3 : Int32) (x4 : Int32) (o5 : Nat) (x6 : Int32) (s0 : Int32) (s1 : Int32) : Prop := (¬ s0 = s1 → (¬ x4 = 0 → vp_in x2 4 ∧ ((M (o5 + 1) x2.toNatClampNeg) < (6 : Int32) → w_S_addEntry o5 M x2 x3 (fun r14 M13 => sdB (1 : Int32) ∧ Q (1 : Int32) M13)) ∧ (¬ (M (o5 + 1) x2.toNatClampNeg) < (6 : Int32) → X "java/lang/UnsupportedOperationException" M)) ∧ (x4 = 0 → w_S_removeEntry o5 M x2 x6 (fun M15 => sdB (1 : Int32) ∧ Q (1 : Int32) M15))) ∧ (s0 = s1 → sdB (0 : Int32) ∧ Q (0 : Int32) M)
set_option maxHeartbeats 1000000 in
theorem t_D_entry_77 (hA : sd_ad b n ad) (hT : l.stackTraces = false) (hD : isD n L dA) {Q : Int32 → sdM → Prop} {X : String → sdM → Prop} (M : sdM) (x2 : Int32) (x3 : Int32) (x4 : Int32) (o5 : Nat) (x6 : Int32) (s0 : Int32) (s1 : Int32) (ho5 : isS n L dA o5) (hw : k_D_entry_77 Q X M x2 x3 x4 o5 x6 s0 s1) : sdW l (sdE0 sc) Y_D_entry D (sd_tys dA) b n ad L ad (sd_H D (sdE0 sc).1 n ad L) (sd_qi Q) X 77 [(2, .int x2), (3, .int x3), (4, .int x4), (5, .ref o5), (6, .int x6)] [.int s1, .int s0] M 1 6 := by
  unfold k_D_entry_77 at hw
  refine x_icmp_ne 82 d_D_entry_77 rfl (fun hc => ?_) (fun hc => ?_)
  · have hw := hw.1 hc
    refine x_iload 4 2 d_D_entry_82 rfl ?_
    refine x_if_ne 97 d_D_entry_84 rfl (fun hc => ?_) (fun hc => ?_)
    · have hw := hw.1 hc
      refine x_aload 5 3 d_D_entry_97 rfl ?_
      refine x_getr 0 (o5 + 1) d_D_entry_99 ho5.1 ho5.2.1 rfl rfl (by decide) lay_S (List.mem_cons_of_mem _ q283) rfl ?_
      refine x_iload_n 2 0 d_D_entry_102 rfl rfl ?_
      obtain ⟨hi12, hw⟩ := hw
      refine x_iald d_D_entry_103 ho5.counts.1 ho5.counts.2 rfl hi12 ?_
      refine x_bipush (v := 6) d_D_entry_104 (by decide) ?_
      refine x_icmp_lt 119 d_D_entry_106 rfl (fun hc => ?_) (fun hc => ?_)
      · have hw := hw.1 hc
        refine x_aload 5 3 d_D_entry_119 rfl ?_
        refine x_iload_n 2 0 d_D_entry_121 rfl rfl ?_
        refine x_iload_n 3 1 d_D_entry_122 rfl rfl ?_
        refine x_callVi (As := [.int x2, .int x3]) (t := o5) (rest := []) (rc := 1) (rs := 6) (c_S_addEntry hA hT ho5 hw) cw_D_entry_S_addEntry_186 ho5.1 ho5.2.1 rfl d_D_entry_123 rfl rfl (Nat.le_of_ble_eq_true rfl) rfl (fun _ _ h => h.elim) (fun _ _ h => h) (fun r14 M13 hw => ?_)
        refine x_pop d_D_entry_126 rfl ?_
        refine x_iconst (v := 1) d_D_entry_127 (by decide) ?_
        exact x_zret d_D_entry_128 rfl (sdB_n hw.1) (fun _ h => h) ⟨_, rfl, hw.2⟩
      · have hw := hw.2 hc
        exact x_throwS (names := sdExN) (is := 183) (ic := 185) (rc := 0) (rs := 0) hT rfl fit_UOE fit_N (sd_goodB q361) (List.mem_cons_of_mem _ q362) (List.mem_cons_of_mem _ q363) (List.mem_cons_of_mem _ q364) (List.mem_of_getElem? (i := 12) rfl) oa_UOE d_D_entry_109 d_D_entry_112 (Or.inl ⟨d_D_entry_113, rfl⟩) d_D_entry_115 d_D_entry_118 (by decide) (Nat.le_of_ble_eq_true rfl) rfl rfl (fun _ _ h => h) hw
    · have hw := hw.2 hc
      refine x_aload 5 3 d_D_entry_87 rfl ?_
      refine x_iload_n 2 0 d_D_entry_89 rfl rfl ?_
      refine x_iload 6 4 d_D_entry_90 rfl ?_
      refine x_callVv (As := [.int x2, .int x6]) (t := o5) (rest := []) (rc := 1) (rs := 6) (c_S_removeEntry hA hT ho5 hw) cw_D_entry_S_removeEntry_175 ho5.1 ho5.2.1 rfl d_D_entry_92 rfl rfl (Nat.le_of_ble_eq_true rfl) rfl (fun _ _ h => h.elim) (fun _ _ h => h) (fun M15 hw => ?_)
      refine x_iconst (v := 1) d_D_entry_95 (by decide) ?_
      exact x_zret d_D_entry_96 rfl (sdB_n hw.1) (fun _ h => h) ⟨_, rfl, hw.2⟩
  · have hw := hw.2 hc
    refine x_iconst (v := 0) d_D_entry_80 (by decide) ?_
    exact x_zret d_D_entry_81 rfl (sdB_n hw.1) (fun _ h => h) ⟨_, rfl, hw.2⟩
def k_D_entry_34 (Q : Int32 → sdM → Prop) (X : String → sdM → Prop) (M : sdM) : Prop := X "java/lang/IllegalArgumentException" M
set_option maxHeartbeats 1000000 in
theorem t_D_entry_34 (hA : sd_ad b n ad) (hT : l.stackTraces = false) (hD : isD n L dA) {Q : Int32 → sdM → Prop} {X : String → sdM → Prop} (M : sdM) (hw : k_D_entry_34 Q X M ) : sdW l (sdE0 sc) Y_D_entry D (sd_tys dA) b n ad L ad (sd_H D (sdE0 sc).1 n ad L) (sd_qi Q) X 34 [] [] M 1 6 := by
  unfold k_D_entry_34 at hw
  exact x_throwS (names := sdExN) (is := 166) (ic := 95) (rc := 0) (rs := 0) hT rfl fit_IAE fit_N (sd_goodB q361) (List.mem_cons_of_mem _ q304) (List.mem_cons_of_mem _ q305) (List.mem_cons_of_mem _ q306) (List.mem_of_getElem? (i := 11) rfl) oa_IAE d_D_entry_34 d_D_entry_37 (Or.inl ⟨d_D_entry_38, rfl⟩) d_D_entry_40 d_D_entry_43 (by decide) (Nat.le_of_ble_eq_true rfl) rfl rfl (fun _ _ h => h) hw
def w_D_entry (M : sdM) (a1 : Int32) (a2 : Int32) (a3 : Int32) (a4 : Int32) (Q : Int32 → sdM → Prop) (X : String → sdM → Prop) : Prop := w_D_requireReady M (fun M16 => w_D_requireSession M16 a1 (fun M17 => w_D_requireList M17 a2 (fun M18 => w_D_requireBegun M18 a1 (fun M19 => (a2 = 0 → k_D_entry_34 Q X M19) ∧ (¬ a2 = 0 → (a3 < (1 : Int32) → k_D_entry_34 Q X M19) ∧ (¬ a3 < (1 : Int32) → (a3 ≤ (100 : Int32) → vp_in a1 3 ∧ w_S_rowOf ((83 + 11 * a1.toNatClampNeg) + 1) M19 a2 a3 (fun r22 M21 => (r22 = (-1 : Int32) → k_D_entry_77 Q X M21 a2 a3 a4 ((83 + 11 * a1.toNatClampNeg) + 1) r22 a4 (0 : Int32)) ∧ (¬ r22 = (-1 : Int32) → k_D_entry_77 Q X M21 a2 a3 a4 ((83 + 11 * a1.toNatClampNeg) + 1) r22 a4 (1 : Int32)))) ∧ (¬ a3 ≤ (100 : Int32) → k_D_entry_34 Q X M19)))) X) X) X) X
set_option maxHeartbeats 1000000 in
theorem c_D_entry {a1 : Int32} {a2 : Int32} {a3 : Int32} {a4 : Int32} (hA : sd_ad b n ad) (hT : l.stackTraces = false) (hD : isD n L dA) {Q : Int32 → sdM → Prop} {X : String → sdM → Prop} {M : sdM} (hw : w_D_entry M a1 a2 a3 a4 Q X) : sd_Cn l (sdE0 sc) y_D_entry Y_D_entry.2.2.2.2.1 Y_D_entry.2.2.2.2.2.1 5 30 D (sd_tys dA) b n ad L M [.ref 0, .int a1, .int a2, .int a3, .int a4] (sd_qi Q) X := by
  refine sd_enter (Y := Y_D_entry) rfl rfl rfl rfl (Nat.le_of_ble_eq_true rfl) ?_
  show sdW l (sdE0 sc) Y_D_entry D (sd_tys dA) b n ad L ad (sd_H D (sdE0 sc).1 n ad L) (sd_qi Q) X 0 [(0, .ref 0), (1, .int a1), (2, .int a2), (3, .int a3), (4, .int a4)] [] M 5 30
  unfold w_D_entry at hw
  refine x_aload_n 0 0 d_D_entry_0 rfl rfl ?_
  refine x_callVv (As := []) (t := 0) (rest := []) (rc := 4) (rs := 24) (c_D_requireReady hA hT hD hw) cw_D_entry_D_requireReady_146 hD.1 hD.2.1 rfl d_D_entry_1 rfl rfl (Nat.le_of_ble_eq_true rfl) rfl (fun _ _ h => h) (fun _ _ h => h) (fun M16 hw => ?_)
  refine x_aload_n 0 0 d_D_entry_4 rfl rfl ?_
  refine x_iload_n 1 1 d_D_entry_5 rfl rfl ?_
  refine x_callVv (As := [.int a1]) (t := 0) (rest := []) (rc := 3) (rs := 18) (c_D_requireSession hA hT hD hw) cw_D_entry_D_requireSession_149 hD.1 hD.2.1 rfl d_D_entry_6 rfl rfl (Nat.le_of_ble_eq_true rfl) rfl (fun _ _ h => h) (fun _ _ h => h) (fun M17 hw => ?_)
  refine x_aload_n 0 0 d_D_entry_9 rfl rfl ?_
  refine x_iload_n 2 2 d_D_entry_10 rfl rfl ?_
  refine x_callVv (As := [.int a2]) (t := 0) (rest := []) (rc := 2) (rs := 12) (c_D_requireList hA hT hD hw) cw_D_entry_D_requireList_77 hD.1 hD.2.1 rfl d_D_entry_11 rfl rfl (Nat.le_of_ble_eq_true rfl) rfl (fun _ _ h => h) (fun _ _ h => h) (fun M18 hw => ?_)
  refine x_aload_n 0 0 d_D_entry_14 rfl rfl ?_
  refine x_iload_n 1 1 d_D_entry_15 rfl rfl ?_
  refine x_callVv (As := [.int a1]) (t := 0) (rest := []) (rc := 1) (rs := 6) (c_D_requireBegun hA hT hD hw) cw_D_entry_D_requireBegun_163 hD.1 hD.2.1 rfl d_D_entry_16 rfl rfl (Nat.le_of_ble_eq_true rfl) rfl (fun _ _ h => h) (fun _ _ h => h) (fun M19 hw => ?_)
  refine x_iload_n 2 2 d_D_entry_19 rfl rfl ?_
  refine x_if_eq 34 d_D_entry_20 rfl (fun hc => ?_) (fun hc => ?_)
  · have hw := hw.1 hc
    refine x_sub [] [] rfl ?_
    exact t_D_entry_34 hA hT hD M19 hw
  · have hw := hw.2 hc
    refine x_iload_n 3 3 d_D_entry_23 rfl rfl ?_
    refine x_iconst (v := 1) d_D_entry_24 (by decide) ?_
    refine x_icmp_lt 34 d_D_entry_25 rfl (fun hc => ?_) (fun hc => ?_)
    · have hw := hw.1 hc
      refine x_sub [] [] rfl ?_
      exact t_D_entry_34 hA hT hD M19 hw
    · have hw := hw.2 hc
      refine x_iload_n 3 3 d_D_entry_28 rfl rfl ?_
      refine x_bipush (v := 100) d_D_entry_29 (by decide) ?_
      refine x_icmp_le 44 d_D_entry_31 rfl (fun hc => ?_) (fun hc => ?_)
      · have hw := hw.1 hc
        refine x_aload_n 0 0 d_D_entry_44 rfl rfl ?_
        refine x_getr 5 41 d_D_entry_45 hD.1 hD.2.1 rfl rfl (by decide) lay_D (List.mem_cons_of_mem _ q268) rfl ?_
        refine x_iload_n 1 1 d_D_entry_48 rfl rfl ?_
        obtain ⟨hi20, hw⟩ := hw
        refine x_aald (83 + 11 * a1.toNatClampNeg) d_D_entry_49 hD.sessions.1 hD.sessions.2 (t0 := 6) rfl hi20 rfl ?_
        refine x_getr 1 ((83 + 11 * a1.toNatClampNeg) + 1) d_D_entry_50 (hD.sessionsAt hi20).1 (hD.sessionsAt hi20).2.1 rfl rfl (by decide) lay_N (List.mem_cons_of_mem _ q360) rfl ?_
        refine x_astore 5 [(5, .ref ((83 + 11 * a1.toNatClampNeg) + 1)), (0, .ref 0), (1, .int a1), (2, .int a2), (3, .int a3), (4, .int a4)] d_D_entry_53 (by decide) rfl ?_
        refine x_aload 5 0 d_D_entry_55 rfl ?_
        refine x_iload_n 2 3 d_D_entry_57 rfl rfl ?_
        refine x_iload_n 3 4 d_D_entry_58 rfl rfl ?_
        refine x_callVi (As := [.int a2, .int a3]) (t := ((83 + 11 * a1.toNatClampNeg) + 1)) (rest := []) (rc := 1) (rs := 6) (c_S_rowOf hA hT (hD.sessionsAt hi20).candidate hw) cw_D_entry_S_rowOf_171 ((hD.sessionsAt hi20).candidate).1 ((hD.sessionsAt hi20).candidate).2.1 rfl d_D_entry_59 rfl rfl (Nat.le_of_ble_eq_true rfl) rfl (fun _ _ h => h.elim) (fun _ _ h => h) (fun r22 M21 hw => ?_)
        refine x_istore 6 [(6, .int r22), (5, .ref ((83 + 11 * a1.toNatClampNeg) + 1)), (0, .ref 0), (1, .int a1), (2, .int a2), (3, .int a3), (4, .int a4)] d_D_entry_62 (by decide) rfl ?_
        refine x_iload 4 6 d_D_entry_64 rfl ?_
        refine x_iload 6 0 d_D_entry_66 rfl ?_
        refine x_iconst (v := (-1)) d_D_entry_68 (by decide) ?_
        refine x_icmp_eq 76 d_D_entry_69 rfl (fun hc => ?_) (fun hc => ?_)
        · have hw := hw.1 hc
          refine x_iconst (v := 0) d_D_entry_76 (by decide) ?_
          refine x_sub [4, 5, 6, 1, 0] [(2, .int a2), (3, .int a3), (4, .int a4), (5, .ref ((83 + 11 * a1.toNatClampNeg) + 1)), (6, .int r22)] rfl ?_
          exact t_D_entry_77 hA hT hD M21 a2 a3 a4 ((83 + 11 * a1.toNatClampNeg) + 1) r22 a4 (0 : Int32) (hD.sessionsAt hi20).candidate hw
        · have hw := hw.2 hc
          refine x_iconst (v := 1) d_D_entry_72 (by decide) ?_
          refine x_goto 77 d_D_entry_73 rfl ?_
          refine x_sub [4, 5, 6, 1, 0] [(2, .int a2), (3, .int a3), (4, .int a4), (5, .ref ((83 + 11 * a1.toNatClampNeg) + 1)), (6, .int r22)] rfl ?_
          exact t_D_entry_77 hA hT hD M21 a2 a3 a4 ((83 + 11 * a1.toNatClampNeg) + 1) r22 a4 (1 : Int32) (hD.sessionsAt hi20).candidate hw
      · have hw := hw.2 hc
        refine x_sub [] [] rfl ?_
        exact t_D_entry_34 hA hT hD M19 hw
end
theorem q374 : (.code ⟨"SettingsDesk", "requireCandidateRow", "(IIII)I"⟩ prog_1_method_28_code 6 (some .int) : Cond) ∈ sdB0 := sd_tb3 164 rfl rfl
abbrev y_D_requireCandidateRow : MethodName := ⟨"SettingsDesk", "requireCandidateRow", "(IIII)I"⟩
theorem d_D_requireCandidateRow_0 : decode prog_1_method_28_code 0 = .ok (.aload_n 0, 1) := by decide +kernel
theorem d_D_requireCandidateRow_1 : decode prog_1_method_28_code 1 = .ok (.invokevirtual 146, 3) := by decide +kernel
theorem d_D_requireCandidateRow_4 : decode prog_1_method_28_code 4 = .ok (.aload_n 0, 1) := by decide +kernel
theorem d_D_requireCandidateRow_5 : decode prog_1_method_28_code 5 = .ok (.iload_n 1, 1) := by decide +kernel
theorem d_D_requireCandidateRow_6 : decode prog_1_method_28_code 6 = .ok (.invokevirtual 149, 3) := by decide +kernel
theorem d_D_requireCandidateRow_9 : decode prog_1_method_28_code 9 = .ok (.aload_n 0, 1) := by decide +kernel
theorem d_D_requireCandidateRow_10 : decode prog_1_method_28_code 10 = .ok (.iload_n 2, 1) := by decide +kernel
theorem d_D_requireCandidateRow_11 : decode prog_1_method_28_code 11 = .ok (.iload 4, 2) := by decide +kernel
theorem d_D_requireCandidateRow_13 : decode prog_1_method_28_code 13 = .ok (.invokevirtual 100, 3) := by decide +kernel
theorem d_D_requireCandidateRow_16 : decode prog_1_method_28_code 16 = .ok (.aload_n 0, 1) := by decide +kernel
theorem d_D_requireCandidateRow_17 : decode prog_1_method_28_code 17 = .ok (.iload_n 1, 1) := by decide +kernel
theorem d_D_requireCandidateRow_18 : decode prog_1_method_28_code 18 = .ok (.invokevirtual 163, 3) := by decide +kernel
theorem d_D_requireCandidateRow_21 : decode prog_1_method_28_code 21 = .ok (.aload_n 0, 1) := by decide +kernel
theorem d_D_requireCandidateRow_22 : decode prog_1_method_28_code 22 = .ok (.getfield 35, 3) := by decide +kernel
theorem d_D_requireCandidateRow_25 : decode prog_1_method_28_code 25 = .ok (.iload_n 1, 1) := by decide +kernel
theorem d_D_requireCandidateRow_26 : decode prog_1_method_28_code 26 = .ok (.aaload, 1) := by decide +kernel
theorem d_D_requireCandidateRow_27 : decode prog_1_method_28_code 27 = .ok (.getfield 168, 3) := by decide +kernel
theorem d_D_requireCandidateRow_30 : decode prog_1_method_28_code 30 = .ok (.iload_n 2, 1) := by decide +kernel
theorem d_D_requireCandidateRow_31 : decode prog_1_method_28_code 31 = .ok (.iload_n 3, 1) := by decide +kernel
theorem d_D_requireCandidateRow_32 : decode prog_1_method_28_code 32 = .ok (.invokevirtual 171, 3) := by decide +kernel
theorem d_D_requireCandidateRow_35 : decode prog_1_method_28_code 35 = .ok (.istore 5, 2) := by decide +kernel
theorem d_D_requireCandidateRow_37 : decode prog_1_method_28_code 37 = .ok (.iload 5, 2) := by decide +kernel
theorem d_D_requireCandidateRow_39 : decode prog_1_method_28_code 39 = .ok (.iconst (-1), 1) := by decide +kernel
theorem d_D_requireCandidateRow_40 : decode prog_1_method_28_code 40 = .ok (.if_icmp .ne (14), 3) := by decide +kernel
theorem d_D_requireCandidateRow_43 : decode prog_1_method_28_code 43 = .ok (.new 70, 3) := by decide +kernel
theorem d_D_requireCandidateRow_46 : decode prog_1_method_28_code 46 = .ok (.dup, 1) := by decide +kernel
theorem d_D_requireCandidateRow_47 : decode prog_1_method_28_code 47 = .ok (.ldc_w 310, 3) := by decide +kernel
theorem d_D_requireCandidateRow_50 : decode prog_1_method_28_code 50 = .ok (.invokespecial 74, 3) := by decide +kernel
theorem d_D_requireCandidateRow_53 : decode prog_1_method_28_code 53 = .ok (.athrow, 1) := by decide +kernel
theorem d_D_requireCandidateRow_54 : decode prog_1_method_28_code 54 = .ok (.iload 5, 2) := by decide +kernel
theorem d_D_requireCandidateRow_56 : decode prog_1_method_28_code 56 = .ok (.ireturn, 1) := by decide +kernel
def Y_D_requireCandidateRow : sdY := ("SettingsDesk", prog_1_method_28_code, 6, (some .int), .code y_D_requireCandidateRow prog_1_method_28_code 6 (some .int) :: sdB0, { frames := 7, cells := 5, slots := 30, locals := 104 }, 5, 30, [])
theorem cw_D_requireCandidateRow_D_requireReady_146 : sd_cwV Y_D_requireCandidateRow Y_D_requireReady y_D_requireReady 146 0 "SettingsDesk" := ⟨sd_goodV q344 q345 q346 q274 q342, ⟨_, rfl⟩, ⟨rfl, rfl, rfl, rfl⟩, ⟨rfl, by decide, by decide, by decide +kernel⟩, ⟨by decide, by decide⟩⟩
theorem cw_D_requireCandidateRow_D_requireSession_149 : sd_cwV Y_D_requireCandidateRow Y_D_requireSession y_D_requireSession 149 1 "SettingsDesk" := ⟨sd_goodV q347 q348 q349 q274 q343, ⟨_, rfl⟩, ⟨rfl, rfl, rfl, rfl⟩, ⟨rfl, by decide, by decide, by decide +kernel⟩, ⟨by decide, by decide⟩⟩
theorem cw_D_requireCandidateRow_D_requireLeaf_100 : sd_cwV Y_D_requireCandidateRow Y_D_requireLeaf y_D_requireLeaf 100 2 "SettingsDesk" := ⟨sd_goodV q327 q328 q329 q274 q318, ⟨_, rfl⟩, ⟨rfl, rfl, rfl, rfl⟩, ⟨rfl, by decide, by decide, by decide +kernel⟩, ⟨by decide, by decide⟩⟩
theorem cw_D_requireCandidateRow_D_requireBegun_163 : sd_cwV Y_D_requireCandidateRow Y_D_requireBegun y_D_requireBegun 163 1 "SettingsDesk" := ⟨sd_goodV q365 q366 q367 q274 q359, ⟨_, rfl⟩, ⟨rfl, rfl, rfl, rfl⟩, ⟨rfl, by decide, by decide, by decide +kernel⟩, ⟨by decide, by decide⟩⟩
theorem cw_D_requireCandidateRow_S_rowOf_171 : sd_cwV Y_D_requireCandidateRow Y_S_rowOf y_S_rowOf 171 2 "SettingsDesk$Settings" := ⟨sd_goodV q368 q126 q127 q7 q125, ⟨_, rfl⟩, ⟨rfl, rfl, rfl, rfl⟩, ⟨rfl, by decide, by decide, by decide +kernel⟩, ⟨by decide, by decide⟩⟩
section
variable {l : Launch} {D : va_G} {dA : Nat → ClassId} {b n : Nat} {ad : Nat → Nat} {L : Nat → sdL} {sc : Option (Nat × Nat × (Nat → Int32))}
def w_D_requireCandidateRow (M : sdM) (a1 : Int32) (a2 : Int32) (a3 : Int32) (a4 : Int32) (Q : Int32 → sdM → Prop) (X : String → sdM → Prop) : Prop := w_D_requireReady M (fun M8 => w_D_requireSession M8 a1 (fun M9 => w_D_requireLeaf M9 a2 a4 (fun M10 => w_D_requireBegun M10 a1 (fun M11 => vp_in a1 3 ∧ w_S_rowOf ((83 + 11 * a1.toNatClampNeg) + 1) M11 a2 a3 (fun r14 M13 => (¬ r14 = (-1 : Int32) → Q r14 M13) ∧ (r14 = (-1 : Int32) → X "java/lang/IllegalStateException" M13))) X) X) X) X
set_option maxHeartbeats 1000000 in
theorem c_D_requireCandidateRow {a1 : Int32} {a2 : Int32} {a3 : Int32} {a4 : Int32} (hA : sd_ad b n ad) (hT : l.stackTraces = false) (hD : isD n L dA) {Q : Int32 → sdM → Prop} {X : String → sdM → Prop} {M : sdM} (hw : w_D_requireCandidateRow M a1 a2 a3 a4 Q X) : sd_Cn l (sdE0 sc) y_D_requireCandidateRow Y_D_requireCandidateRow.2.2.2.2.1 Y_D_requireCandidateRow.2.2.2.2.2.1 5 30 D (sd_tys dA) b n ad L M [.ref 0, .int a1, .int a2, .int a3, .int a4] (sd_qi Q) X := by
  refine sd_enter (Y := Y_D_requireCandidateRow) rfl rfl rfl rfl (Nat.le_of_ble_eq_true rfl) ?_
  show sdW l (sdE0 sc) Y_D_requireCandidateRow D (sd_tys dA) b n ad L ad (sd_H D (sdE0 sc).1 n ad L) (sd_qi Q) X 0 [(0, .ref 0), (1, .int a1), (2, .int a2), (3, .int a3), (4, .int a4)] [] M 5 30
  unfold w_D_requireCandidateRow at hw
  refine x_aload_n 0 0 d_D_requireCandidateRow_0 rfl rfl ?_
  refine x_callVv (As := []) (t := 0) (rest := []) (rc := 4) (rs := 24) (c_D_requireReady hA hT hD hw) cw_D_requireCandidateRow_D_requireReady_146 hD.1 hD.2.1 rfl d_D_requireCandidateRow_1 rfl rfl (Nat.le_of_ble_eq_true rfl) rfl (fun _ _ h => h) (fun _ _ h => h) (fun M8 hw => ?_)
  refine x_aload_n 0 0 d_D_requireCandidateRow_4 rfl rfl ?_
  refine x_iload_n 1 1 d_D_requireCandidateRow_5 rfl rfl ?_
  refine x_callVv (As := [.int a1]) (t := 0) (rest := []) (rc := 3) (rs := 18) (c_D_requireSession hA hT hD hw) cw_D_requireCandidateRow_D_requireSession_149 hD.1 hD.2.1 rfl d_D_requireCandidateRow_6 rfl rfl (Nat.le_of_ble_eq_true rfl) rfl (fun _ _ h => h) (fun _ _ h => h) (fun M9 hw => ?_)
  refine x_aload_n 0 0 d_D_requireCandidateRow_9 rfl rfl ?_
  refine x_iload_n 2 2 d_D_requireCandidateRow_10 rfl rfl ?_
  refine x_iload 4 4 d_D_requireCandidateRow_11 rfl ?_
  refine x_callVv (As := [.int a2, .int a4]) (t := 0) (rest := []) (rc := 2) (rs := 12) (c_D_requireLeaf hA hT hD hw) cw_D_requireCandidateRow_D_requireLeaf_100 hD.1 hD.2.1 rfl d_D_requireCandidateRow_13 rfl rfl (Nat.le_of_ble_eq_true rfl) rfl (fun _ _ h => h) (fun _ _ h => h) (fun M10 hw => ?_)
  refine x_aload_n 0 0 d_D_requireCandidateRow_16 rfl rfl ?_
  refine x_iload_n 1 1 d_D_requireCandidateRow_17 rfl rfl ?_
  refine x_callVv (As := [.int a1]) (t := 0) (rest := []) (rc := 1) (rs := 6) (c_D_requireBegun hA hT hD hw) cw_D_requireCandidateRow_D_requireBegun_163 hD.1 hD.2.1 rfl d_D_requireCandidateRow_18 rfl rfl (Nat.le_of_ble_eq_true rfl) rfl (fun _ _ h => h) (fun _ _ h => h) (fun M11 hw => ?_)
  refine x_aload_n 0 0 d_D_requireCandidateRow_21 rfl rfl ?_
  refine x_getr 5 41 d_D_requireCandidateRow_22 hD.1 hD.2.1 rfl rfl (by decide) lay_D (List.mem_cons_of_mem _ q268) rfl ?_
  refine x_iload_n 1 1 d_D_requireCandidateRow_25 rfl rfl ?_
  obtain ⟨hi12, hw⟩ := hw
  refine x_aald (83 + 11 * a1.toNatClampNeg) d_D_requireCandidateRow_26 hD.sessions.1 hD.sessions.2 (t0 := 6) rfl hi12 rfl ?_
  refine x_getr 1 ((83 + 11 * a1.toNatClampNeg) + 1) d_D_requireCandidateRow_27 (hD.sessionsAt hi12).1 (hD.sessionsAt hi12).2.1 rfl rfl (by decide) lay_N (List.mem_cons_of_mem _ q360) rfl ?_
  refine x_iload_n 2 2 d_D_requireCandidateRow_30 rfl rfl ?_
  refine x_iload_n 3 3 d_D_requireCandidateRow_31 rfl rfl ?_
  refine x_callVi (As := [.int a2, .int a3]) (t := ((83 + 11 * a1.toNatClampNeg) + 1)) (rest := []) (rc := 1) (rs := 6) (c_S_rowOf hA hT (hD.sessionsAt hi12).candidate hw) cw_D_requireCandidateRow_S_rowOf_171 ((hD.sessionsAt hi12).candidate).1 ((hD.sessionsAt hi12).candidate).2.1 rfl d_D_requireCandidateRow_32 rfl rfl (Nat.le_of_ble_eq_true rfl) rfl (fun _ _ h => h.elim) (fun _ _ h => h) (fun r14 M13 hw => ?_)
  refine x_istore 5 [(5, .int r14), (0, .ref 0), (1, .int a1), (2, .int a2), (3, .int a3), (4, .int a4)] d_D_requireCandidateRow_35 (by decide) rfl ?_
  refine x_iload 5 0 d_D_requireCandidateRow_37 rfl ?_
  refine x_iconst (v := (-1)) d_D_requireCandidateRow_39 (by decide) ?_
  refine x_icmp_ne 54 d_D_requireCandidateRow_40 rfl (fun hc => ?_) (fun hc => ?_)
  · have hw := hw.1 hc
    refine x_iload 5 0 d_D_requireCandidateRow_54 rfl ?_
    exact x_iret d_D_requireCandidateRow_56 rfl (fun _ h => h) ⟨_, rfl, hw⟩
  · have hw := hw.2 hc
    exact x_throwS (names := sdExN) (is := 310) (ic := 74) (rc := 0) (rs := 0) hT rfl fit_ISE fit_N (sd_goodB q374) (List.mem_cons_of_mem _ q290) (List.mem_cons_of_mem _ q291) (List.mem_cons_of_mem _ q292) (List.mem_of_getElem? (i := 13) rfl) oa_ISE d_D_requireCandidateRow_43 d_D_requireCandidateRow_46 (Or.inr ⟨d_D_requireCandidateRow_47, rfl⟩) d_D_requireCandidateRow_50 d_D_requireCandidateRow_53 (by decide) (Nat.le_of_ble_eq_true rfl) rfl rfl (fun _ _ h => h) hw
end
theorem q375 : (.code ⟨"SettingsDesk", "set", "(IIIII)V"⟩ prog_1_method_9_code 7 none : Cond) ∈ sdB0 := sd_tb3 160 rfl rfl
theorem q376 : (.methodLink "SettingsDesk" 189 ⟨"SettingsDesk", "requireCandidateRow", "(IIII)I"⟩ : Cond) ∈ sdB0 := sd_tb3 161 rfl rfl
theorem q377 : (.instanceMethod ⟨"SettingsDesk", "requireCandidateRow", "(IIII)I"⟩ : Cond) ∈ sdB0 := sd_tb3 163 rfl rfl
theorem q378 : (.selects "SettingsDesk" ⟨"SettingsDesk", "requireCandidateRow", "(IIII)I"⟩ ⟨"SettingsDesk", "requireCandidateRow", "(IIII)I"⟩ : Cond) ∈ sdB0 := sd_tbp (q := (⟨"SettingsDesk", "requireCandidateRow", "(IIII)I"⟩, 12)) (List.mem_of_getElem? (i := 10) rfl)
theorem q379 : (.methodLink "SettingsDesk" 195 ⟨"SettingsDesk$Settings", "give", "(III)V"⟩ : Cond) ∈ sdB0 := sd_tb3 167 rfl rfl
abbrev y_D_set : MethodName := ⟨"SettingsDesk", "set", "(IIIII)V"⟩
theorem d_D_set_0 : decode prog_1_method_9_code 0 = .ok (.aload_n 0, 1) := by decide +kernel
theorem d_D_set_1 : decode prog_1_method_9_code 1 = .ok (.iload_n 1, 1) := by decide +kernel
theorem d_D_set_2 : decode prog_1_method_9_code 2 = .ok (.iload_n 2, 1) := by decide +kernel
theorem d_D_set_3 : decode prog_1_method_9_code 3 = .ok (.iload_n 3, 1) := by decide +kernel
theorem d_D_set_4 : decode prog_1_method_9_code 4 = .ok (.iload 4, 2) := by decide +kernel
theorem d_D_set_6 : decode prog_1_method_9_code 6 = .ok (.invokevirtual 189, 3) := by decide +kernel
theorem d_D_set_9 : decode prog_1_method_9_code 9 = .ok (.istore 6, 2) := by decide +kernel
theorem d_D_set_11 : decode prog_1_method_9_code 11 = .ok (.aload_n 0, 1) := by decide +kernel
theorem d_D_set_12 : decode prog_1_method_9_code 12 = .ok (.getfield 12, 3) := by decide +kernel
theorem d_D_set_15 : decode prog_1_method_9_code 15 = .ok (.iload_n 2, 1) := by decide +kernel
theorem d_D_set_16 : decode prog_1_method_9_code 16 = .ok (.iload 4, 2) := by decide +kernel
theorem d_D_set_18 : decode prog_1_method_9_code 18 = .ok (.invokevirtual 104, 3) := by decide +kernel
theorem d_D_set_21 : decode prog_1_method_9_code 21 = .ok (.iload 5, 2) := by decide +kernel
theorem d_D_set_23 : decode prog_1_method_9_code 23 = .ok (.invokevirtual 113, 3) := by decide +kernel
theorem d_D_set_26 : decode prog_1_method_9_code 26 = .ok (.ifCond .ne (13), 3) := by decide +kernel
theorem d_D_set_29 : decode prog_1_method_9_code 29 = .ok (.new 91, 3) := by decide +kernel
theorem d_D_set_32 : decode prog_1_method_9_code 32 = .ok (.dup, 1) := by decide +kernel
theorem d_D_set_33 : decode prog_1_method_9_code 33 = .ok (.ldc 193, 2) := by decide +kernel
theorem d_D_set_35 : decode prog_1_method_9_code 35 = .ok (.invokespecial 95, 3) := by decide +kernel
theorem d_D_set_38 : decode prog_1_method_9_code 38 = .ok (.athrow, 1) := by decide +kernel
theorem d_D_set_39 : decode prog_1_method_9_code 39 = .ok (.aload_n 0, 1) := by decide +kernel
theorem d_D_set_40 : decode prog_1_method_9_code 40 = .ok (.getfield 35, 3) := by decide +kernel
theorem d_D_set_43 : decode prog_1_method_9_code 43 = .ok (.iload_n 1, 1) := by decide +kernel
theorem d_D_set_44 : decode prog_1_method_9_code 44 = .ok (.aaload, 1) := by decide +kernel
theorem d_D_set_45 : decode prog_1_method_9_code 45 = .ok (.getfield 168, 3) := by decide +kernel
theorem d_D_set_48 : decode prog_1_method_9_code 48 = .ok (.iload 6, 2) := by decide +kernel
theorem d_D_set_50 : decode prog_1_method_9_code 50 = .ok (.iload 4, 2) := by decide +kernel
theorem d_D_set_52 : decode prog_1_method_9_code 52 = .ok (.iload 5, 2) := by decide +kernel
theorem d_D_set_54 : decode prog_1_method_9_code 54 = .ok (.invokevirtual 195, 3) := by decide +kernel
theorem d_D_set_57 : decode prog_1_method_9_code 57 = .ok (.return_, 1) := by decide +kernel
def Y_D_set : sdY := ("SettingsDesk", prog_1_method_9_code, 7, none, .code y_D_set prog_1_method_9_code 7 none :: sdB0, { frames := 8, cells := 6, slots := 36, locals := 129 }, 6, 36, [])
theorem cw_D_set_D_requireCandidateRow_189 : sd_cwV Y_D_set Y_D_requireCandidateRow y_D_requireCandidateRow 189 4 "SettingsDesk" := ⟨sd_goodV q376 q377 q378 q274 q374, ⟨_, rfl⟩, ⟨rfl, rfl, rfl, rfl⟩, ⟨rfl, by decide, by decide, by decide +kernel⟩, ⟨by decide, by decide⟩⟩
theorem cw_D_set_C_leafAt_104 : sd_cwV Y_D_set Y_C_leafAt y_C_leafAt 104 2 "SettingsDesk$Schema" := ⟨sd_goodV q330 q87 q88 q77 q86, ⟨_, rfl⟩, ⟨rfl, rfl, rfl, rfl⟩, ⟨rfl, by decide, by decide, by decide +kernel⟩, ⟨by decide, by decide⟩⟩
theorem cw_D_set_F_takes_113 : sd_cwV Y_D_set Y_F_takes y_F_takes 113 1 "SettingsDesk$Leaf" := ⟨sd_goodV q331 q333 q334 q335 q332, ⟨_, rfl⟩, ⟨rfl, rfl, rfl, rfl⟩, ⟨rfl, by decide, by decide, by decide +kernel⟩, ⟨by decide, by decide⟩⟩
theorem cw_D_set_S_give_195 : sd_cwV Y_D_set Y_S_give y_S_give 195 3 "SettingsDesk$Settings" := ⟨sd_goodV q379 q61 q62 q7 q60, ⟨_, rfl⟩, ⟨rfl, rfl, rfl, rfl⟩, ⟨rfl, by decide, by decide, by decide +kernel⟩, ⟨by decide, by decide⟩⟩
section
variable {l : Launch} {D : va_G} {dA : Nat → ClassId} {b n : Nat} {ad : Nat → Nat} {L : Nat → sdL} {sc : Option (Nat × Nat × (Nat → Int32))}
def w_D_set (M : sdM) (a1 : Int32) (a2 : Int32) (a3 : Int32) (a4 : Int32) (a5 : Int32) (Q : sdM → Prop) (X : String → sdM → Prop) : Prop := w_D_requireCandidateRow M a1 a2 a3 a4 (fun r11 M10 => w_C_leafAt M10 a2 a4 (fun t13 M12 => w_F_takes t13 M12 a5 (fun r16 M15 => (¬ r16 = 0 → vp_in a1 3 ∧ w_S_give ((83 + 11 * a1.toNatClampNeg) + 1) M15 r11 a4 a5 (fun M18 => Q M18)) ∧ (r16 = 0 → X "java/lang/IllegalArgumentException" M15)))) X
set_option maxHeartbeats 1000000 in
theorem c_D_set {a1 : Int32} {a2 : Int32} {a3 : Int32} {a4 : Int32} {a5 : Int32} (hA : sd_ad b n ad) (hT : l.stackTraces = false) (hD : isD n L dA) {Q : sdM → Prop} {X : String → sdM → Prop} {M : sdM} (hw : w_D_set M a1 a2 a3 a4 a5 Q X) : sd_Cn l (sdE0 sc) y_D_set Y_D_set.2.2.2.2.1 Y_D_set.2.2.2.2.2.1 6 36 D (sd_tys dA) b n ad L M [.ref 0, .int a1, .int a2, .int a3, .int a4, .int a5] (sd_qv Q) X := by
  refine sd_enter (Y := Y_D_set) rfl rfl rfl rfl (Nat.le_of_ble_eq_true rfl) ?_
  show sdW l (sdE0 sc) Y_D_set D (sd_tys dA) b n ad L ad (sd_H D (sdE0 sc).1 n ad L) (sd_qv Q) X 0 [(0, .ref 0), (1, .int a1), (2, .int a2), (3, .int a3), (4, .int a4), (5, .int a5)] [] M 6 36
  unfold w_D_set at hw
  refine x_aload_n 0 0 d_D_set_0 rfl rfl ?_
  refine x_iload_n 1 1 d_D_set_1 rfl rfl ?_
  refine x_iload_n 2 2 d_D_set_2 rfl rfl ?_
  refine x_iload_n 3 3 d_D_set_3 rfl rfl ?_
  refine x_iload 4 4 d_D_set_4 rfl ?_
  refine x_callVi (As := [.int a1, .int a2, .int a3, .int a4]) (t := 0) (rest := []) (rc := 1) (rs := 6) (c_D_requireCandidateRow hA hT hD hw) cw_D_set_D_requireCandidateRow_189 hD.1 hD.2.1 rfl d_D_set_6 rfl rfl (Nat.le_of_ble_eq_true rfl) rfl (fun _ _ h => h) (fun _ _ h => h) (fun r11 M10 hw => ?_)
  refine x_istore 6 [(6, .int r11), (0, .ref 0), (1, .int a1), (2, .int a2), (3, .int a3), (4, .int a4), (5, .int a5)] d_D_set_9 (by decide) rfl ?_
  refine x_aload_n 0 1 d_D_set_11 rfl rfl ?_
  refine x_getr 0 1 d_D_set_12 hD.1 hD.2.1 rfl rfl (by decide) lay_D (List.mem_cons_of_mem _ q281) rfl ?_
  refine x_iload_n 2 3 d_D_set_15 rfl rfl ?_
  refine x_iload 4 5 d_D_set_16 rfl ?_
  refine x_callVr (As := [.int a2, .int a4]) (t := 1) (rest := []) (rc := 1) (rs := 6) (c_C_leafAt hA hT hD.schema hw) cw_D_set_C_leafAt_104 hD.schema.1 hD.schema.2.1 rfl d_D_set_18 rfl rfl (Nat.le_of_ble_eq_true rfl) rfl (fun _ _ h => h.elim) (fun _ _ h => h) (fun t13 M12 ht14 hw => ?_)
  refine x_iload 5 6 d_D_set_21 rfl ?_
  refine x_callVi (As := [.int a5]) (t := t13) (rest := []) (rc := 1) (rs := 6) (c_F_takes hA hT ht14 hw) cw_D_set_F_takes_113 ht14.1 ht14.2 rfl d_D_set_23 rfl rfl (Nat.le_of_ble_eq_true rfl) rfl (fun _ _ h => h.elim) (fun _ _ h => h) (fun r16 M15 hw => ?_)
  refine x_if_ne 39 d_D_set_26 rfl (fun hc => ?_) (fun hc => ?_)
  · have hw := hw.1 hc
    refine x_aload_n 0 1 d_D_set_39 rfl rfl ?_
    refine x_getr 5 41 d_D_set_40 hD.1 hD.2.1 rfl rfl (by decide) lay_D (List.mem_cons_of_mem _ q268) rfl ?_
    refine x_iload_n 1 2 d_D_set_43 rfl rfl ?_
    obtain ⟨hi17, hw⟩ := hw
    refine x_aald (83 + 11 * a1.toNatClampNeg) d_D_set_44 hD.sessions.1 hD.sessions.2 (t0 := 6) rfl hi17 rfl ?_
    refine x_getr 1 ((83 + 11 * a1.toNatClampNeg) + 1) d_D_set_45 (hD.sessionsAt hi17).1 (hD.sessionsAt hi17).2.1 rfl rfl (by decide) lay_N (List.mem_cons_of_mem _ q360) rfl ?_
    refine x_iload 6 0 d_D_set_48 rfl ?_
    refine x_iload 4 5 d_D_set_50 rfl ?_
    refine x_iload 5 6 d_D_set_52 rfl ?_
    refine x_callVv (As := [.int r11, .int a4, .int a5]) (t := ((83 + 11 * a1.toNatClampNeg) + 1)) (rest := []) (rc := 1) (rs := 6) (c_S_give hA hT (hD.sessionsAt hi17).candidate hw) cw_D_set_S_give_195 ((hD.sessionsAt hi17).candidate).1 ((hD.sessionsAt hi17).candidate).2.1 rfl d_D_set_54 rfl rfl (Nat.le_of_ble_eq_true rfl) rfl (fun _ _ h => h.elim) (fun _ _ h => h) (fun M18 hw => ?_)
    exact x_vret d_D_set_57 rfl (fun _ h => h) ⟨rfl, hw⟩
  · have hw := hw.2 hc
    exact x_throwS (names := sdExN) (is := 193) (ic := 95) (rc := 0) (rs := 0) hT rfl fit_IAE fit_N (sd_goodB q375) (List.mem_cons_of_mem _ q304) (List.mem_cons_of_mem _ q305) (List.mem_cons_of_mem _ q306) (List.mem_of_getElem? (i := 14) rfl) oa_IAE d_D_set_29 d_D_set_32 (Or.inl ⟨d_D_set_33, rfl⟩) d_D_set_35 d_D_set_38 (by decide) (Nat.le_of_ble_eq_true rfl) rfl rfl (fun _ _ h => h) hw
end
theorem q380 : (.methodLink "SettingsDesk" 199 ⟨"SettingsDesk$Settings", "isGiven", "(II)Z"⟩ : Cond) ∈ sdB0 := sd_tb3 178 rfl rfl
theorem q381 : (.methodLink "SettingsDesk" 203 ⟨"SettingsDesk$Settings", "drop", "(II)V"⟩ : Cond) ∈ sdB0 := sd_tb3 179 rfl rfl
abbrev y_D_unset : MethodName := ⟨"SettingsDesk", "unset", "(IIII)Z"⟩
theorem d_D_unset_0 : decode prog_1_method_10_code 0 = .ok (.aload_n 0, 1) := by decide +kernel
theorem d_D_unset_1 : decode prog_1_method_10_code 1 = .ok (.iload_n 1, 1) := by decide +kernel
theorem d_D_unset_2 : decode prog_1_method_10_code 2 = .ok (.iload_n 2, 1) := by decide +kernel
theorem d_D_unset_3 : decode prog_1_method_10_code 3 = .ok (.iload_n 3, 1) := by decide +kernel
theorem d_D_unset_4 : decode prog_1_method_10_code 4 = .ok (.iload 4, 2) := by decide +kernel
theorem d_D_unset_6 : decode prog_1_method_10_code 6 = .ok (.invokevirtual 189, 3) := by decide +kernel
theorem d_D_unset_9 : decode prog_1_method_10_code 9 = .ok (.istore 5, 2) := by decide +kernel
theorem d_D_unset_11 : decode prog_1_method_10_code 11 = .ok (.aload_n 0, 1) := by decide +kernel
theorem d_D_unset_12 : decode prog_1_method_10_code 12 = .ok (.getfield 35, 3) := by decide +kernel
theorem d_D_unset_15 : decode prog_1_method_10_code 15 = .ok (.iload_n 1, 1) := by decide +kernel
theorem d_D_unset_16 : decode prog_1_method_10_code 16 = .ok (.aaload, 1) := by decide +kernel
theorem d_D_unset_17 : decode prog_1_method_10_code 17 = .ok (.getfield 168, 3) := by decide +kernel
theorem d_D_unset_20 : decode prog_1_method_10_code 20 = .ok (.astore 6, 2) := by decide +kernel
theorem d_D_unset_22 : decode prog_1_method_10_code 22 = .ok (.aload 6, 2) := by decide +kernel
theorem d_D_unset_24 : decode prog_1_method_10_code 24 = .ok (.iload 5, 2) := by decide +kernel
theorem d_D_unset_26 : decode prog_1_method_10_code 26 = .ok (.iload 4, 2) := by decide +kernel
theorem d_D_unset_28 : decode prog_1_method_10_code 28 = .ok (.invokevirtual 199, 3) := by decide +kernel
theorem d_D_unset_31 : decode prog_1_method_10_code 31 = .ok (.istore 7, 2) := by decide +kernel
theorem d_D_unset_33 : decode prog_1_method_10_code 33 = .ok (.aload 6, 2) := by decide +kernel
theorem d_D_unset_35 : decode prog_1_method_10_code 35 = .ok (.iload 5, 2) := by decide +kernel
theorem d_D_unset_37 : decode prog_1_method_10_code 37 = .ok (.iload 4, 2) := by decide +kernel
theorem d_D_unset_39 : decode prog_1_method_10_code 39 = .ok (.invokevirtual 203, 3) := by decide +kernel
theorem d_D_unset_42 : decode prog_1_method_10_code 42 = .ok (.iload 7, 2) := by decide +kernel
theorem d_D_unset_44 : decode prog_1_method_10_code 44 = .ok (.ireturn, 1) := by decide +kernel
def Y_D_unset : sdY := ("SettingsDesk", prog_1_method_10_code, 8, (some .boolean), .code y_D_unset prog_1_method_10_code 8 (some .boolean) :: sdB0, { frames := 8, cells := 5, slots := 30, locals := 129 }, 5, 30, [])
theorem cw_D_unset_D_requireCandidateRow_189 : sd_cwV Y_D_unset Y_D_requireCandidateRow y_D_requireCandidateRow 189 4 "SettingsDesk" := ⟨sd_goodV q376 q377 q378 q274 q374, ⟨_, rfl⟩, ⟨rfl, rfl, rfl, rfl⟩, ⟨rfl, by decide, by decide, by decide +kernel⟩, ⟨by decide, by decide⟩⟩
theorem cw_D_unset_S_isGiven_199 : sd_cwV Y_D_unset Y_S_isGiven y_S_isGiven 199 2 "SettingsDesk$Settings" := ⟨sd_goodV q380 q5 q6 q7 q4, ⟨_, rfl⟩, ⟨rfl, rfl, rfl, rfl⟩, ⟨rfl, by decide, by decide, by decide +kernel⟩, ⟨by decide, by decide⟩⟩
theorem cw_D_unset_S_drop_203 : sd_cwV Y_D_unset Y_S_drop y_S_drop 203 2 "SettingsDesk$Settings" := ⟨sd_goodV q381 q45 q46 q7 q44, ⟨_, rfl⟩, ⟨rfl, rfl, rfl, rfl⟩, ⟨rfl, by decide, by decide, by decide +kernel⟩, ⟨by decide, by decide⟩⟩
section
variable {l : Launch} {D : va_G} {dA : Nat → ClassId} {b n : Nat} {ad : Nat → Nat} {L : Nat → sdL} {sc : Option (Nat × Nat × (Nat → Int32))}
def w_D_unset (M : sdM) (a1 : Int32) (a2 : Int32) (a3 : Int32) (a4 : Int32) (Q : Int32 → sdM → Prop) (X : String → sdM → Prop) : Prop := w_D_requireCandidateRow M a1 a2 a3 a4 (fun r8 M7 => vp_in a1 3 ∧ w_S_isGiven ((83 + 11 * a1.toNatClampNeg) + 1) M7 r8 a4 (fun r11 M10 => w_S_drop ((83 + 11 * a1.toNatClampNeg) + 1) M10 r8 a4 (fun M12 => sdB r11 ∧ Q r11 M12))) X
set_option maxHeartbeats 1000000 in
theorem c_D_unset {a1 : Int32} {a2 : Int32} {a3 : Int32} {a4 : Int32} (hA : sd_ad b n ad) (hT : l.stackTraces = false) (hD : isD n L dA) {Q : Int32 → sdM → Prop} {X : String → sdM → Prop} {M : sdM} (hw : w_D_unset M a1 a2 a3 a4 Q X) : sd_Cn l (sdE0 sc) y_D_unset Y_D_unset.2.2.2.2.1 Y_D_unset.2.2.2.2.2.1 5 30 D (sd_tys dA) b n ad L M [.ref 0, .int a1, .int a2, .int a3, .int a4] (sd_qi Q) X := by
  refine sd_enter (Y := Y_D_unset) rfl rfl rfl rfl (Nat.le_of_ble_eq_true rfl) ?_
  show sdW l (sdE0 sc) Y_D_unset D (sd_tys dA) b n ad L ad (sd_H D (sdE0 sc).1 n ad L) (sd_qi Q) X 0 [(0, .ref 0), (1, .int a1), (2, .int a2), (3, .int a3), (4, .int a4)] [] M 5 30
  unfold w_D_unset at hw
  refine x_aload_n 0 0 d_D_unset_0 rfl rfl ?_
  refine x_iload_n 1 1 d_D_unset_1 rfl rfl ?_
  refine x_iload_n 2 2 d_D_unset_2 rfl rfl ?_
  refine x_iload_n 3 3 d_D_unset_3 rfl rfl ?_
  refine x_iload 4 4 d_D_unset_4 rfl ?_
  refine x_callVi (As := [.int a1, .int a2, .int a3, .int a4]) (t := 0) (rest := []) (rc := 0) (rs := 0) (c_D_requireCandidateRow hA hT hD hw) cw_D_unset_D_requireCandidateRow_189 hD.1 hD.2.1 rfl d_D_unset_6 rfl rfl (Nat.le_of_ble_eq_true rfl) rfl (fun _ _ h => h) (fun _ _ h => h) (fun r8 M7 hw => ?_)
  refine x_istore 5 [(5, .int r8), (0, .ref 0), (1, .int a1), (2, .int a2), (3, .int a3), (4, .int a4)] d_D_unset_9 (by decide) rfl ?_
  refine x_aload_n 0 1 d_D_unset_11 rfl rfl ?_
  refine x_getr 5 41 d_D_unset_12 hD.1 hD.2.1 rfl rfl (by decide) lay_D (List.mem_cons_of_mem _ q268) rfl ?_
  refine x_iload_n 1 2 d_D_unset_15 rfl rfl ?_
  obtain ⟨hi9, hw⟩ := hw
  refine x_aald (83 + 11 * a1.toNatClampNeg) d_D_unset_16 hD.sessions.1 hD.sessions.2 (t0 := 6) rfl hi9 rfl ?_
  refine x_getr 1 ((83 + 11 * a1.toNatClampNeg) + 1) d_D_unset_17 (hD.sessionsAt hi9).1 (hD.sessionsAt hi9).2.1 rfl rfl (by decide) lay_N (List.mem_cons_of_mem _ q360) rfl ?_
  refine x_astore 6 [(6, .ref ((83 + 11 * a1.toNatClampNeg) + 1)), (5, .int r8), (0, .ref 0), (1, .int a1), (2, .int a2), (3, .int a3), (4, .int a4)] d_D_unset_20 (by decide) rfl ?_
  refine x_aload 6 0 d_D_unset_22 rfl ?_
  refine x_iload 5 1 d_D_unset_24 rfl ?_
  refine x_iload 4 6 d_D_unset_26 rfl ?_
  refine x_callVi (As := [.int r8, .int a4]) (t := ((83 + 11 * a1.toNatClampNeg) + 1)) (rest := []) (rc := 0) (rs := 0) (c_S_isGiven hA hT (hD.sessionsAt hi9).candidate hw) cw_D_unset_S_isGiven_199 ((hD.sessionsAt hi9).candidate).1 ((hD.sessionsAt hi9).candidate).2.1 rfl d_D_unset_28 rfl rfl (Nat.le_of_ble_eq_true rfl) rfl (fun _ _ h => h.elim) (fun _ _ h => h) (fun r11 M10 hw => ?_)
  refine x_istore 7 [(7, .int r11), (6, .ref ((83 + 11 * a1.toNatClampNeg) + 1)), (5, .int r8), (0, .ref 0), (1, .int a1), (2, .int a2), (3, .int a3), (4, .int a4)] d_D_unset_31 (by decide) rfl ?_
  refine x_aload 6 1 d_D_unset_33 rfl ?_
  refine x_iload 5 2 d_D_unset_35 rfl ?_
  refine x_iload 4 7 d_D_unset_37 rfl ?_
  refine x_callVv (As := [.int r8, .int a4]) (t := ((83 + 11 * a1.toNatClampNeg) + 1)) (rest := []) (rc := 0) (rs := 0) (c_S_drop hA hT (hD.sessionsAt hi9).candidate hw) cw_D_unset_S_drop_203 ((hD.sessionsAt hi9).candidate).1 ((hD.sessionsAt hi9).candidate).2.1 rfl d_D_unset_39 rfl rfl (Nat.le_of_ble_eq_true rfl) rfl (fun _ _ h => h.elim) (fun _ _ h => h) (fun M12 hw => ?_)
  refine x_iload 7 0 d_D_unset_42 rfl ?_
  exact x_zret d_D_unset_44 rfl (sdB_n hw.1) (fun _ h => h) ⟨_, rfl, hw.2⟩
end
abbrev y_D_settingsOf : MethodName := ⟨"SettingsDesk", "settingsOf", "(I)LSettingsDesk$Settings;"⟩
theorem d_D_settingsOf_0 : decode prog_1_method_30_code 0 = .ok (.iload_n 1, 1) := by decide +kernel
theorem d_D_settingsOf_1 : decode prog_1_method_30_code 1 = .ok (.iconst 3, 1) := by decide +kernel
theorem d_D_settingsOf_2 : decode prog_1_method_30_code 2 = .ok (.if_icmp .ne (8), 3) := by decide +kernel
theorem d_D_settingsOf_5 : decode prog_1_method_30_code 5 = .ok (.aload_n 0, 1) := by decide +kernel
theorem d_D_settingsOf_6 : decode prog_1_method_30_code 6 = .ok (.getfield 19, 3) := by decide +kernel
theorem d_D_settingsOf_9 : decode prog_1_method_30_code 9 = .ok (.areturn, 1) := by decide +kernel
theorem d_D_settingsOf_10 : decode prog_1_method_30_code 10 = .ok (.iload_n 1, 1) := by decide +kernel
theorem d_D_settingsOf_11 : decode prog_1_method_30_code 11 = .ok (.iconst 4, 1) := by decide +kernel
theorem d_D_settingsOf_12 : decode prog_1_method_30_code 12 = .ok (.if_icmp .ne (10), 3) := by decide +kernel
theorem d_D_settingsOf_15 : decode prog_1_method_30_code 15 = .ok (.aload_n 0, 1) := by decide +kernel
theorem d_D_settingsOf_16 : decode prog_1_method_30_code 16 = .ok (.getfield 23, 3) := by decide +kernel
theorem d_D_settingsOf_19 : decode prog_1_method_30_code 19 = .ok (.goto (12), 3) := by decide +kernel
theorem d_D_settingsOf_22 : decode prog_1_method_30_code 22 = .ok (.aload_n 0, 1) := by decide +kernel
theorem d_D_settingsOf_23 : decode prog_1_method_30_code 23 = .ok (.getfield 35, 3) := by decide +kernel
theorem d_D_settingsOf_26 : decode prog_1_method_30_code 26 = .ok (.iload_n 1, 1) := by decide +kernel
theorem d_D_settingsOf_27 : decode prog_1_method_30_code 27 = .ok (.aaload, 1) := by decide +kernel
theorem d_D_settingsOf_28 : decode prog_1_method_30_code 28 = .ok (.getfield 168, 3) := by decide +kernel
theorem d_D_settingsOf_31 : decode prog_1_method_30_code 31 = .ok (.areturn, 1) := by decide +kernel
def Y_D_settingsOf : sdY := ("SettingsDesk", prog_1_method_30_code, 2, (some (.object "SettingsDesk$Settings")), .code y_D_settingsOf prog_1_method_30_code 2 (some (.object "SettingsDesk$Settings")) :: sdB0, { frames := 0, cells := 0, slots := 0, locals := 0 }, 0, 0, [])
section
variable {l : Launch} {D : va_G} {dA : Nat → ClassId} {b n : Nat} {ad : Nat → Nat} {L : Nat → sdL} {sc : Option (Nat × Nat × (Nat → Int32))}
def k_D_settingsOf_31 (Q : Nat → sdM → Prop) (M : sdM) (u0 : Nat) : Prop := Q u0 M
set_option maxHeartbeats 1000000 in
theorem t_D_settingsOf_31 (hA : sd_ad b n ad) (hT : l.stackTraces = false) (hD : isD n L dA) {Q : Nat → sdM → Prop} (M : sdM) (u0 : Nat) (hu0 : isS n L dA u0) (hw : k_D_settingsOf_31 Q M u0) : sdW l (sdE0 sc) Y_D_settingsOf D (sd_tys dA) b n ad L ad (sd_H D (sdE0 sc).1 n ad L) (sd_qr (fun t => isS n L dA t) Q) sd_xf 31 [] [.ref u0] M 0 0 := by
  unfold k_D_settingsOf_31 at hw
  exact x_aret d_D_settingsOf_31 rfl rfl (fun _ h => h) ⟨_, rfl, hu0, hw⟩
def w_D_settingsOf (M : sdM) (a1 : Int32) (Q : Nat → sdM → Prop) : Prop := (¬ a1 = (3 : Int32) → (¬ a1 = (4 : Int32) → vp_in a1 3 ∧ k_D_settingsOf_31 Q M ((83 + 11 * a1.toNatClampNeg) + 1)) ∧ (a1 = (4 : Int32) → k_D_settingsOf_31 Q M 30)) ∧ (a1 = (3 : Int32) → Q 25 M)
set_option maxHeartbeats 1000000 in
theorem c_D_settingsOf {a1 : Int32} (hA : sd_ad b n ad) (hT : l.stackTraces = false) (hD : isD n L dA) {Q : Nat → sdM → Prop} {M : sdM} (hw : w_D_settingsOf M a1 Q) : sd_Cn l (sdE0 sc) y_D_settingsOf Y_D_settingsOf.2.2.2.2.1 Y_D_settingsOf.2.2.2.2.2.1 0 0 D (sd_tys dA) b n ad L M [.ref 0, .int a1] (sd_qr (fun t => isS n L dA t) Q) sd_xf := by
  refine sd_enter (Y := Y_D_settingsOf) rfl rfl rfl rfl (Nat.le_of_ble_eq_true rfl) ?_
  show sdW l (sdE0 sc) Y_D_settingsOf D (sd_tys dA) b n ad L ad (sd_H D (sdE0 sc).1 n ad L) (sd_qr (fun t => isS n L dA t) Q) sd_xf 0 [(0, .ref 0), (1, .int a1)] [] M 0 0
  unfold w_D_settingsOf at hw
  refine x_iload_n 1 1 d_D_settingsOf_0 rfl rfl ?_
  refine x_iconst (v := 3) d_D_settingsOf_1 (by decide) ?_
  refine x_icmp_ne 10 d_D_settingsOf_2 rfl (fun hc => ?_) (fun hc => ?_)
  · have hw := hw.1 hc
    refine x_iload_n 1 1 d_D_settingsOf_10 rfl rfl ?_
    refine x_iconst (v := 4) d_D_settingsOf_11 (by decide) ?_
    refine x_icmp_ne 22 d_D_settingsOf_12 rfl (fun hc => ?_) (fun hc => ?_)
    · have hw := hw.1 hc
      refine x_aload_n 0 0 d_D_settingsOf_22 rfl rfl ?_
      refine x_getr 5 41 d_D_settingsOf_23 hD.1 hD.2.1 rfl rfl (by decide) lay_D (List.mem_cons_of_mem _ q268) rfl ?_
      refine x_iload_n 1 1 d_D_settingsOf_26 rfl rfl ?_
      obtain ⟨hi2, hw⟩ := hw
      refine x_aald (83 + 11 * a1.toNatClampNeg) d_D_settingsOf_27 hD.sessions.1 hD.sessions.2 (t0 := 6) rfl hi2 rfl ?_
      refine x_getr 1 ((83 + 11 * a1.toNatClampNeg) + 1) d_D_settingsOf_28 (hD.sessionsAt hi2).1 (hD.sessionsAt hi2).2.1 rfl rfl (by decide) lay_N (List.mem_cons_of_mem _ q360) rfl ?_
      refine x_sub [] [] rfl ?_
      exact t_D_settingsOf_31 hA hT hD M ((83 + 11 * a1.toNatClampNeg) + 1) (hD.sessionsAt hi2).candidate hw
    · have hw := hw.2 hc
      refine x_aload_n 0 0 d_D_settingsOf_15 rfl rfl ?_
      refine x_getr 2 30 d_D_settingsOf_16 hD.1 hD.2.1 rfl rfl (by decide) lay_D (List.mem_cons_of_mem _ q265) rfl ?_
      refine x_goto 31 d_D_settingsOf_19 rfl ?_
      refine x_sub [] [] rfl ?_
      exact t_D_settingsOf_31 hA hT hD M 30 hD.saved hw
  · have hw := hw.2 hc
    refine x_aload_n 0 0 d_D_settingsOf_5 rfl rfl ?_
    refine x_getr 1 25 d_D_settingsOf_6 hD.1 hD.2.1 rfl rfl (by decide) lay_D (List.mem_cons_of_mem _ q253) rfl ?_
    exact x_aret d_D_settingsOf_9 rfl rfl (fun _ h => h) ⟨_, rfl, hD.running, hw⟩
end
theorem q382 : (.code ⟨"SettingsDesk", "get", "(IIII)I"⟩ prog_1_method_11_code 8 (some .int) : Cond) ∈ sdB0 := sd_tb3 186 rfl rfl
theorem q383 : (.methodLink "SettingsDesk" 211 ⟨"SettingsDesk", "settingsOf", "(I)LSettingsDesk$Settings;"⟩ : Cond) ∈ sdB0 := sd_tb3 188 rfl rfl
theorem q384 : (.code ⟨"SettingsDesk", "settingsOf", "(I)LSettingsDesk$Settings;"⟩ prog_1_method_30_code 2 (some (.object "SettingsDesk$Settings")) : Cond) ∈ sdB0 := sd_tb3 191 rfl rfl
theorem q385 : (.instanceMethod ⟨"SettingsDesk", "settingsOf", "(I)LSettingsDesk$Settings;"⟩ : Cond) ∈ sdB0 := sd_tb3 190 rfl rfl
theorem q386 : (.selects "SettingsDesk" ⟨"SettingsDesk", "settingsOf", "(I)LSettingsDesk$Settings;"⟩ ⟨"SettingsDesk", "settingsOf", "(I)LSettingsDesk$Settings;"⟩ : Cond) ∈ sdB0 := sd_tbp (q := (⟨"SettingsDesk", "settingsOf", "(I)LSettingsDesk$Settings;"⟩, 12)) (List.mem_of_getElem? (i := 11) rfl)
theorem q387 : (.methodLink "SettingsDesk" 215 ⟨"SettingsDesk$Settings", "isNothing", "(IILSettingsDesk$Leaf;)Z"⟩ : Cond) ∈ sdB0 := sd_tb3 192 rfl rfl
theorem q388 : (.methodLink "SettingsDesk" 221 ⟨"SettingsDesk$Settings", "whatIs", "(IILSettingsDesk$Leaf;)I"⟩ : Cond) ∈ sdB0 := sd_tb3 194 rfl rfl
abbrev y_D_get : MethodName := ⟨"SettingsDesk", "get", "(IIII)I"⟩
theorem d_D_get_0 : decode prog_1_method_11_code 0 = .ok (.aload_n 0, 1) := by decide +kernel
theorem d_D_get_1 : decode prog_1_method_11_code 1 = .ok (.invokevirtual 146, 3) := by decide +kernel
theorem d_D_get_4 : decode prog_1_method_11_code 4 = .ok (.iload_n 1, 1) := by decide +kernel
theorem d_D_get_5 : decode prog_1_method_11_code 5 = .ok (.ifCond .lt (8), 3) := by decide +kernel
theorem d_D_get_8 : decode prog_1_method_11_code 8 = .ok (.iload_n 1, 1) := by decide +kernel
theorem d_D_get_9 : decode prog_1_method_11_code 9 = .ok (.iconst 4, 1) := by decide +kernel
theorem d_D_get_10 : decode prog_1_method_11_code 10 = .ok (.if_icmp .le (13), 3) := by decide +kernel
theorem d_D_get_13 : decode prog_1_method_11_code 13 = .ok (.new 206, 3) := by decide +kernel
theorem d_D_get_16 : decode prog_1_method_11_code 16 = .ok (.dup, 1) := by decide +kernel
theorem d_D_get_17 : decode prog_1_method_11_code 17 = .ok (.ldc 208, 2) := by decide +kernel
theorem d_D_get_19 : decode prog_1_method_11_code 19 = .ok (.invokespecial 210, 3) := by decide +kernel
theorem d_D_get_22 : decode prog_1_method_11_code 22 = .ok (.athrow, 1) := by decide +kernel
theorem d_D_get_23 : decode prog_1_method_11_code 23 = .ok (.aload_n 0, 1) := by decide +kernel
theorem d_D_get_24 : decode prog_1_method_11_code 24 = .ok (.iload_n 2, 1) := by decide +kernel
theorem d_D_get_25 : decode prog_1_method_11_code 25 = .ok (.iload 4, 2) := by decide +kernel
theorem d_D_get_27 : decode prog_1_method_11_code 27 = .ok (.invokevirtual 100, 3) := by decide +kernel
theorem d_D_get_30 : decode prog_1_method_11_code 30 = .ok (.iload_n 1, 1) := by decide +kernel
theorem d_D_get_31 : decode prog_1_method_11_code 31 = .ok (.iconst 3, 1) := by decide +kernel
theorem d_D_get_32 : decode prog_1_method_11_code 32 = .ok (.if_icmp .ge (8), 3) := by decide +kernel
theorem d_D_get_35 : decode prog_1_method_11_code 35 = .ok (.aload_n 0, 1) := by decide +kernel
theorem d_D_get_36 : decode prog_1_method_11_code 36 = .ok (.iload_n 1, 1) := by decide +kernel
theorem d_D_get_37 : decode prog_1_method_11_code 37 = .ok (.invokevirtual 163, 3) := by decide +kernel
theorem d_D_get_40 : decode prog_1_method_11_code 40 = .ok (.aload_n 0, 1) := by decide +kernel
theorem d_D_get_41 : decode prog_1_method_11_code 41 = .ok (.iload_n 1, 1) := by decide +kernel
theorem d_D_get_42 : decode prog_1_method_11_code 42 = .ok (.invokevirtual 211, 3) := by decide +kernel
theorem d_D_get_45 : decode prog_1_method_11_code 45 = .ok (.astore 5, 2) := by decide +kernel
theorem d_D_get_47 : decode prog_1_method_11_code 47 = .ok (.aload 5, 2) := by decide +kernel
theorem d_D_get_49 : decode prog_1_method_11_code 49 = .ok (.iload_n 2, 1) := by decide +kernel
theorem d_D_get_50 : decode prog_1_method_11_code 50 = .ok (.iload_n 3, 1) := by decide +kernel
theorem d_D_get_51 : decode prog_1_method_11_code 51 = .ok (.invokevirtual 171, 3) := by decide +kernel
theorem d_D_get_54 : decode prog_1_method_11_code 54 = .ok (.istore 6, 2) := by decide +kernel
theorem d_D_get_56 : decode prog_1_method_11_code 56 = .ok (.aload_n 0, 1) := by decide +kernel
theorem d_D_get_57 : decode prog_1_method_11_code 57 = .ok (.getfield 12, 3) := by decide +kernel
theorem d_D_get_60 : decode prog_1_method_11_code 60 = .ok (.iload_n 2, 1) := by decide +kernel
theorem d_D_get_61 : decode prog_1_method_11_code 61 = .ok (.iload 4, 2) := by decide +kernel
theorem d_D_get_63 : decode prog_1_method_11_code 63 = .ok (.invokevirtual 104, 3) := by decide +kernel
theorem d_D_get_66 : decode prog_1_method_11_code 66 = .ok (.astore 7, 2) := by decide +kernel
theorem d_D_get_68 : decode prog_1_method_11_code 68 = .ok (.iload 6, 2) := by decide +kernel
theorem d_D_get_70 : decode prog_1_method_11_code 70 = .ok (.iconst (-1), 1) := by decide +kernel
theorem d_D_get_71 : decode prog_1_method_11_code 71 = .ok (.if_icmp .eq (17), 3) := by decide +kernel
theorem d_D_get_74 : decode prog_1_method_11_code 74 = .ok (.aload 5, 2) := by decide +kernel
theorem d_D_get_76 : decode prog_1_method_11_code 76 = .ok (.iload 6, 2) := by decide +kernel
theorem d_D_get_78 : decode prog_1_method_11_code 78 = .ok (.iload 4, 2) := by decide +kernel
theorem d_D_get_80 : decode prog_1_method_11_code 80 = .ok (.aload 7, 2) := by decide +kernel
theorem d_D_get_82 : decode prog_1_method_11_code 82 = .ok (.invokevirtual 215, 3) := by decide +kernel
theorem d_D_get_85 : decode prog_1_method_11_code 85 = .ok (.ifCond .eq (13), 3) := by decide +kernel
theorem d_D_get_88 : decode prog_1_method_11_code 88 = .ok (.new 181, 3) := by decide +kernel
theorem d_D_get_91 : decode prog_1_method_11_code 91 = .ok (.dup, 1) := by decide +kernel
theorem d_D_get_92 : decode prog_1_method_11_code 92 = .ok (.ldc 219, 2) := by decide +kernel
theorem d_D_get_94 : decode prog_1_method_11_code 94 = .ok (.invokespecial 185, 3) := by decide +kernel
theorem d_D_get_97 : decode prog_1_method_11_code 97 = .ok (.athrow, 1) := by decide +kernel
theorem d_D_get_98 : decode prog_1_method_11_code 98 = .ok (.aload 5, 2) := by decide +kernel
theorem d_D_get_100 : decode prog_1_method_11_code 100 = .ok (.iload 6, 2) := by decide +kernel
theorem d_D_get_102 : decode prog_1_method_11_code 102 = .ok (.iload 4, 2) := by decide +kernel
theorem d_D_get_104 : decode prog_1_method_11_code 104 = .ok (.aload 7, 2) := by decide +kernel
theorem d_D_get_106 : decode prog_1_method_11_code 106 = .ok (.invokevirtual 221, 3) := by decide +kernel
theorem d_D_get_109 : decode prog_1_method_11_code 109 = .ok (.ireturn, 1) := by decide +kernel
def Y_D_get : sdY := ("SettingsDesk", prog_1_method_11_code, 8, (some .int), .code y_D_get prog_1_method_11_code 8 (some .int) :: sdB0, { frames := 7, cells := 4, slots := 24, locals := 104 }, 4, 24, [])
theorem cw_D_get_D_requireReady_146 : sd_cwV Y_D_get Y_D_requireReady y_D_requireReady 146 0 "SettingsDesk" := ⟨sd_goodV q344 q345 q346 q274 q342, ⟨_, rfl⟩, ⟨rfl, rfl, rfl, rfl⟩, ⟨rfl, by decide, by decide, by decide +kernel⟩, ⟨by decide, by decide⟩⟩
theorem cw_D_get_D_requireLeaf_100 : sd_cwV Y_D_get Y_D_requireLeaf y_D_requireLeaf 100 2 "SettingsDesk" := ⟨sd_goodV q327 q328 q329 q274 q318, ⟨_, rfl⟩, ⟨rfl, rfl, rfl, rfl⟩, ⟨rfl, by decide, by decide, by decide +kernel⟩, ⟨by decide, by decide⟩⟩
theorem cw_D_get_D_requireBegun_163 : sd_cwV Y_D_get Y_D_requireBegun y_D_requireBegun 163 1 "SettingsDesk" := ⟨sd_goodV q365 q366 q367 q274 q359, ⟨_, rfl⟩, ⟨rfl, rfl, rfl, rfl⟩, ⟨rfl, by decide, by decide, by decide +kernel⟩, ⟨by decide, by decide⟩⟩
theorem cw_D_get_D_settingsOf_211 : sd_cwV Y_D_get Y_D_settingsOf y_D_settingsOf 211 1 "SettingsDesk" := ⟨sd_goodV q383 q385 q386 q274 q384, ⟨_, rfl⟩, ⟨rfl, rfl, rfl, rfl⟩, ⟨rfl, by decide, by decide, by decide +kernel⟩, ⟨by decide, by decide⟩⟩
theorem cw_D_get_S_rowOf_171 : sd_cwV Y_D_get Y_S_rowOf y_S_rowOf 171 2 "SettingsDesk$Settings" := ⟨sd_goodV q368 q126 q127 q7 q125, ⟨_, rfl⟩, ⟨rfl, rfl, rfl, rfl⟩, ⟨rfl, by decide, by decide, by decide +kernel⟩, ⟨by decide, by decide⟩⟩
theorem cw_D_get_C_leafAt_104 : sd_cwV Y_D_get Y_C_leafAt y_C_leafAt 104 2 "SettingsDesk$Schema" := ⟨sd_goodV q330 q87 q88 q77 q86, ⟨_, rfl⟩, ⟨rfl, rfl, rfl, rfl⟩, ⟨rfl, by decide, by decide, by decide +kernel⟩, ⟨by decide, by decide⟩⟩
theorem cw_D_get_S_isNothing_215 : sd_cwV Y_D_get Y_S_isNothing y_S_isNothing 215 3 "SettingsDesk$Settings" := ⟨sd_goodV q387 q192 q193 q7 q191, ⟨_, rfl⟩, ⟨rfl, rfl, rfl, rfl⟩, ⟨rfl, by decide, by decide, by decide +kernel⟩, ⟨by decide, by decide⟩⟩
theorem cw_D_get_S_whatIs_221 : sd_cwV Y_D_get Y_S_whatIs y_S_whatIs 221 3 "SettingsDesk$Settings" := ⟨sd_goodV q388 q209 q210 q7 q208, ⟨_, rfl⟩, ⟨rfl, rfl, rfl, rfl⟩, ⟨rfl, by decide, by decide, by decide +kernel⟩, ⟨by decide, by decide⟩⟩
section
variable {l : Launch} {D : va_G} {dA : Nat → ClassId} {b n : Nat} {ad : Nat → Nat} {L : Nat → sdL} {sc : Option (Nat × Nat × (Nat → Int32))}
def k_D_get_88 (Q : Int32 → sdM → Prop) (X : String → sdM → Prop) (M : sdM) : Prop := X "java/lang/UnsupportedOperationException" M
set_option maxHeartbeats 1000000 in
theorem t_D_get_88 (hA : sd_ad b n ad) (hT : l.stackTraces = false) (hD : isD n L dA) {Q : Int32 → sdM → Prop} {X : String → sdM → Prop} (M : sdM) (hw : k_D_get_88 Q X M ) : sdW l (sdE0 sc) Y_D_get D (sd_tys dA) b n ad L ad (sd_H D (sdE0 sc).1 n ad L) (sd_qi Q) X 88 [] [] M 1 6 := by
  unfold k_D_get_88 at hw
  exact x_throwS (names := sdExN) (is := 219) (ic := 185) (rc := 0) (rs := 0) hT rfl fit_UOE fit_N (sd_goodB q382) (List.mem_cons_of_mem _ q362) (List.mem_cons_of_mem _ q363) (List.mem_cons_of_mem _ q364) (List.mem_of_getElem? (i := 16) rfl) oa_UOE d_D_get_88 d_D_get_91 (Or.inl ⟨d_D_get_92, rfl⟩) d_D_get_94 d_D_get_97 (by decide) (Nat.le_of_ble_eq_true rfl) rfl rfl (fun _ _ h => h) hw
def k_D_get_40 (Q : Int32 → sdM → Prop) (X : String → sdM → Prop) (M : sdM) (x1 : Int32) (x2 : Int32) (x3 : Int32) (x4 : Int32) : Prop := w_D_settingsOf M x1 (fun t29 M28 => w_S_rowOf t29 M28 x2 x3 (fun r32 M31 => w_C_leafAt M31 x2 x4 (fun t34 M33 => (r32 = (-1 : Int32) → k_D_get_88 Q X M33) ∧ (¬ r32 = (-1 : Int32) → w_S_isNothing t29 M33 r32 x4 t34 (fun r37 M36 => (r37 = 0 → w_S_whatIs t29 M36 r32 x4 t34 (fun r39 M38 => Q r39 M38)) ∧ (¬ r37 = 0 → k_D_get_88 Q X M36))))))
set_option maxHeartbeats 1000000 in
theorem t_D_get_40 (hA : sd_ad b n ad) (hT : l.stackTraces = false) (hD : isD n L dA) {Q : Int32 → sdM → Prop} {X : String → sdM → Prop} (M : sdM) (x1 : Int32) (x2 : Int32) (x3 : Int32) (x4 : Int32) (hw : k_D_get_40 Q X M x1 x2 x3 x4) : sdW l (sdE0 sc) Y_D_get D (sd_tys dA) b n ad L ad (sd_H D (sdE0 sc).1 n ad L) (sd_qi Q) X 40 [(0, .ref 0), (1, .int x1), (2, .int x2), (3, .int x3), (4, .int x4)] [] M 1 6 := by
  unfold k_D_get_40 at hw
  refine x_aload_n 0 0 d_D_get_40 rfl rfl ?_
  refine x_iload_n 1 1 d_D_get_41 rfl rfl ?_
  refine x_callVr (As := [.int x1]) (t := 0) (rest := []) (rc := 1) (rs := 6) (c_D_settingsOf hA hT hD hw) cw_D_get_D_settingsOf_211 hD.1 hD.2.1 rfl d_D_get_42 rfl rfl (Nat.le_of_ble_eq_true rfl) rfl (fun _ _ h => h.elim) (fun _ _ h => h) (fun t29 M28 ht30 hw => ?_)
  refine x_astore 5 [(5, .ref t29), (0, .ref 0), (1, .int x1), (2, .int x2), (3, .int x3), (4, .int x4)] d_D_get_45 (by decide) rfl ?_
  refine x_aload 5 0 d_D_get_47 rfl ?_
  refine x_iload_n 2 3 d_D_get_49 rfl rfl ?_
  refine x_iload_n 3 4 d_D_get_50 rfl rfl ?_
  refine x_callVi (As := [.int x2, .int x3]) (t := t29) (rest := []) (rc := 1) (rs := 6) (c_S_rowOf hA hT ht30 hw) cw_D_get_S_rowOf_171 ht30.1 ht30.2.1 rfl d_D_get_51 rfl rfl (Nat.le_of_ble_eq_true rfl) rfl (fun _ _ h => h.elim) (fun _ _ h => h) (fun r32 M31 hw => ?_)
  refine x_istore 6 [(6, .int r32), (5, .ref t29), (0, .ref 0), (1, .int x1), (2, .int x2), (3, .int x3), (4, .int x4)] d_D_get_54 (by decide) rfl ?_
  refine x_aload_n 0 2 d_D_get_56 rfl rfl ?_
  refine x_getr 0 1 d_D_get_57 hD.1 hD.2.1 rfl rfl (by decide) lay_D (List.mem_cons_of_mem _ q281) rfl ?_
  refine x_iload_n 2 4 d_D_get_60 rfl rfl ?_
  refine x_iload 4 6 d_D_get_61 rfl ?_
  refine x_callVr (As := [.int x2, .int x4]) (t := 1) (rest := []) (rc := 1) (rs := 6) (c_C_leafAt hA hT hD.schema hw) cw_D_get_C_leafAt_104 hD.schema.1 hD.schema.2.1 rfl d_D_get_63 rfl rfl (Nat.le_of_ble_eq_true rfl) rfl (fun _ _ h => h.elim) (fun _ _ h => h) (fun t34 M33 ht35 hw => ?_)
  refine x_astore 7 [(7, .ref t34), (6, .int r32), (5, .ref t29), (0, .ref 0), (1, .int x1), (2, .int x2), (3, .int x3), (4, .int x4)] d_D_get_66 (by decide) rfl ?_
  refine x_iload 6 1 d_D_get_68 rfl ?_
  refine x_iconst (v := (-1)) d_D_get_70 (by decide) ?_
  refine x_icmp_eq 88 d_D_get_71 rfl (fun hc => ?_) (fun hc => ?_)
  · have hw := hw.1 hc
    refine x_sub [] [] rfl ?_
    exact t_D_get_88 hA hT hD M33 hw
  · have hw := hw.2 hc
    refine x_aload 5 2 d_D_get_74 rfl ?_
    refine x_iload 6 1 d_D_get_76 rfl ?_
    refine x_iload 4 7 d_D_get_78 rfl ?_
    refine x_aload 7 0 d_D_get_80 rfl ?_
    refine x_callVi (As := [.int r32, .int x4, .ref t34]) (t := t29) (rest := []) (rc := 1) (rs := 6) (c_S_isNothing hA hT ht30 ht35 hw) cw_D_get_S_isNothing_215 ht30.1 ht30.2.1 rfl d_D_get_82 rfl rfl (Nat.le_of_ble_eq_true rfl) rfl (fun _ _ h => h.elim) (fun _ _ h => h) (fun r37 M36 hw => ?_)
    refine x_if_eq 98 d_D_get_85 rfl (fun hc => ?_) (fun hc => ?_)
    · have hw := hw.1 hc
      refine x_aload 5 2 d_D_get_98 rfl ?_
      refine x_iload 6 1 d_D_get_100 rfl ?_
      refine x_iload 4 7 d_D_get_102 rfl ?_
      refine x_aload 7 0 d_D_get_104 rfl ?_
      refine x_callVi (As := [.int r32, .int x4, .ref t34]) (t := t29) (rest := []) (rc := 1) (rs := 6) (c_S_whatIs hA hT ht30 ht35 hw) cw_D_get_S_whatIs_221 ht30.1 ht30.2.1 rfl d_D_get_106 rfl rfl (Nat.le_of_ble_eq_true rfl) rfl (fun _ _ h => h.elim) (fun _ _ h => h) (fun r39 M38 hw => ?_)
      exact x_iret d_D_get_109 rfl (fun _ h => h) ⟨_, rfl, hw⟩
    · have hw := hw.2 hc
      refine x_sub [] [] rfl ?_
      exact t_D_get_88 hA hT hD M36 hw
def k_D_get_13 (Q : Int32 → sdM → Prop) (X : String → sdM → Prop) (M : sdM) : Prop := X "java/lang/IndexOutOfBoundsException" M
set_option maxHeartbeats 1000000 in
theorem t_D_get_13 (hA : sd_ad b n ad) (hT : l.stackTraces = false) (hD : isD n L dA) {Q : Int32 → sdM → Prop} {X : String → sdM → Prop} (M : sdM) (hw : k_D_get_13 Q X M ) : sdW l (sdE0 sc) Y_D_get D (sd_tys dA) b n ad L ad (sd_H D (sdE0 sc).1 n ad L) (sd_qi Q) X 13 [] [] M 3 18 := by
  unfold k_D_get_13 at hw
  exact x_throwS (names := sdExN) (is := 208) (ic := 210) (rc := 2) (rs := 12) hT rfl fit_IOB fit_N (sd_goodB q382) (List.mem_cons_of_mem _ q298) (List.mem_cons_of_mem _ q299) (List.mem_cons_of_mem _ q300) (List.mem_of_getElem? (i := 15) rfl) oa_IOB d_D_get_13 d_D_get_16 (Or.inl ⟨d_D_get_17, rfl⟩) d_D_get_19 d_D_get_22 (by decide) (Nat.le_of_ble_eq_true rfl) rfl rfl (fun _ _ h => h) hw
def w_D_get (M : sdM) (a1 : Int32) (a2 : Int32) (a3 : Int32) (a4 : Int32) (Q : Int32 → sdM → Prop) (X : String → sdM → Prop) : Prop := w_D_requireReady M (fun M40 => (a1 < 0 → k_D_get_13 Q X M40) ∧ (¬ a1 < 0 → (a1 ≤ (4 : Int32) → w_D_requireLeaf M40 a2 a4 (fun M41 => ((3 : Int32) ≤ a1 → k_D_get_40 Q X M41 a1 a2 a3 a4) ∧ (¬ (3 : Int32) ≤ a1 → w_D_requireBegun M41 a1 (fun M42 => k_D_get_40 Q X M42 a1 a2 a3 a4) X)) X) ∧ (¬ a1 ≤ (4 : Int32) → k_D_get_13 Q X M40))) X
set_option maxHeartbeats 1000000 in
theorem c_D_get {a1 : Int32} {a2 : Int32} {a3 : Int32} {a4 : Int32} (hA : sd_ad b n ad) (hT : l.stackTraces = false) (hD : isD n L dA) {Q : Int32 → sdM → Prop} {X : String → sdM → Prop} {M : sdM} (hw : w_D_get M a1 a2 a3 a4 Q X) : sd_Cn l (sdE0 sc) y_D_get Y_D_get.2.2.2.2.1 Y_D_get.2.2.2.2.2.1 4 24 D (sd_tys dA) b n ad L M [.ref 0, .int a1, .int a2, .int a3, .int a4] (sd_qi Q) X := by
  refine sd_enter (Y := Y_D_get) rfl rfl rfl rfl (Nat.le_of_ble_eq_true rfl) ?_
  show sdW l (sdE0 sc) Y_D_get D (sd_tys dA) b n ad L ad (sd_H D (sdE0 sc).1 n ad L) (sd_qi Q) X 0 [(0, .ref 0), (1, .int a1), (2, .int a2), (3, .int a3), (4, .int a4)] [] M 4 24
  unfold w_D_get at hw
  refine x_aload_n 0 0 d_D_get_0 rfl rfl ?_
  refine x_callVv (As := []) (t := 0) (rest := []) (rc := 3) (rs := 18) (c_D_requireReady hA hT hD hw) cw_D_get_D_requireReady_146 hD.1 hD.2.1 rfl d_D_get_1 rfl rfl (Nat.le_of_ble_eq_true rfl) rfl (fun _ _ h => h) (fun _ _ h => h) (fun M40 hw => ?_)
  refine x_iload_n 1 1 d_D_get_4 rfl rfl ?_
  refine x_if_lt 13 d_D_get_5 rfl (fun hc => ?_) (fun hc => ?_)
  · have hw := hw.1 hc
    refine x_sub [] [] rfl ?_
    exact t_D_get_13 hA hT hD M40 hw
  · have hw := hw.2 hc
    refine x_iload_n 1 1 d_D_get_8 rfl rfl ?_
    refine x_iconst (v := 4) d_D_get_9 (by decide) ?_
    refine x_icmp_le 23 d_D_get_10 rfl (fun hc => ?_) (fun hc => ?_)
    · have hw := hw.1 hc
      refine x_aload_n 0 0 d_D_get_23 rfl rfl ?_
      refine x_iload_n 2 2 d_D_get_24 rfl rfl ?_
      refine x_iload 4 4 d_D_get_25 rfl ?_
      refine x_callVv (As := [.int a2, .int a4]) (t := 0) (rest := []) (rc := 2) (rs := 12) (c_D_requireLeaf hA hT hD hw) cw_D_get_D_requireLeaf_100 hD.1 hD.2.1 rfl d_D_get_27 rfl rfl (Nat.le_of_ble_eq_true rfl) rfl (fun _ _ h => h) (fun _ _ h => h) (fun M41 hw => ?_)
      refine x_iload_n 1 1 d_D_get_30 rfl rfl ?_
      refine x_iconst (v := 3) d_D_get_31 (by decide) ?_
      refine x_icmp_ge 40 d_D_get_32 rfl (fun hc => ?_) (fun hc => ?_)
      · have hw := hw.1 hc
        refine x_wide 1 6 (by decide) (by decide) ?_
        exact t_D_get_40 hA hT hD M41 a1 a2 a3 a4 hw
      · have hw := hw.2 hc
        refine x_aload_n 0 0 d_D_get_35 rfl rfl ?_
        refine x_iload_n 1 1 d_D_get_36 rfl rfl ?_
        refine x_callVv (As := [.int a1]) (t := 0) (rest := []) (rc := 1) (rs := 6) (c_D_requireBegun hA hT hD hw) cw_D_get_D_requireBegun_163 hD.1 hD.2.1 rfl d_D_get_37 rfl rfl (Nat.le_of_ble_eq_true rfl) rfl (fun _ _ h => h) (fun _ _ h => h) (fun M42 hw => ?_)
        exact t_D_get_40 hA hT hD M42 a1 a2 a3 a4 hw
    · have hw := hw.2 hc
      refine x_sub [] [] rfl ?_
      exact t_D_get_13 hA hT hD M40 hw
end
abbrev y_D_lock : MethodName := ⟨"SettingsDesk", "lock", "(IZ)Z"⟩
theorem d_D_lock_0 : decode prog_1_method_12_code 0 = .ok (.aload_n 0, 1) := by decide +kernel
theorem d_D_lock_1 : decode prog_1_method_12_code 1 = .ok (.invokevirtual 146, 3) := by decide +kernel
theorem d_D_lock_4 : decode prog_1_method_12_code 4 = .ok (.aload_n 0, 1) := by decide +kernel
theorem d_D_lock_5 : decode prog_1_method_12_code 5 = .ok (.iload_n 1, 1) := by decide +kernel
theorem d_D_lock_6 : decode prog_1_method_12_code 6 = .ok (.invokevirtual 149, 3) := by decide +kernel
theorem d_D_lock_9 : decode prog_1_method_12_code 9 = .ok (.aload_n 0, 1) := by decide +kernel
theorem d_D_lock_10 : decode prog_1_method_12_code 10 = .ok (.iload_n 1, 1) := by decide +kernel
theorem d_D_lock_11 : decode prog_1_method_12_code 11 = .ok (.invokevirtual 163, 3) := by decide +kernel
theorem d_D_lock_14 : decode prog_1_method_12_code 14 = .ok (.iload_n 2, 1) := by decide +kernel
theorem d_D_lock_15 : decode prog_1_method_12_code 15 = .ok (.ifCond .eq (19), 3) := by decide +kernel
theorem d_D_lock_18 : decode prog_1_method_12_code 18 = .ok (.aload_n 0, 1) := by decide +kernel
theorem d_D_lock_19 : decode prog_1_method_12_code 19 = .ok (.getfield 53, 3) := by decide +kernel
theorem d_D_lock_22 : decode prog_1_method_12_code 22 = .ok (.iconst (-1), 1) := by decide +kernel
theorem d_D_lock_23 : decode prog_1_method_12_code 23 = .ok (.if_icmp .ne (11), 3) := by decide +kernel
theorem d_D_lock_26 : decode prog_1_method_12_code 26 = .ok (.aload_n 0, 1) := by decide +kernel
theorem d_D_lock_27 : decode prog_1_method_12_code 27 = .ok (.iload_n 1, 1) := by decide +kernel
theorem d_D_lock_28 : decode prog_1_method_12_code 28 = .ok (.putfield 53, 3) := by decide +kernel
theorem d_D_lock_31 : decode prog_1_method_12_code 31 = .ok (.goto (20), 3) := by decide +kernel
theorem d_D_lock_34 : decode prog_1_method_12_code 34 = .ok (.iload_n 2, 1) := by decide +kernel
theorem d_D_lock_35 : decode prog_1_method_12_code 35 = .ok (.ifCond .ne (16), 3) := by decide +kernel
theorem d_D_lock_38 : decode prog_1_method_12_code 38 = .ok (.aload_n 0, 1) := by decide +kernel
theorem d_D_lock_39 : decode prog_1_method_12_code 39 = .ok (.getfield 53, 3) := by decide +kernel
theorem d_D_lock_42 : decode prog_1_method_12_code 42 = .ok (.iload_n 1, 1) := by decide +kernel
theorem d_D_lock_43 : decode prog_1_method_12_code 43 = .ok (.if_icmp .ne (8), 3) := by decide +kernel
theorem d_D_lock_46 : decode prog_1_method_12_code 46 = .ok (.aload_n 0, 1) := by decide +kernel
theorem d_D_lock_47 : decode prog_1_method_12_code 47 = .ok (.iconst (-1), 1) := by decide +kernel
theorem d_D_lock_48 : decode prog_1_method_12_code 48 = .ok (.putfield 53, 3) := by decide +kernel
theorem d_D_lock_51 : decode prog_1_method_12_code 51 = .ok (.aload_n 0, 1) := by decide +kernel
theorem d_D_lock_52 : decode prog_1_method_12_code 52 = .ok (.getfield 53, 3) := by decide +kernel
theorem d_D_lock_55 : decode prog_1_method_12_code 55 = .ok (.iload_n 1, 1) := by decide +kernel
theorem d_D_lock_56 : decode prog_1_method_12_code 56 = .ok (.if_icmp .ne (7), 3) := by decide +kernel
theorem d_D_lock_59 : decode prog_1_method_12_code 59 = .ok (.iconst 1, 1) := by decide +kernel
theorem d_D_lock_60 : decode prog_1_method_12_code 60 = .ok (.goto (4), 3) := by decide +kernel
theorem d_D_lock_63 : decode prog_1_method_12_code 63 = .ok (.iconst 0, 1) := by decide +kernel
theorem d_D_lock_64 : decode prog_1_method_12_code 64 = .ok (.ireturn, 1) := by decide +kernel
def Y_D_lock : sdY := ("SettingsDesk", prog_1_method_12_code, 3, (some .boolean), .code y_D_lock prog_1_method_12_code 3 (some .boolean) :: sdB0, { frames := 7, cells := 3, slots := 18, locals := 103 }, 3, 18, [])
theorem cw_D_lock_D_requireReady_146 : sd_cwV Y_D_lock Y_D_requireReady y_D_requireReady 146 0 "SettingsDesk" := ⟨sd_goodV q344 q345 q346 q274 q342, ⟨_, rfl⟩, ⟨rfl, rfl, rfl, rfl⟩, ⟨rfl, by decide, by decide, by decide +kernel⟩, ⟨by decide, by decide⟩⟩
theorem cw_D_lock_D_requireSession_149 : sd_cwV Y_D_lock Y_D_requireSession y_D_requireSession 149 1 "SettingsDesk" := ⟨sd_goodV q347 q348 q349 q274 q343, ⟨_, rfl⟩, ⟨rfl, rfl, rfl, rfl⟩, ⟨rfl, by decide, by decide, by decide +kernel⟩, ⟨by decide, by decide⟩⟩
theorem cw_D_lock_D_requireBegun_163 : sd_cwV Y_D_lock Y_D_requireBegun y_D_requireBegun 163 1 "SettingsDesk" := ⟨sd_goodV q365 q366 q367 q274 q359, ⟨_, rfl⟩, ⟨rfl, rfl, rfl, rfl⟩, ⟨rfl, by decide, by decide, by decide +kernel⟩, ⟨by decide, by decide⟩⟩
section
variable {l : Launch} {D : va_G} {dA : Nat → ClassId} {b n : Nat} {ad : Nat → Nat} {L : Nat → sdL} {sc : Option (Nat × Nat × (Nat → Int32))}
def k_D_lock_64 (Q : Int32 → sdM → Prop) (X : String → sdM → Prop) (M : sdM) (s0 : Int32) : Prop := sdB s0 ∧ Q s0 M
set_option maxHeartbeats 1000000 in
theorem t_D_lock_64 (hA : sd_ad b n ad) (hT : l.stackTraces = false) (hD : isD n L dA) {Q : Int32 → sdM → Prop} {X : String → sdM → Prop} (M : sdM) (s0 : Int32) (hw : k_D_lock_64 Q X M s0) : sdW l (sdE0 sc) Y_D_lock D (sd_tys dA) b n ad L ad (sd_H D (sdE0 sc).1 n ad L) (sd_qi Q) X 64 [] [.int s0] M 0 0 := by
  unfold k_D_lock_64 at hw
  exact x_zret d_D_lock_64 rfl (sdB_n hw.1) (fun _ h => h) ⟨_, rfl, hw.2⟩
def k_D_lock_51 (Q : Int32 → sdM → Prop) (X : String → sdM → Prop) (M : sdM) (x1 : Int32) : Prop := (¬ (M 0 9) = x1 → k_D_lock_64 Q X M (0 : Int32)) ∧ ((M 0 9) = x1 → k_D_lock_64 Q X M (1 : Int32))
set_option maxHeartbeats 1000000 in
theorem t_D_lock_51 (hA : sd_ad b n ad) (hT : l.stackTraces = false) (hD : isD n L dA) {Q : Int32 → sdM → Prop} {X : String → sdM → Prop} (M : sdM) (x1 : Int32) (hw : k_D_lock_51 Q X M x1) : sdW l (sdE0 sc) Y_D_lock D (sd_tys dA) b n ad L ad (sd_H D (sdE0 sc).1 n ad L) (sd_qi Q) X 51 [(0, .ref 0), (1, .int x1)] [] M 0 0 := by
  unfold k_D_lock_51 at hw
  refine x_aload_n 0 0 d_D_lock_51 rfl rfl ?_
  refine x_geti 9 d_D_lock_52 hD.1 hD.2.1 rfl rfl (by decide) lay_D (List.mem_cons_of_mem _ q266) rfl ?_
  refine x_iload_n 1 1 d_D_lock_55 rfl rfl ?_
  refine x_icmp_ne 63 d_D_lock_56 rfl (fun hc => ?_) (fun hc => ?_)
  · have hw := hw.1 hc
    refine x_iconst (v := 0) d_D_lock_63 (by decide) ?_
    refine x_sub [] [] rfl ?_
    exact t_D_lock_64 hA hT hD M (0 : Int32) hw
  · have hw := hw.2 hc
    refine x_iconst (v := 1) d_D_lock_59 (by decide) ?_
    refine x_goto 64 d_D_lock_60 rfl ?_
    refine x_sub [] [] rfl ?_
    exact t_D_lock_64 hA hT hD M (1 : Int32) hw
def k_D_lock_34 (Q : Int32 → sdM → Prop) (X : String → sdM → Prop) (M : sdM) (x1 : Int32) (x2 : Int32) : Prop := (¬ x2 = 0 → k_D_lock_51 Q X M x1) ∧ (x2 = 0 → (¬ (M 0 9) = x1 → k_D_lock_51 Q X M x1) ∧ ((M 0 9) = x1 → ∀ M8 : sdM, M8 = sd_s M 0 9 (-1 : Int32) → k_D_lock_51 Q X M8 x1))
set_option maxHeartbeats 1000000 in
theorem t_D_lock_34 (hA : sd_ad b n ad) (hT : l.stackTraces = false) (hD : isD n L dA) {Q : Int32 → sdM → Prop} {X : String → sdM → Prop} (M : sdM) (x1 : Int32) (x2 : Int32) (hw : k_D_lock_34 Q X M x1 x2) : sdW l (sdE0 sc) Y_D_lock D (sd_tys dA) b n ad L ad (sd_H D (sdE0 sc).1 n ad L) (sd_qi Q) X 34 [(0, .ref 0), (1, .int x1), (2, .int x2)] [] M 0 0 := by
  unfold k_D_lock_34 at hw
  refine x_iload_n 2 2 d_D_lock_34 rfl rfl ?_
  refine x_if_ne 51 d_D_lock_35 rfl (fun hc => ?_) (fun hc => ?_)
  · have hw := hw.1 hc
    refine x_sub [0, 1] [(0, .ref 0), (1, .int x1)] rfl ?_
    exact t_D_lock_51 hA hT hD M x1 hw
  · have hw := hw.2 hc
    refine x_aload_n 0 0 d_D_lock_38 rfl rfl ?_
    refine x_geti 9 d_D_lock_39 hD.1 hD.2.1 rfl rfl (by decide) lay_D (List.mem_cons_of_mem _ q266) rfl ?_
    refine x_iload_n 1 1 d_D_lock_42 rfl rfl ?_
    refine x_icmp_ne 51 d_D_lock_43 rfl (fun hc => ?_) (fun hc => ?_)
    · have hw := hw.1 hc
      refine x_sub [0, 1] [(0, .ref 0), (1, .int x1)] rfl ?_
      exact t_D_lock_51 hA hT hD M x1 hw
    · have hw := hw.2 hc
      refine x_aload_n 0 0 d_D_lock_46 rfl rfl ?_
      refine x_iconst (v := (-1)) d_D_lock_47 (by decide) ?_
      refine x_puti 9 (ty := .int) hA d_D_lock_48 hD.1 hD.2.1 rfl rfl (by decide) lay_D (List.mem_cons_of_mem _ q266) rfl ty_D ty_D_ok nm_D rfl (by decide +kernel) rfl rfl (fun M8 e9 => ?_)
      have hw := hw M8 e9
      clear e9
      refine x_sub [0, 1] [(0, .ref 0), (1, .int x1)] rfl ?_
      exact t_D_lock_51 hA hT hD M8 x1 hw
def w_D_lock (M : sdM) (a1 : Int32) (a2 : Int32) (Q : Int32 → sdM → Prop) (X : String → sdM → Prop) : Prop := w_D_requireReady M (fun M10 => w_D_requireSession M10 a1 (fun M11 => w_D_requireBegun M11 a1 (fun M12 => (a2 = 0 → k_D_lock_34 Q X M12 a1 a2) ∧ (¬ a2 = 0 → (¬ (M12 0 9) = (-1 : Int32) → k_D_lock_34 Q X M12 a1 a2) ∧ ((M12 0 9) = (-1 : Int32) → ∀ M13 : sdM, M13 = sd_s M12 0 9 a1 → k_D_lock_51 Q X M13 a1))) X) X) X
set_option maxHeartbeats 1000000 in
theorem c_D_lock {a1 : Int32} {a2 : Int32} (hA : sd_ad b n ad) (hT : l.stackTraces = false) (hD : isD n L dA) {Q : Int32 → sdM → Prop} {X : String → sdM → Prop} {M : sdM} (hw : w_D_lock M a1 a2 Q X) : sd_Cn l (sdE0 sc) y_D_lock Y_D_lock.2.2.2.2.1 Y_D_lock.2.2.2.2.2.1 3 18 D (sd_tys dA) b n ad L M [.ref 0, .int a1, .int a2] (sd_qi Q) X := by
  refine sd_enter (Y := Y_D_lock) rfl rfl rfl rfl (Nat.le_of_ble_eq_true rfl) ?_
  show sdW l (sdE0 sc) Y_D_lock D (sd_tys dA) b n ad L ad (sd_H D (sdE0 sc).1 n ad L) (sd_qi Q) X 0 [(0, .ref 0), (1, .int a1), (2, .int a2)] [] M 3 18
  unfold w_D_lock at hw
  refine x_aload_n 0 0 d_D_lock_0 rfl rfl ?_
  refine x_callVv (As := []) (t := 0) (rest := []) (rc := 2) (rs := 12) (c_D_requireReady hA hT hD hw) cw_D_lock_D_requireReady_146 hD.1 hD.2.1 rfl d_D_lock_1 rfl rfl (Nat.le_of_ble_eq_true rfl) rfl (fun _ _ h => h) (fun _ _ h => h) (fun M10 hw => ?_)
  refine x_aload_n 0 0 d_D_lock_4 rfl rfl ?_
  refine x_iload_n 1 1 d_D_lock_5 rfl rfl ?_
  refine x_callVv (As := [.int a1]) (t := 0) (rest := []) (rc := 1) (rs := 6) (c_D_requireSession hA hT hD hw) cw_D_lock_D_requireSession_149 hD.1 hD.2.1 rfl d_D_lock_6 rfl rfl (Nat.le_of_ble_eq_true rfl) rfl (fun _ _ h => h) (fun _ _ h => h) (fun M11 hw => ?_)
  refine x_aload_n 0 0 d_D_lock_9 rfl rfl ?_
  refine x_iload_n 1 1 d_D_lock_10 rfl rfl ?_
  refine x_callVv (As := [.int a1]) (t := 0) (rest := []) (rc := 0) (rs := 0) (c_D_requireBegun hA hT hD hw) cw_D_lock_D_requireBegun_163 hD.1 hD.2.1 rfl d_D_lock_11 rfl rfl (Nat.le_of_ble_eq_true rfl) rfl (fun _ _ h => h) (fun _ _ h => h) (fun M12 hw => ?_)
  refine x_iload_n 2 2 d_D_lock_14 rfl rfl ?_
  refine x_if_eq 34 d_D_lock_15 rfl (fun hc => ?_) (fun hc => ?_)
  · have hw := hw.1 hc
    exact t_D_lock_34 hA hT hD M12 a1 a2 hw
  · have hw := hw.2 hc
    refine x_aload_n 0 0 d_D_lock_18 rfl rfl ?_
    refine x_geti 9 d_D_lock_19 hD.1 hD.2.1 rfl rfl (by decide) lay_D (List.mem_cons_of_mem _ q266) rfl ?_
    refine x_iconst (v := (-1)) d_D_lock_22 (by decide) ?_
    refine x_icmp_ne 34 d_D_lock_23 rfl (fun hc => ?_) (fun hc => ?_)
    · have hw := hw.1 hc
      exact t_D_lock_34 hA hT hD M12 a1 a2 hw
    · have hw := hw.2 hc
      refine x_aload_n 0 0 d_D_lock_26 rfl rfl ?_
      refine x_iload_n 1 1 d_D_lock_27 rfl rfl ?_
      refine x_puti 9 (ty := .int) hA d_D_lock_28 hD.1 hD.2.1 rfl rfl (by decide) lay_D (List.mem_cons_of_mem _ q266) rfl ty_D ty_D_ok nm_D rfl (by decide +kernel) rfl rfl (fun M13 e14 => ?_)
      have hw := hw M13 e14
      clear e14
      refine x_goto 51 d_D_lock_31 rfl ?_
      refine x_sub [0, 1] [(0, .ref 0), (1, .int a1)] rfl ?_
      exact t_D_lock_51 hA hT hD M13 a1 hw
end
abbrev y_D_confirm : MethodName := ⟨"SettingsDesk", "confirm", "()Z"⟩
theorem d_D_confirm_0 : decode prog_1_method_14_code 0 = .ok (.aload_n 0, 1) := by decide +kernel
theorem d_D_confirm_1 : decode prog_1_method_14_code 1 = .ok (.invokevirtual 146, 3) := by decide +kernel
theorem d_D_confirm_4 : decode prog_1_method_14_code 4 = .ok (.aload_n 0, 1) := by decide +kernel
theorem d_D_confirm_5 : decode prog_1_method_14_code 5 = .ok (.getfield 50, 3) := by decide +kernel
theorem d_D_confirm_8 : decode prog_1_method_14_code 8 = .ok (.ifCond .le (7), 3) := by decide +kernel
theorem d_D_confirm_11 : decode prog_1_method_14_code 11 = .ok (.iconst 1, 1) := by decide +kernel
theorem d_D_confirm_12 : decode prog_1_method_14_code 12 = .ok (.goto (4), 3) := by decide +kernel
theorem d_D_confirm_15 : decode prog_1_method_14_code 15 = .ok (.iconst 0, 1) := by decide +kernel
theorem d_D_confirm_16 : decode prog_1_method_14_code 16 = .ok (.istore_n 1, 1) := by decide +kernel
theorem d_D_confirm_17 : decode prog_1_method_14_code 17 = .ok (.aload_n 0, 1) := by decide +kernel
theorem d_D_confirm_18 : decode prog_1_method_14_code 18 = .ok (.iconst 0, 1) := by decide +kernel
theorem d_D_confirm_19 : decode prog_1_method_14_code 19 = .ok (.putfield 50, 3) := by decide +kernel
theorem d_D_confirm_22 : decode prog_1_method_14_code 22 = .ok (.iload_n 1, 1) := by decide +kernel
theorem d_D_confirm_23 : decode prog_1_method_14_code 23 = .ok (.ireturn, 1) := by decide +kernel
def Y_D_confirm : sdY := ("SettingsDesk", prog_1_method_14_code, 2, (some .boolean), .code y_D_confirm prog_1_method_14_code 2 (some .boolean) :: sdB0, { frames := 7, cells := 1, slots := 6, locals := 102 }, 1, 6, [])
theorem cw_D_confirm_D_requireReady_146 : sd_cwV Y_D_confirm Y_D_requireReady y_D_requireReady 146 0 "SettingsDesk" := ⟨sd_goodV q344 q345 q346 q274 q342, ⟨_, rfl⟩, ⟨rfl, rfl, rfl, rfl⟩, ⟨rfl, by decide, by decide, by decide +kernel⟩, ⟨by decide, by decide⟩⟩
section
variable {l : Launch} {D : va_G} {dA : Nat → ClassId} {b n : Nat} {ad : Nat → Nat} {L : Nat → sdL} {sc : Option (Nat × Nat × (Nat → Int32))}
def k_D_confirm_16 (Q : Int32 → sdM → Prop) (X : String → sdM → Prop) (M : sdM) (s0 : Int32) : Prop := ∀ M4 : sdM, M4 = sd_s M 0 8 (0 : Int32) → sdB s0 ∧ Q s0 M4
set_option maxHeartbeats 1000000 in
theorem t_D_confirm_16 (hA : sd_ad b n ad) (hT : l.stackTraces = false) (hD : isD n L dA) {Q : Int32 → sdM → Prop} {X : String → sdM → Prop} (M : sdM) (s0 : Int32) (hw : k_D_confirm_16 Q X M s0) : sdW l (sdE0 sc) Y_D_confirm D (sd_tys dA) b n ad L ad (sd_H D (sdE0 sc).1 n ad L) (sd_qi Q) X 16 [(0, .ref 0)] [.int s0] M 0 0 := by
  unfold k_D_confirm_16 at hw
  refine x_istore_n 1 [(1, .int s0), (0, .ref 0)] d_D_confirm_16 rfl (by decide) rfl ?_
  refine x_aload_n 0 1 d_D_confirm_17 rfl rfl ?_
  refine x_iconst (v := 0) d_D_confirm_18 (by decide) ?_
  refine x_puti 8 (ty := .int) hA d_D_confirm_19 hD.1 hD.2.1 rfl rfl (by decide) lay_D (List.mem_cons_of_mem _ q267) rfl ty_D ty_D_ok nm_D rfl (by decide +kernel) rfl rfl (fun M4 e5 => ?_)
  have hw := hw M4 e5
  clear e5
  refine x_iload_n 1 0 d_D_confirm_22 rfl rfl ?_
  exact x_zret d_D_confirm_23 rfl (sdB_n hw.1) (fun _ h => h) ⟨_, rfl, hw.2⟩
def w_D_confirm (M : sdM) (Q : Int32 → sdM → Prop) (X : String → sdM → Prop) : Prop := w_D_requireReady M (fun M6 => ((M6 0 8) ≤ 0 → k_D_confirm_16 Q X M6 (0 : Int32)) ∧ (¬ (M6 0 8) ≤ 0 → k_D_confirm_16 Q X M6 (1 : Int32))) X
set_option maxHeartbeats 1000000 in
theorem c_D_confirm (hA : sd_ad b n ad) (hT : l.stackTraces = false) (hD : isD n L dA) {Q : Int32 → sdM → Prop} {X : String → sdM → Prop} {M : sdM} (hw : w_D_confirm M Q X) : sd_Cn l (sdE0 sc) y_D_confirm Y_D_confirm.2.2.2.2.1 Y_D_confirm.2.2.2.2.2.1 1 6 D (sd_tys dA) b n ad L M [.ref 0] (sd_qi Q) X := by
  refine sd_enter (Y := Y_D_confirm) rfl rfl rfl rfl (Nat.le_of_ble_eq_true rfl) ?_
  show sdW l (sdE0 sc) Y_D_confirm D (sd_tys dA) b n ad L ad (sd_H D (sdE0 sc).1 n ad L) (sd_qi Q) X 0 [(0, .ref 0)] [] M 1 6
  unfold w_D_confirm at hw
  refine x_aload_n 0 0 d_D_confirm_0 rfl rfl ?_
  refine x_callVv (As := []) (t := 0) (rest := []) (rc := 0) (rs := 0) (c_D_requireReady hA hT hD hw) cw_D_confirm_D_requireReady_146 hD.1 hD.2.1 rfl d_D_confirm_1 rfl rfl (Nat.le_of_ble_eq_true rfl) rfl (fun _ _ h => h) (fun _ _ h => h) (fun M6 hw => ?_)
  refine x_aload_n 0 0 d_D_confirm_4 rfl rfl ?_
  refine x_geti 8 d_D_confirm_5 hD.1 hD.2.1 rfl rfl (by decide) lay_D (List.mem_cons_of_mem _ q267) rfl ?_
  refine x_if_le 15 d_D_confirm_8 rfl (fun hc => ?_) (fun hc => ?_)
  · have hw := hw.1 hc
    refine x_iconst (v := 0) d_D_confirm_15 (by decide) ?_
    exact t_D_confirm_16 hA hT hD M6 (0 : Int32) hw
  · have hw := hw.2 hc
    refine x_iconst (v := 1) d_D_confirm_11 (by decide) ?_
    refine x_goto 16 d_D_confirm_12 rfl ?_
    exact t_D_confirm_16 hA hT hD M6 (1 : Int32) hw
end
abbrev y_D_olderSet : MethodName := ⟨"SettingsDesk", "olderSet", "(I)LSettingsDesk$Settings;"⟩
theorem d_D_olderSet_0 : decode prog_1_method_32_code 0 = .ok (.aload_n 0, 1) := by decide +kernel
theorem d_D_olderSet_1 : decode prog_1_method_32_code 1 = .ok (.getfield 29, 3) := by decide +kernel
theorem d_D_olderSet_4 : decode prog_1_method_32_code 4 = .ok (.aload_n 0, 1) := by decide +kernel
theorem d_D_olderSet_5 : decode prog_1_method_32_code 5 = .ok (.getfield 46, 3) := by decide +kernel
theorem d_D_olderSet_8 : decode prog_1_method_32_code 8 = .ok (.iload_n 1, 1) := by decide +kernel
theorem d_D_olderSet_9 : decode prog_1_method_32_code 9 = .ok (.isub, 1) := by decide +kernel
theorem d_D_olderSet_10 : decode prog_1_method_32_code 10 = .ok (.bipush (8), 2) := by decide +kernel
theorem d_D_olderSet_12 : decode prog_1_method_32_code 12 = .ok (.invokestatic 317, 3) := by decide +kernel
theorem d_D_olderSet_15 : decode prog_1_method_32_code 15 = .ok (.aaload, 1) := by decide +kernel
theorem d_D_olderSet_16 : decode prog_1_method_32_code 16 = .ok (.areturn, 1) := by decide +kernel
def Y_D_olderSet : sdY := ("SettingsDesk", prog_1_method_32_code, 2, (some (.object "SettingsDesk$Settings")), .code y_D_olderSet prog_1_method_32_code 2 (some (.object "SettingsDesk$Settings")) :: sdB0, { frames := 1, cells := 0, slots := 0, locals := 22 }, 0, 0, [])
theorem cw_D_olderSet_JM_floorMod_317 : sd_cwS Y_D_olderSet Y_JM_floorMod y_JM_floorMod 317 2 := ⟨sd_goodS q260 q262 q58 q261, ⟨_, rfl⟩, ⟨rfl, rfl, rfl, rfl⟩, ⟨by decide, by decide, by decide +kernel⟩, ⟨by decide, by decide⟩⟩
section
variable {l : Launch} {D : va_G} {dA : Nat → ClassId} {b n : Nat} {ad : Nat → Nat} {L : Nat → sdL} {sc : Option (Nat × Nat × (Nat → Int32))}
def w_D_olderSet (M : sdM) (a1 : Int32) (Q : Nat → sdM → Prop) : Prop := w_JM_floorMod M ((M 0 7) - a1) (8 : Int32) (fun r5 M4 => vp_in r5 8 ∧ Q (43 + 5 * r5.toNatClampNeg) M4)
set_option maxHeartbeats 1000000 in
theorem c_D_olderSet {a1 : Int32} (hA : sd_ad b n ad) (hT : l.stackTraces = false) (hD : isD n L dA) {Q : Nat → sdM → Prop} {M : sdM} (hw : w_D_olderSet M a1 Q) : sd_Cn l (sdE0 sc) y_D_olderSet Y_D_olderSet.2.2.2.2.1 Y_D_olderSet.2.2.2.2.2.1 0 0 D (sd_tys dA) b n ad L M [.ref 0, .int a1] (sd_qr (fun t => isS n L dA t) Q) sd_xf := by
  refine sd_enter (Y := Y_D_olderSet) rfl rfl rfl rfl (Nat.le_of_ble_eq_true rfl) ?_
  show sdW l (sdE0 sc) Y_D_olderSet D (sd_tys dA) b n ad L ad (sd_H D (sdE0 sc).1 n ad L) (sd_qr (fun t => isS n L dA t) Q) sd_xf 0 [(0, .ref 0), (1, .int a1)] [] M 0 0
  unfold w_D_olderSet at hw
  refine x_aload_n 0 0 d_D_olderSet_0 rfl rfl ?_
  refine x_getr 4 40 d_D_olderSet_1 hD.1 hD.2.1 rfl rfl (by decide) lay_D (List.mem_cons_of_mem _ q254) rfl ?_
  refine x_aload_n 0 0 d_D_olderSet_4 rfl rfl ?_
  refine x_geti 7 d_D_olderSet_5 hD.1 hD.2.1 rfl rfl (by decide) lay_D (List.mem_cons_of_mem _ q255) rfl ?_
  refine x_iload_n 1 1 d_D_olderSet_8 rfl rfl ?_
  refine x_isub d_D_olderSet_9 ?_
  refine x_bipush (v := 8) d_D_olderSet_10 (by decide) ?_
  refine x_callSi (As := [.int ((M 0 7) - a1), .int (8 : Int32)]) (rest := [.ref 40]) (rc := 0) (rs := 0) (c_JM_floorMod hA hT  hw) cw_D_olderSet_JM_floorMod_317 d_D_olderSet_12 rfl rfl (Nat.le_of_ble_eq_true rfl) rfl (fun _ _ h => h.elim) (fun _ _ h => h) (fun r5 M4 hw => ?_)
  obtain ⟨hi6, hw⟩ := hw
  refine x_aald (43 + 5 * r5.toNatClampNeg) d_D_olderSet_15 hD.older.1 hD.older.2 (t0 := 5) rfl hi6 rfl ?_
  exact x_aret d_D_olderSet_16 rfl rfl (fun _ h => h) ⟨_, rfl, (hD.olderAt hi6), hw⟩
end
theorem q389 : (.methodLink "SettingsDesk" 239 ⟨"SettingsDesk", "olderSet", "(I)LSettingsDesk$Settings;"⟩ : Cond) ∈ sdB0 := sd_tb4 52 rfl rfl
theorem q390 : (.code ⟨"SettingsDesk", "olderSet", "(I)LSettingsDesk$Settings;"⟩ prog_1_method_32_code 2 (some (.object "SettingsDesk$Settings")) : Cond) ∈ sdB0 := sd_tb4 55 rfl rfl
theorem q391 : (.instanceMethod ⟨"SettingsDesk", "olderSet", "(I)LSettingsDesk$Settings;"⟩ : Cond) ∈ sdB0 := sd_tb4 54 rfl rfl
theorem q392 : (.selects "SettingsDesk" ⟨"SettingsDesk", "olderSet", "(I)LSettingsDesk$Settings;"⟩ ⟨"SettingsDesk", "olderSet", "(I)LSettingsDesk$Settings;"⟩ : Cond) ∈ sdB0 := sd_tbp (q := (⟨"SettingsDesk", "olderSet", "(I)LSettingsDesk$Settings;"⟩, 12)) (List.mem_of_getElem? (i := 12) rfl)
abbrev y_D_tick : MethodName := ⟨"SettingsDesk", "tick", "()Z"⟩
theorem d_D_tick_0 : decode prog_1_method_15_code 0 = .ok (.aload_n 0, 1) := by decide +kernel
theorem d_D_tick_1 : decode prog_1_method_15_code 1 = .ok (.invokevirtual 146, 3) := by decide +kernel
theorem d_D_tick_4 : decode prog_1_method_15_code 4 = .ok (.aload_n 0, 1) := by decide +kernel
theorem d_D_tick_5 : decode prog_1_method_15_code 5 = .ok (.getfield 50, 3) := by decide +kernel
theorem d_D_tick_8 : decode prog_1_method_15_code 8 = .ok (.ifCond .ne (5), 3) := by decide +kernel
theorem d_D_tick_11 : decode prog_1_method_15_code 11 = .ok (.iconst 0, 1) := by decide +kernel
theorem d_D_tick_12 : decode prog_1_method_15_code 12 = .ok (.ireturn, 1) := by decide +kernel
theorem d_D_tick_13 : decode prog_1_method_15_code 13 = .ok (.aload_n 0, 1) := by decide +kernel
theorem d_D_tick_14 : decode prog_1_method_15_code 14 = .ok (.dup, 1) := by decide +kernel
theorem d_D_tick_15 : decode prog_1_method_15_code 15 = .ok (.getfield 50, 3) := by decide +kernel
theorem d_D_tick_18 : decode prog_1_method_15_code 18 = .ok (.iconst 1, 1) := by decide +kernel
theorem d_D_tick_19 : decode prog_1_method_15_code 19 = .ok (.isub, 1) := by decide +kernel
theorem d_D_tick_20 : decode prog_1_method_15_code 20 = .ok (.putfield 50, 3) := by decide +kernel
theorem d_D_tick_23 : decode prog_1_method_15_code 23 = .ok (.aload_n 0, 1) := by decide +kernel
theorem d_D_tick_24 : decode prog_1_method_15_code 24 = .ok (.getfield 50, 3) := by decide +kernel
theorem d_D_tick_27 : decode prog_1_method_15_code 27 = .ok (.ifCond .le (5), 3) := by decide +kernel
theorem d_D_tick_30 : decode prog_1_method_15_code 30 = .ok (.iconst 0, 1) := by decide +kernel
theorem d_D_tick_31 : decode prog_1_method_15_code 31 = .ok (.ireturn, 1) := by decide +kernel
theorem d_D_tick_32 : decode prog_1_method_15_code 32 = .ok (.aload_n 0, 1) := by decide +kernel
theorem d_D_tick_33 : decode prog_1_method_15_code 33 = .ok (.aload_n 0, 1) := by decide +kernel
theorem d_D_tick_34 : decode prog_1_method_15_code 34 = .ok (.iconst 1, 1) := by decide +kernel
theorem d_D_tick_35 : decode prog_1_method_15_code 35 = .ok (.invokevirtual 239, 3) := by decide +kernel
theorem d_D_tick_38 : decode prog_1_method_15_code 38 = .ok (.invokevirtual 235, 3) := by decide +kernel
theorem d_D_tick_41 : decode prog_1_method_15_code 41 = .ok (.ireturn, 1) := by decide +kernel
def Y_D_tick : sdY := ("SettingsDesk", prog_1_method_15_code, 1, (some .boolean), .code y_D_tick prog_1_method_15_code 1 (some .boolean) :: sdB0, { frames := 7, cells := 1, slots := 6, locals := 136 }, 1, 6, [])
theorem cw_D_tick_D_requireReady_146 : sd_cwV Y_D_tick Y_D_requireReady y_D_requireReady 146 0 "SettingsDesk" := ⟨sd_goodV q344 q345 q346 q274 q342, ⟨_, rfl⟩, ⟨rfl, rfl, rfl, rfl⟩, ⟨rfl, by decide, by decide, by decide +kernel⟩, ⟨by decide, by decide⟩⟩
theorem cw_D_tick_D_olderSet_239 : sd_cwV Y_D_tick Y_D_olderSet y_D_olderSet 239 1 "SettingsDesk" := ⟨sd_goodV q389 q391 q392 q274 q390, ⟨_, rfl⟩, ⟨rfl, rfl, rfl, rfl⟩, ⟨rfl, by decide, by decide, by decide +kernel⟩, ⟨by decide, by decide⟩⟩
theorem cw_D_tick_D_changeTo_235 : sd_cwV Y_D_tick Y_D_changeTo y_D_changeTo 235 1 "SettingsDesk" := ⟨sd_goodV q270 q272 q273 q274 q271, ⟨_, rfl⟩, ⟨rfl, rfl, rfl, rfl⟩, ⟨rfl, by decide, by decide, by decide +kernel⟩, ⟨by decide, by decide⟩⟩
section
variable {l : Launch} {D : va_G} {dA : Nat → ClassId} {b n : Nat} {ad : Nat → Nat} {L : Nat → sdL} {sc : Option (Nat × Nat × (Nat → Int32))}
def w_D_tick (M : sdM) (Q : Int32 → sdM → Prop) (X : String → sdM → Prop) : Prop := w_D_requireReady M (fun M9 => (¬ (M9 0 8) = 0 → ∀ M10 : sdM, M10 = sd_s M9 0 8 ((M9 0 8) - (1 : Int32)) → ((M10 0 8) ≤ 0 → w_D_olderSet M10 (1 : Int32) (fun t13 M12 => w_D_changeTo M12 t13 (fun r16 M15 => sdB r16 ∧ Q r16 M15))) ∧ (¬ (M10 0 8) ≤ 0 → sdB (0 : Int32) ∧ Q (0 : Int32) M10)) ∧ ((M9 0 8) = 0 → sdB (0 : Int32) ∧ Q (0 : Int32) M9)) X
set_option maxHeartbeats 1000000 in
theorem c_D_tick (hA : sd_ad b n ad) (hT : l.stackTraces = false) (hD : isD n L dA) {Q : Int32 → sdM → Prop} {X : String → sdM → Prop} {M : sdM} (hw : w_D_tick M Q X) : sd_Cn l (sdE0 sc) y_D_tick Y_D_tick.2.2.2.2.1 Y_D_tick.2.2.2.2.2.1 1 6 D (sd_tys dA) b n ad L M [.ref 0] (sd_qi Q) X := by
  refine sd_enter (Y := Y_D_tick) rfl rfl rfl rfl (Nat.le_of_ble_eq_true rfl) ?_
  show sdW l (sdE0 sc) Y_D_tick D (sd_tys dA) b n ad L ad (sd_H D (sdE0 sc).1 n ad L) (sd_qi Q) X 0 [(0, .ref 0)] [] M 1 6
  unfold w_D_tick at hw
  refine x_aload_n 0 0 d_D_tick_0 rfl rfl ?_
  refine x_callVv (As := []) (t := 0) (rest := []) (rc := 0) (rs := 0) (c_D_requireReady hA hT hD hw) cw_D_tick_D_requireReady_146 hD.1 hD.2.1 rfl d_D_tick_1 rfl rfl (Nat.le_of_ble_eq_true rfl) rfl (fun _ _ h => h) (fun _ _ h => h) (fun M9 hw => ?_)
  refine x_aload_n 0 0 d_D_tick_4 rfl rfl ?_
  refine x_geti 8 d_D_tick_5 hD.1 hD.2.1 rfl rfl (by decide) lay_D (List.mem_cons_of_mem _ q267) rfl ?_
  refine x_if_ne 13 d_D_tick_8 rfl (fun hc => ?_) (fun hc => ?_)
  · have hw := hw.1 hc
    refine x_aload_n 0 0 d_D_tick_13 rfl rfl ?_
    refine x_dup d_D_tick_14 rfl ?_
    refine x_geti 8 d_D_tick_15 hD.1 hD.2.1 rfl rfl (by decide) lay_D (List.mem_cons_of_mem _ q267) rfl ?_
    refine x_iconst (v := 1) d_D_tick_18 (by decide) ?_
    refine x_isub d_D_tick_19 ?_
    refine x_puti 8 (ty := .int) hA d_D_tick_20 hD.1 hD.2.1 rfl rfl (by decide) lay_D (List.mem_cons_of_mem _ q267) rfl ty_D ty_D_ok nm_D rfl (by decide +kernel) rfl rfl (fun M10 e11 => ?_)
    have hw := hw M10 e11
    clear e11
    refine x_aload_n 0 0 d_D_tick_23 rfl rfl ?_
    refine x_geti 8 d_D_tick_24 hD.1 hD.2.1 rfl rfl (by decide) lay_D (List.mem_cons_of_mem _ q267) rfl ?_
    refine x_if_le 32 d_D_tick_27 rfl (fun hc => ?_) (fun hc => ?_)
    · have hw := hw.1 hc
      refine x_aload_n 0 0 d_D_tick_32 rfl rfl ?_
      refine x_aload_n 0 0 d_D_tick_33 rfl rfl ?_
      refine x_iconst (v := 1) d_D_tick_34 (by decide) ?_
      refine x_callVr (As := [.int (1 : Int32)]) (t := 0) (rest := [.ref 0]) (rc := 0) (rs := 0) (c_D_olderSet hA hT hD hw) cw_D_tick_D_olderSet_239 hD.1 hD.2.1 rfl d_D_tick_35 rfl rfl (Nat.le_of_ble_eq_true rfl) rfl (fun _ _ h => h.elim) (fun _ _ h => h) (fun t13 M12 ht14 hw => ?_)
      refine x_callVi (As := [.ref t13]) (t := 0) (rest := []) (rc := 0) (rs := 0) (c_D_changeTo hA hT hD ht14 hw) cw_D_tick_D_changeTo_235 hD.1 hD.2.1 rfl d_D_tick_38 rfl rfl (Nat.le_of_ble_eq_true rfl) rfl (fun _ _ h => h.elim) (fun _ _ h => h) (fun r16 M15 hw => ?_)
      exact x_zret d_D_tick_41 rfl (sdB_n hw.1) (fun _ h => h) ⟨_, rfl, hw.2⟩
    · have hw := hw.2 hc
      refine x_iconst (v := 0) d_D_tick_30 (by decide) ?_
      exact x_zret d_D_tick_31 rfl (sdB_n hw.1) (fun _ h => h) ⟨_, rfl, hw.2⟩
  · have hw := hw.2 hc
    refine x_iconst (v := 0) d_D_tick_11 (by decide) ?_
    exact x_zret d_D_tick_12 rfl (sdB_n hw.1) (fun _ h => h) ⟨_, rfl, hw.2⟩
end
theorem q393 : (.code ⟨"SettingsDesk", "rollback", "(II)I"⟩ prog_1_method_16_code 3 (some .int) : Cond) ∈ sdB0 := sd_tb4 62 rfl rfl
abbrev y_D_rollback : MethodName := ⟨"SettingsDesk", "rollback", "(II)I"⟩
theorem d_D_rollback_0 : decode prog_1_method_16_code 0 = .ok (.aload_n 0, 1) := by decide +kernel
theorem d_D_rollback_1 : decode prog_1_method_16_code 1 = .ok (.invokevirtual 146, 3) := by decide +kernel
theorem d_D_rollback_4 : decode prog_1_method_16_code 4 = .ok (.aload_n 0, 1) := by decide +kernel
theorem d_D_rollback_5 : decode prog_1_method_16_code 5 = .ok (.iload_n 1, 1) := by decide +kernel
theorem d_D_rollback_6 : decode prog_1_method_16_code 6 = .ok (.invokevirtual 149, 3) := by decide +kernel
theorem d_D_rollback_9 : decode prog_1_method_16_code 9 = .ok (.aload_n 0, 1) := by decide +kernel
theorem d_D_rollback_10 : decode prog_1_method_16_code 10 = .ok (.iload_n 1, 1) := by decide +kernel
theorem d_D_rollback_11 : decode prog_1_method_16_code 11 = .ok (.invokevirtual 163, 3) := by decide +kernel
theorem d_D_rollback_14 : decode prog_1_method_16_code 14 = .ok (.iload_n 2, 1) := by decide +kernel
theorem d_D_rollback_15 : decode prog_1_method_16_code 15 = .ok (.ifCond .lt (11), 3) := by decide +kernel
theorem d_D_rollback_18 : decode prog_1_method_16_code 18 = .ok (.iload_n 2, 1) := by decide +kernel
theorem d_D_rollback_19 : decode prog_1_method_16_code 19 = .ok (.aload_n 0, 1) := by decide +kernel
theorem d_D_rollback_20 : decode prog_1_method_16_code 20 = .ok (.invokevirtual 242, 3) := by decide +kernel
theorem d_D_rollback_23 : decode prog_1_method_16_code 23 = .ok (.if_icmp .le (13), 3) := by decide +kernel
theorem d_D_rollback_26 : decode prog_1_method_16_code 26 = .ok (.new 91, 3) := by decide +kernel
theorem d_D_rollback_29 : decode prog_1_method_16_code 29 = .ok (.dup, 1) := by decide +kernel
theorem d_D_rollback_30 : decode prog_1_method_16_code 30 = .ok (.ldc 245, 2) := by decide +kernel
theorem d_D_rollback_32 : decode prog_1_method_16_code 32 = .ok (.invokespecial 95, 3) := by decide +kernel
theorem d_D_rollback_35 : decode prog_1_method_16_code 35 = .ok (.athrow, 1) := by decide +kernel
theorem d_D_rollback_36 : decode prog_1_method_16_code 36 = .ok (.aload_n 0, 1) := by decide +kernel
theorem d_D_rollback_37 : decode prog_1_method_16_code 37 = .ok (.getfield 35, 3) := by decide +kernel
theorem d_D_rollback_40 : decode prog_1_method_16_code 40 = .ok (.iload_n 1, 1) := by decide +kernel
theorem d_D_rollback_41 : decode prog_1_method_16_code 41 = .ok (.aaload, 1) := by decide +kernel
theorem d_D_rollback_42 : decode prog_1_method_16_code 42 = .ok (.iload_n 2, 1) := by decide +kernel
theorem d_D_rollback_43 : decode prog_1_method_16_code 43 = .ok (.ifCond .ne (10), 3) := by decide +kernel
theorem d_D_rollback_46 : decode prog_1_method_16_code 46 = .ok (.aload_n 0, 1) := by decide +kernel
theorem d_D_rollback_47 : decode prog_1_method_16_code 47 = .ok (.getfield 19, 3) := by decide +kernel
theorem d_D_rollback_50 : decode prog_1_method_16_code 50 = .ok (.goto (8), 3) := by decide +kernel
theorem d_D_rollback_53 : decode prog_1_method_16_code 53 = .ok (.aload_n 0, 1) := by decide +kernel
theorem d_D_rollback_54 : decode prog_1_method_16_code 54 = .ok (.iload_n 2, 1) := by decide +kernel
theorem d_D_rollback_55 : decode prog_1_method_16_code 55 = .ok (.invokevirtual 239, 3) := by decide +kernel
theorem d_D_rollback_58 : decode prog_1_method_16_code 58 = .ok (.aload_n 0, 1) := by decide +kernel
theorem d_D_rollback_59 : decode prog_1_method_16_code 59 = .ok (.getfield 19, 3) := by decide +kernel
theorem d_D_rollback_62 : decode prog_1_method_16_code 62 = .ok (.invokevirtual 155, 3) := by decide +kernel
theorem d_D_rollback_65 : decode prog_1_method_16_code 65 = .ok (.aload_n 0, 1) := by decide +kernel
theorem d_D_rollback_66 : decode prog_1_method_16_code 66 = .ok (.invokevirtual 242, 3) := by decide +kernel
theorem d_D_rollback_69 : decode prog_1_method_16_code 69 = .ok (.ireturn, 1) := by decide +kernel
def Y_D_rollback : sdY := ("SettingsDesk", prog_1_method_16_code, 3, (some .int), .code y_D_rollback prog_1_method_16_code 3 (some .int) :: sdB0, { frames := 7, cells := 4, slots := 24, locals := 103 }, 4, 24, [])
theorem cw_D_rollback_D_requireReady_146 : sd_cwV Y_D_rollback Y_D_requireReady y_D_requireReady 146 0 "SettingsDesk" := ⟨sd_goodV q344 q345 q346 q274 q342, ⟨_, rfl⟩, ⟨rfl, rfl, rfl, rfl⟩, ⟨rfl, by decide, by decide, by decide +kernel⟩, ⟨by decide, by decide⟩⟩
theorem cw_D_rollback_D_requireSession_149 : sd_cwV Y_D_rollback Y_D_requireSession y_D_requireSession 149 1 "SettingsDesk" := ⟨sd_goodV q347 q348 q349 q274 q343, ⟨_, rfl⟩, ⟨rfl, rfl, rfl, rfl⟩, ⟨rfl, by decide, by decide, by decide +kernel⟩, ⟨by decide, by decide⟩⟩
theorem cw_D_rollback_D_requireBegun_163 : sd_cwV Y_D_rollback Y_D_requireBegun y_D_requireBegun 163 1 "SettingsDesk" := ⟨sd_goodV q365 q366 q367 q274 q359, ⟨_, rfl⟩, ⟨rfl, rfl, rfl, rfl⟩, ⟨rfl, by decide, by decide, by decide +kernel⟩, ⟨by decide, by decide⟩⟩
theorem cw_D_rollback_D_olderCount_242 : sd_cwV Y_D_rollback Y_D_olderCount y_D_olderCount 242 0 "SettingsDesk" := ⟨sd_goodV q284 q286 q287 q274 q285, ⟨_, rfl⟩, ⟨rfl, rfl, rfl, rfl⟩, ⟨rfl, by decide, by decide, by decide +kernel⟩, ⟨by decide, by decide⟩⟩
theorem cw_D_rollback_D_olderSet_239 : sd_cwV Y_D_rollback Y_D_olderSet y_D_olderSet 239 1 "SettingsDesk" := ⟨sd_goodV q389 q391 q392 q274 q390, ⟨_, rfl⟩, ⟨rfl, rfl, rfl, rfl⟩, ⟨rfl, by decide, by decide, by decide +kernel⟩, ⟨by decide, by decide⟩⟩
theorem cw_D_rollback_N_takeOver_155 : sd_cwV Y_D_rollback Y_N_takeOver y_N_takeOver 155 2 "SettingsDesk$Session" := ⟨sd_goodV q350 q352 q353 q354 q351, ⟨_, rfl⟩, ⟨rfl, rfl, rfl, rfl⟩, ⟨rfl, by decide, by decide, by decide +kernel⟩, ⟨by decide, by decide⟩⟩
section
variable {l : Launch} {D : va_G} {dA : Nat → ClassId} {b n : Nat} {ad : Nat → Nat} {L : Nat → sdL} {sc : Option (Nat × Nat × (Nat → Int32))}
def k_D_rollback_58 (Q : Int32 → sdM → Prop) (X : String → sdM → Prop) (M : sdM) (u0 : Nat) (u1 : Nat) : Prop := w_N_takeOver u0 M u1 25 (fun M13 => w_D_olderCount M13 (fun r15 M14 => Q r15 M14))
set_option maxHeartbeats 1000000 in
theorem t_D_rollback_58 (hA : sd_ad b n ad) (hT : l.stackTraces = false) (hD : isD n L dA) {Q : Int32 → sdM → Prop} {X : String → sdM → Prop} (M : sdM) (u0 : Nat) (u1 : Nat) (hu0 : isN n L dA u0) (hu1 : isS n L dA u1) (hw : k_D_rollback_58 Q X M u0 u1) : sdW l (sdE0 sc) Y_D_rollback D (sd_tys dA) b n ad L ad (sd_H D (sdE0 sc).1 n ad L) (sd_qi Q) X 58 [(0, .ref 0)] [.ref u1, .ref u0] M 1 6 := by
  unfold k_D_rollback_58 at hw
  refine x_aload_n 0 0 d_D_rollback_58 rfl rfl ?_
  refine x_getr 1 25 d_D_rollback_59 hD.1 hD.2.1 rfl rfl (by decide) lay_D (List.mem_cons_of_mem _ q253) rfl ?_
  refine x_callVv (As := [.ref u1, .ref 25]) (t := u0) (rest := []) (rc := 1) (rs := 6) (c_N_takeOver hA hT hu0 hu1 hD.running hw) cw_D_rollback_N_takeOver_155 hu0.1 hu0.2.1 rfl d_D_rollback_62 rfl rfl (Nat.le_of_ble_eq_true rfl) rfl (fun _ _ h => h.elim) (fun _ _ h => h) (fun M13 hw => ?_)
  refine x_aload_n 0 0 d_D_rollback_65 rfl rfl ?_
  refine x_callVi (As := []) (t := 0) (rest := []) (rc := 1) (rs := 6) (c_D_olderCount hA hT hD hw) cw_D_rollback_D_olderCount_242 hD.1 hD.2.1 rfl d_D_rollback_66 rfl rfl (Nat.le_of_ble_eq_true rfl) rfl (fun _ _ h => h.elim) (fun _ _ h => h) (fun r15 M14 hw => ?_)
  exact x_iret d_D_rollback_69 rfl (fun _ h => h) ⟨_, rfl, hw⟩
def k_D_rollback_26 (Q : Int32 → sdM → Prop) (X : String → sdM → Prop) (M : sdM) : Prop := X "java/lang/IllegalArgumentException" M
set_option maxHeartbeats 1000000 in
theorem t_D_rollback_26 (hA : sd_ad b n ad) (hT : l.stackTraces = false) (hD : isD n L dA) {Q : Int32 → sdM → Prop} {X : String → sdM → Prop} (M : sdM) (hw : k_D_rollback_26 Q X M ) : sdW l (sdE0 sc) Y_D_rollback D (sd_tys dA) b n ad L ad (sd_H D (sdE0 sc).1 n ad L) (sd_qi Q) X 26 [] [] M 1 6 := by
  unfold k_D_rollback_26 at hw
  exact x_throwS (names := sdExN) (is := 245) (ic := 95) (rc := 0) (rs := 0) hT rfl fit_IAE fit_N (sd_goodB q393) (List.mem_cons_of_mem _ q304) (List.mem_cons_of_mem _ q305) (List.mem_cons_of_mem _ q306) (List.mem_of_getElem? (i := 18) rfl) oa_IAE d_D_rollback_26 d_D_rollback_29 (Or.inl ⟨d_D_rollback_30, rfl⟩) d_D_rollback_32 d_D_rollback_35 (by decide) (Nat.le_of_ble_eq_true rfl) rfl rfl (fun _ _ h => h) hw
def w_D_rollback (M : sdM) (a1 : Int32) (a2 : Int32) (Q : Int32 → sdM → Prop) (X : String → sdM → Prop) : Prop := w_D_requireReady M (fun M16 => w_D_requireSession M16 a1 (fun M17 => w_D_requireBegun M17 a1 (fun M18 => (a2 < 0 → k_D_rollback_26 Q X M18) ∧ (¬ a2 < 0 → w_D_olderCount M18 (fun r20 M19 => (a2 ≤ r20 → vp_in a1 3 ∧ (¬ a2 = 0 → w_D_olderSet M19 a2 (fun t23 M22 => k_D_rollback_58 Q X M22 (83 + 11 * a1.toNatClampNeg) t23)) ∧ (a2 = 0 → k_D_rollback_58 Q X M19 (83 + 11 * a1.toNatClampNeg) 25)) ∧ (¬ a2 ≤ r20 → k_D_rollback_26 Q X M19)))) X) X) X
set_option maxHeartbeats 1000000 in
theorem c_D_rollback {a1 : Int32} {a2 : Int32} (hA : sd_ad b n ad) (hT : l.stackTraces = false) (hD : isD n L dA) {Q : Int32 → sdM → Prop} {X : String → sdM → Prop} {M : sdM} (hw : w_D_rollback M a1 a2 Q X) : sd_Cn l (sdE0 sc) y_D_rollback Y_D_rollback.2.2.2.2.1 Y_D_rollback.2.2.2.2.2.1 4 24 D (sd_tys dA) b n ad L M [.ref 0, .int a1, .int a2] (sd_qi Q) X := by
  refine sd_enter (Y := Y_D_rollback) rfl rfl rfl rfl (Nat.le_of_ble_eq_true rfl) ?_
  show sdW l (sdE0 sc) Y_D_rollback D (sd_tys dA) b n ad L ad (sd_H D (sdE0 sc).1 n ad L) (sd_qi Q) X 0 [(0, .ref 0), (1, .int a1), (2, .int a2)] [] M 4 24
  unfold w_D_rollback at hw
  refine x_aload_n 0 0 d_D_rollback_0 rfl rfl ?_
  refine x_callVv (As := []) (t := 0) (rest := []) (rc := 3) (rs := 18) (c_D_requireReady hA hT hD hw) cw_D_rollback_D_requireReady_146 hD.1 hD.2.1 rfl d_D_rollback_1 rfl rfl (Nat.le_of_ble_eq_true rfl) rfl (fun _ _ h => h) (fun _ _ h => h) (fun M16 hw => ?_)
  refine x_aload_n 0 0 d_D_rollback_4 rfl rfl ?_
  refine x_iload_n 1 1 d_D_rollback_5 rfl rfl ?_
  refine x_callVv (As := [.int a1]) (t := 0) (rest := []) (rc := 2) (rs := 12) (c_D_requireSession hA hT hD hw) cw_D_rollback_D_requireSession_149 hD.1 hD.2.1 rfl d_D_rollback_6 rfl rfl (Nat.le_of_ble_eq_true rfl) rfl (fun _ _ h => h) (fun _ _ h => h) (fun M17 hw => ?_)
  refine x_aload_n 0 0 d_D_rollback_9 rfl rfl ?_
  refine x_iload_n 1 1 d_D_rollback_10 rfl rfl ?_
  refine x_callVv (As := [.int a1]) (t := 0) (rest := []) (rc := 1) (rs := 6) (c_D_requireBegun hA hT hD hw) cw_D_rollback_D_requireBegun_163 hD.1 hD.2.1 rfl d_D_rollback_11 rfl rfl (Nat.le_of_ble_eq_true rfl) rfl (fun _ _ h => h) (fun _ _ h => h) (fun M18 hw => ?_)
  refine x_iload_n 2 2 d_D_rollback_14 rfl rfl ?_
  refine x_if_lt 26 d_D_rollback_15 rfl (fun hc => ?_) (fun hc => ?_)
  · have hw := hw.1 hc
    refine x_sub [] [] rfl ?_
    exact t_D_rollback_26 hA hT hD M18 hw
  · have hw := hw.2 hc
    refine x_iload_n 2 2 d_D_rollback_18 rfl rfl ?_
    refine x_aload_n 0 0 d_D_rollback_19 rfl rfl ?_
    refine x_callVi (As := []) (t := 0) (rest := [.int a2]) (rc := 1) (rs := 6) (c_D_olderCount hA hT hD hw) cw_D_rollback_D_olderCount_242 hD.1 hD.2.1 rfl d_D_rollback_20 rfl rfl (Nat.le_of_ble_eq_true rfl) rfl (fun _ _ h => h.elim) (fun _ _ h => h) (fun r20 M19 hw => ?_)
    refine x_icmp_le 36 d_D_rollback_23 rfl (fun hc => ?_) (fun hc => ?_)
    · have hw := hw.1 hc
      refine x_aload_n 0 0 d_D_rollback_36 rfl rfl ?_
      refine x_getr 5 41 d_D_rollback_37 hD.1 hD.2.1 rfl rfl (by decide) lay_D (List.mem_cons_of_mem _ q268) rfl ?_
      refine x_iload_n 1 1 d_D_rollback_40 rfl rfl ?_
      obtain ⟨hi21, hw⟩ := hw
      refine x_aald (83 + 11 * a1.toNatClampNeg) d_D_rollback_41 hD.sessions.1 hD.sessions.2 (t0 := 6) rfl hi21 rfl ?_
      refine x_iload_n 2 2 d_D_rollback_42 rfl rfl ?_
      refine x_if_ne 53 d_D_rollback_43 rfl (fun hc => ?_) (fun hc => ?_)
      · have hw := hw.1 hc
        refine x_aload_n 0 0 d_D_rollback_53 rfl rfl ?_
        refine x_iload_n 2 2 d_D_rollback_54 rfl rfl ?_
        refine x_callVr (As := [.int a2]) (t := 0) (rest := [.ref (83 + 11 * a1.toNatClampNeg)]) (rc := 1) (rs := 6) (c_D_olderSet hA hT hD hw) cw_D_rollback_D_olderSet_239 hD.1 hD.2.1 rfl d_D_rollback_55 rfl rfl (Nat.le_of_ble_eq_true rfl) rfl (fun _ _ h => h.elim) (fun _ _ h => h) (fun t23 M22 ht24 hw => ?_)
        refine x_sub [0] [(0, .ref 0)] rfl ?_
        exact t_D_rollback_58 hA hT hD M22 (83 + 11 * a1.toNatClampNeg) t23 (hD.sessionsAt hi21) ht24 hw
      · have hw := hw.2 hc
        refine x_aload_n 0 0 d_D_rollback_46 rfl rfl ?_
        refine x_getr 1 25 d_D_rollback_47 hD.1 hD.2.1 rfl rfl (by decide) lay_D (List.mem_cons_of_mem _ q253) rfl ?_
        refine x_goto 58 d_D_rollback_50 rfl ?_
        refine x_sub [0] [(0, .ref 0)] rfl ?_
        exact t_D_rollback_58 hA hT hD M19 (83 + 11 * a1.toNatClampNeg) 25 (hD.sessionsAt hi21) hD.running hw
    · have hw := hw.2 hc
      refine x_sub [] [] rfl ?_
      exact t_D_rollback_26 hA hT hD M19 hw
end
theorem q394 : (.fieldLink "SettingsDesk" 60 "SettingsDesk" "pagesToFailure" "I" : Cond) ∈ sdB0 := sd_tb1 211 rfl rfl
abbrev y_D_failPower : MethodName := ⟨"SettingsDesk", "failPower", "()V"⟩
theorem d_D_failPower_0 : decode prog_1_method_35_code 0 = .ok (.aload_n 0, 1) := by decide +kernel
theorem d_D_failPower_1 : decode prog_1_method_35_code 1 = .ok (.iconst 1, 1) := by decide +kernel
theorem d_D_failPower_2 : decode prog_1_method_35_code 2 = .ok (.putfield 56, 3) := by decide +kernel
theorem d_D_failPower_5 : decode prog_1_method_35_code 5 = .ok (.aload_n 0, 1) := by decide +kernel
theorem d_D_failPower_6 : decode prog_1_method_35_code 6 = .ok (.iconst (-1), 1) := by decide +kernel
theorem d_D_failPower_7 : decode prog_1_method_35_code 7 = .ok (.putfield 60, 3) := by decide +kernel
theorem d_D_failPower_10 : decode prog_1_method_35_code 10 = .ok (.return_, 1) := by decide +kernel
def Y_D_failPower : sdY := ("SettingsDesk", prog_1_method_35_code, 1, none, .code y_D_failPower prog_1_method_35_code 1 none :: sdB0, { frames := 0, cells := 0, slots := 0, locals := 0 }, 0, 0, [])
section
variable {l : Launch} {D : va_G} {dA : Nat → ClassId} {b n : Nat} {ad : Nat → Nat} {L : Nat → sdL} {sc : Option (Nat × Nat × (Nat → Int32))}
def w_D_failPower (M : sdM) (Q : sdM → Prop) : Prop := sdB (1 : Int32) ∧ ∀ M6 : sdM, M6 = sd_s M 0 10 (1 : Int32) → ∀ M9 : sdM, M9 = sd_s M6 0 11 (-1 : Int32) → Q M9
set_option maxHeartbeats 1000000 in
theorem c_D_failPower (hA : sd_ad b n ad) (hT : l.stackTraces = false) (hD : isD n L dA) {Q : sdM → Prop} {M : sdM} (hw : w_D_failPower M Q) : sd_Cn l (sdE0 sc) y_D_failPower Y_D_failPower.2.2.2.2.1 Y_D_failPower.2.2.2.2.2.1 0 0 D (sd_tys dA) b n ad L M [.ref 0] (sd_qv Q) sd_xf := by
  refine sd_enter (Y := Y_D_failPower) rfl rfl rfl rfl (Nat.le_of_ble_eq_true rfl) ?_
  show sdW l (sdE0 sc) Y_D_failPower D (sd_tys dA) b n ad L ad (sd_H D (sdE0 sc).1 n ad L) (sd_qv Q) sd_xf 0 [(0, .ref 0)] [] M 0 0
  unfold w_D_failPower at hw
  refine x_aload_n 0 0 d_D_failPower_0 rfl rfl ?_
  refine x_iconst (v := 1) d_D_failPower_1 (by decide) ?_
  obtain ⟨hb8, hw⟩ := hw
  refine x_puti 10 (ty := .boolean) hA d_D_failPower_2 hD.1 hD.2.1 rfl rfl (by decide) lay_D (List.mem_cons_of_mem _ q264) rfl ty_D ty_D_ok nm_D rfl (by decide +kernel) (sdB_n hb8) (sdB_f hb8) (fun M6 e7 => ?_)
  have hw := hw M6 e7
  clear e7
  refine x_aload_n 0 0 d_D_failPower_5 rfl rfl ?_
  refine x_iconst (v := (-1)) d_D_failPower_6 (by decide) ?_
  refine x_puti 11 (ty := .int) hA d_D_failPower_7 hD.1 hD.2.1 rfl rfl (by decide) lay_D (List.mem_cons_of_mem _ q394) rfl ty_D ty_D_ok nm_D rfl (by decide +kernel) rfl rfl (fun M9 e10 => ?_)
  have hw := hw M9 e10
  clear e10
  exact x_vret d_D_failPower_10 rfl (fun _ h => h) ⟨rfl, hw⟩
end
theorem q395 : (.methodLink "SettingsDesk" 281 ⟨"SettingsDesk", "failPower", "()V"⟩ : Cond) ∈ sdB0 := sd_tb4 141 rfl rfl
theorem q396 : (.code ⟨"SettingsDesk", "failPower", "()V"⟩ prog_1_method_35_code 1 none : Cond) ∈ sdB0 := sd_tb4 144 rfl rfl
theorem q397 : (.instanceMethod ⟨"SettingsDesk", "failPower", "()V"⟩ : Cond) ∈ sdB0 := sd_tb4 143 rfl rfl
theorem q398 : (.selects "SettingsDesk" ⟨"SettingsDesk", "failPower", "()V"⟩ ⟨"SettingsDesk", "failPower", "()V"⟩ : Cond) ∈ sdB0 := sd_tbp (q := (⟨"SettingsDesk", "failPower", "()V"⟩, 12)) (List.mem_of_getElem? (i := 14) rfl)
abbrev y_D_writePages : MethodName := ⟨"SettingsDesk", "writePages", "(I)Z"⟩
theorem d_D_writePages_0 : decode prog_1_method_34_code 0 = .ok (.aload_n 0, 1) := by decide +kernel
theorem d_D_writePages_1 : decode prog_1_method_34_code 1 = .ok (.getfield 60, 3) := by decide +kernel
theorem d_D_writePages_4 : decode prog_1_method_34_code 4 = .ok (.iconst (-1), 1) := by decide +kernel
theorem d_D_writePages_5 : decode prog_1_method_34_code 5 = .ok (.if_icmp .ne (5), 3) := by decide +kernel
theorem d_D_writePages_8 : decode prog_1_method_34_code 8 = .ok (.iconst 1, 1) := by decide +kernel
theorem d_D_writePages_9 : decode prog_1_method_34_code 9 = .ok (.ireturn, 1) := by decide +kernel
theorem d_D_writePages_10 : decode prog_1_method_34_code 10 = .ok (.aload_n 0, 1) := by decide +kernel
theorem d_D_writePages_11 : decode prog_1_method_34_code 11 = .ok (.getfield 60, 3) := by decide +kernel
theorem d_D_writePages_14 : decode prog_1_method_34_code 14 = .ok (.iload_n 1, 1) := by decide +kernel
theorem d_D_writePages_15 : decode prog_1_method_34_code 15 = .ok (.if_icmp .le (15), 3) := by decide +kernel
theorem d_D_writePages_18 : decode prog_1_method_34_code 18 = .ok (.aload_n 0, 1) := by decide +kernel
theorem d_D_writePages_19 : decode prog_1_method_34_code 19 = .ok (.dup, 1) := by decide +kernel
theorem d_D_writePages_20 : decode prog_1_method_34_code 20 = .ok (.getfield 60, 3) := by decide +kernel
theorem d_D_writePages_23 : decode prog_1_method_34_code 23 = .ok (.iload_n 1, 1) := by decide +kernel
theorem d_D_writePages_24 : decode prog_1_method_34_code 24 = .ok (.isub, 1) := by decide +kernel
theorem d_D_writePages_25 : decode prog_1_method_34_code 25 = .ok (.putfield 60, 3) := by decide +kernel
theorem d_D_writePages_28 : decode prog_1_method_34_code 28 = .ok (.iconst 1, 1) := by decide +kernel
theorem d_D_writePages_29 : decode prog_1_method_34_code 29 = .ok (.ireturn, 1) := by decide +kernel
theorem d_D_writePages_30 : decode prog_1_method_34_code 30 = .ok (.aload_n 0, 1) := by decide +kernel
theorem d_D_writePages_31 : decode prog_1_method_34_code 31 = .ok (.getfield 60, 3) := by decide +kernel
theorem d_D_writePages_34 : decode prog_1_method_34_code 34 = .ok (.iload_n 1, 1) := by decide +kernel
theorem d_D_writePages_35 : decode prog_1_method_34_code 35 = .ok (.if_icmp .ne (7), 3) := by decide +kernel
theorem d_D_writePages_38 : decode prog_1_method_34_code 38 = .ok (.iconst 1, 1) := by decide +kernel
theorem d_D_writePages_39 : decode prog_1_method_34_code 39 = .ok (.goto (4), 3) := by decide +kernel
theorem d_D_writePages_42 : decode prog_1_method_34_code 42 = .ok (.iconst 0, 1) := by decide +kernel
theorem d_D_writePages_43 : decode prog_1_method_34_code 43 = .ok (.istore_n 2, 1) := by decide +kernel
theorem d_D_writePages_44 : decode prog_1_method_34_code 44 = .ok (.aload_n 0, 1) := by decide +kernel
theorem d_D_writePages_45 : decode prog_1_method_34_code 45 = .ok (.invokevirtual 281, 3) := by decide +kernel
theorem d_D_writePages_48 : decode prog_1_method_34_code 48 = .ok (.iload_n 2, 1) := by decide +kernel
theorem d_D_writePages_49 : decode prog_1_method_34_code 49 = .ok (.ireturn, 1) := by decide +kernel
def Y_D_writePages : sdY := ("SettingsDesk", prog_1_method_34_code, 3, (some .boolean), .code y_D_writePages prog_1_method_34_code 3 (some .boolean) :: sdB0, { frames := 1, cells := 0, slots := 0, locals := 20 }, 0, 0, [])
theorem cw_D_writePages_D_failPower_281 : sd_cwV Y_D_writePages Y_D_failPower y_D_failPower 281 0 "SettingsDesk" := ⟨sd_goodV q395 q397 q398 q274 q396, ⟨_, rfl⟩, ⟨rfl, rfl, rfl, rfl⟩, ⟨rfl, by decide, by decide, by decide +kernel⟩, ⟨by decide, by decide⟩⟩
section
variable {l : Launch} {D : va_G} {dA : Nat → ClassId} {b n : Nat} {ad : Nat → Nat} {L : Nat → sdL} {sc : Option (Nat × Nat × (Nat → Int32))}
def k_D_writePages_43 (Q : Int32 → sdM → Prop) (M : sdM) (s0 : Int32) : Prop := w_D_failPower M (fun M4 => sdB s0 ∧ Q s0 M4)
set_option maxHeartbeats 1000000 in
theorem t_D_writePages_43 (hA : sd_ad b n ad) (hT : l.stackTraces = false) (hD : isD n L dA) {Q : Int32 → sdM → Prop} (M : sdM) (s0 : Int32) (hw : k_D_writePages_43 Q M s0) : sdW l (sdE0 sc) Y_D_writePages D (sd_tys dA) b n ad L ad (sd_H D (sdE0 sc).1 n ad L) (sd_qi Q) sd_xf 43 [(0, .ref 0)] [.int s0] M 0 0 := by
  unfold k_D_writePages_43 at hw
  refine x_istore_n 2 [(2, .int s0), (0, .ref 0)] d_D_writePages_43 rfl (by decide) rfl ?_
  refine x_aload_n 0 1 d_D_writePages_44 rfl rfl ?_
  refine x_callVv (As := []) (t := 0) (rest := []) (rc := 0) (rs := 0) (c_D_failPower hA hT hD hw) cw_D_writePages_D_failPower_281 hD.1 hD.2.1 rfl d_D_writePages_45 rfl rfl (Nat.le_of_ble_eq_true rfl) rfl (fun _ _ h => h.elim) (fun _ _ h => h) (fun M4 hw => ?_)
  refine x_iload_n 2 0 d_D_writePages_48 rfl rfl ?_
  exact x_zret d_D_writePages_49 rfl (sdB_n hw.1) (fun _ h => h) ⟨_, rfl, hw.2⟩
def w_D_writePages (M : sdM) (a1 : Int32) (Q : Int32 → sdM → Prop) : Prop := (¬ (M 0 11) = (-1 : Int32) → ((M 0 11) ≤ a1 → (¬ (M 0 11) = a1 → k_D_writePages_43 Q M (0 : Int32)) ∧ ((M 0 11) = a1 → k_D_writePages_43 Q M (1 : Int32))) ∧ (¬ (M 0 11) ≤ a1 → ∀ M5 : sdM, M5 = sd_s M 0 11 ((M 0 11) - a1) → sdB (1 : Int32) ∧ Q (1 : Int32) M5)) ∧ ((M 0 11) = (-1 : Int32) → sdB (1 : Int32) ∧ Q (1 : Int32) M)
set_option maxHeartbeats 1000000 in
theorem c_D_writePages {a1 : Int32} (hA : sd_ad b n ad) (hT : l.stackTraces = false) (hD : isD n L dA) {Q : Int32 → sdM → Prop} {M : sdM} (hw : w_D_writePages M a1 Q) : sd_Cn l (sdE0 sc) y_D_writePages Y_D_writePages.2.2.2.2.1 Y_D_writePages.2.2.2.2.2.1 0 0 D (sd_tys dA) b n ad L M [.ref 0, .int a1] (sd_qi Q) sd_xf := by
  refine sd_enter (Y := Y_D_writePages) rfl rfl rfl rfl (Nat.le_of_ble_eq_true rfl) ?_
  show sdW l (sdE0 sc) Y_D_writePages D (sd_tys dA) b n ad L ad (sd_H D (sdE0 sc).1 n ad L) (sd_qi Q) sd_xf 0 [(0, .ref 0), (1, .int a1)] [] M 0 0
  unfold w_D_writePages at hw
  refine x_aload_n 0 0 d_D_writePages_0 rfl rfl ?_
  refine x_geti 11 d_D_writePages_1 hD.1 hD.2.1 rfl rfl (by decide) lay_D (List.mem_cons_of_mem _ q394) rfl ?_
  refine x_iconst (v := (-1)) d_D_writePages_4 (by decide) ?_
  refine x_icmp_ne 10 d_D_writePages_5 rfl (fun hc => ?_) (fun hc => ?_)
  · have hw := hw.1 hc
    refine x_aload_n 0 0 d_D_writePages_10 rfl rfl ?_
    refine x_geti 11 d_D_writePages_11 hD.1 hD.2.1 rfl rfl (by decide) lay_D (List.mem_cons_of_mem _ q394) rfl ?_
    refine x_iload_n 1 1 d_D_writePages_14 rfl rfl ?_
    refine x_icmp_le 30 d_D_writePages_15 rfl (fun hc => ?_) (fun hc => ?_)
    · have hw := hw.1 hc
      refine x_aload_n 0 0 d_D_writePages_30 rfl rfl ?_
      refine x_geti 11 d_D_writePages_31 hD.1 hD.2.1 rfl rfl (by decide) lay_D (List.mem_cons_of_mem _ q394) rfl ?_
      refine x_iload_n 1 1 d_D_writePages_34 rfl rfl ?_
      refine x_icmp_ne 42 d_D_writePages_35 rfl (fun hc => ?_) (fun hc => ?_)
      · have hw := hw.1 hc
        refine x_iconst (v := 0) d_D_writePages_42 (by decide) ?_
        refine x_sub [0] [(0, .ref 0)] rfl ?_
        exact t_D_writePages_43 hA hT hD M (0 : Int32) hw
      · have hw := hw.2 hc
        refine x_iconst (v := 1) d_D_writePages_38 (by decide) ?_
        refine x_goto 43 d_D_writePages_39 rfl ?_
        refine x_sub [0] [(0, .ref 0)] rfl ?_
        exact t_D_writePages_43 hA hT hD M (1 : Int32) hw
    · have hw := hw.2 hc
      refine x_aload_n 0 0 d_D_writePages_18 rfl rfl ?_
      refine x_dup d_D_writePages_19 rfl ?_
      refine x_geti 11 d_D_writePages_20 hD.1 hD.2.1 rfl rfl (by decide) lay_D (List.mem_cons_of_mem _ q394) rfl ?_
      refine x_iload_n 1 1 d_D_writePages_23 rfl rfl ?_
      refine x_isub d_D_writePages_24 ?_
      refine x_puti 11 (ty := .int) hA d_D_writePages_25 hD.1 hD.2.1 rfl rfl (by decide) lay_D (List.mem_cons_of_mem _ q394) rfl ty_D ty_D_ok nm_D rfl (by decide +kernel) rfl rfl (fun M5 e6 => ?_)
      have hw := hw M5 e6
      clear e6
      refine x_iconst (v := 1) d_D_writePages_28 (by decide) ?_
      exact x_zret d_D_writePages_29 rfl (sdB_n hw.1) (fun _ h => h) ⟨_, rfl, hw.2⟩
  · have hw := hw.2 hc
    refine x_iconst (v := 1) d_D_writePages_8 (by decide) ?_
    exact x_zret d_D_writePages_9 rfl (sdB_n hw.1) (fun _ h => h) ⟨_, rfl, hw.2⟩
end
theorem q399 : (.methodLink "SettingsDesk" 269 ⟨"SettingsDesk$Settings", "entryCount", "()I"⟩ : Cond) ∈ sdB0 := sd_tb4 133 rfl rfl
theorem q400 : (.code ⟨"SettingsDesk$Settings", "entryCount", "()I"⟩ prog_9_method_9_code 3 (some .int) : Cond) ∈ sdB0 := sd_tb4 136 rfl rfl
theorem q401 : (.instanceMethod ⟨"SettingsDesk$Settings", "entryCount", "()I"⟩ : Cond) ∈ sdB0 := sd_tb4 134 rfl rfl
theorem q402 : (.selects "SettingsDesk$Settings" ⟨"SettingsDesk$Settings", "entryCount", "()I"⟩ ⟨"SettingsDesk$Settings", "entryCount", "()I"⟩ : Cond) ∈ sdB0 := sd_tb4 135 rfl rfl
theorem q403 : (.methodLink "SettingsDesk" 272 ⟨"SettingsDesk", "writePages", "(I)Z"⟩ : Cond) ∈ sdB0 := sd_tb4 137 rfl rfl
theorem q404 : (.code ⟨"SettingsDesk", "writePages", "(I)Z"⟩ prog_1_method_34_code 3 (some .boolean) : Cond) ∈ sdB0 := sd_tb4 140 rfl rfl
theorem q405 : (.instanceMethod ⟨"SettingsDesk", "writePages", "(I)Z"⟩ : Cond) ∈ sdB0 := sd_tb4 139 rfl rfl
theorem q406 : (.selects "SettingsDesk" ⟨"SettingsDesk", "writePages", "(I)Z"⟩ ⟨"SettingsDesk", "writePages", "(I)Z"⟩ : Cond) ∈ sdB0 := sd_tbp (q := (⟨"SettingsDesk", "writePages", "(I)Z"⟩, 12)) (List.mem_of_getElem? (i := 13) rfl)
abbrev y_D_save : MethodName := ⟨"SettingsDesk", "save", "()I"⟩
theorem d_D_save_0 : decode prog_1_method_18_code 0 = .ok (.aload_n 0, 1) := by decide +kernel
theorem d_D_save_1 : decode prog_1_method_18_code 1 = .ok (.invokevirtual 146, 3) := by decide +kernel
theorem d_D_save_4 : decode prog_1_method_18_code 4 = .ok (.aload_n 0, 1) := by decide +kernel
theorem d_D_save_5 : decode prog_1_method_18_code 5 = .ok (.getfield 19, 3) := by decide +kernel
theorem d_D_save_8 : decode prog_1_method_18_code 8 = .ok (.invokevirtual 269, 3) := by decide +kernel
theorem d_D_save_11 : decode prog_1_method_18_code 11 = .ok (.iconst 1, 1) := by decide +kernel
theorem d_D_save_12 : decode prog_1_method_18_code 12 = .ok (.iadd, 1) := by decide +kernel
theorem d_D_save_13 : decode prog_1_method_18_code 13 = .ok (.istore_n 1, 1) := by decide +kernel
theorem d_D_save_14 : decode prog_1_method_18_code 14 = .ok (.aload_n 0, 1) := by decide +kernel
theorem d_D_save_15 : decode prog_1_method_18_code 15 = .ok (.iload_n 1, 1) := by decide +kernel
theorem d_D_save_16 : decode prog_1_method_18_code 16 = .ok (.invokevirtual 272, 3) := by decide +kernel
theorem d_D_save_19 : decode prog_1_method_18_code 19 = .ok (.ifCond .ne (5), 3) := by decide +kernel
theorem d_D_save_22 : decode prog_1_method_18_code 22 = .ok (.iconst (-1), 1) := by decide +kernel
theorem d_D_save_23 : decode prog_1_method_18_code 23 = .ok (.ireturn, 1) := by decide +kernel
theorem d_D_save_24 : decode prog_1_method_18_code 24 = .ok (.aload_n 0, 1) := by decide +kernel
theorem d_D_save_25 : decode prog_1_method_18_code 25 = .ok (.getfield 23, 3) := by decide +kernel
theorem d_D_save_28 : decode prog_1_method_18_code 28 = .ok (.aload_n 0, 1) := by decide +kernel
theorem d_D_save_29 : decode prog_1_method_18_code 29 = .ok (.getfield 19, 3) := by decide +kernel
theorem d_D_save_32 : decode prog_1_method_18_code 32 = .ok (.invokevirtual 275, 3) := by decide +kernel
theorem d_D_save_35 : decode prog_1_method_18_code 35 = .ok (.iload_n 1, 1) := by decide +kernel
theorem d_D_save_36 : decode prog_1_method_18_code 36 = .ok (.ireturn, 1) := by decide +kernel
def Y_D_save : sdY := ("SettingsDesk", prog_1_method_18_code, 2, (some .int), .code y_D_save prog_1_method_18_code 2 (some .int) :: sdB0, { frames := 7, cells := 1, slots := 6, locals := 102 }, 1, 6, [])
theorem cw_D_save_D_requireReady_146 : sd_cwV Y_D_save Y_D_requireReady y_D_requireReady 146 0 "SettingsDesk" := ⟨sd_goodV q344 q345 q346 q274 q342, ⟨_, rfl⟩, ⟨rfl, rfl, rfl, rfl⟩, ⟨rfl, by decide, by decide, by decide +kernel⟩, ⟨by decide, by decide⟩⟩
theorem cw_D_save_S_entryCount_269 : sd_cwV Y_D_save Y_S_entryCount y_S_entryCount 269 0 "SettingsDesk$Settings" := ⟨sd_goodV q399 q401 q402 q7 q400, ⟨_, rfl⟩, ⟨rfl, rfl, rfl, rfl⟩, ⟨rfl, by decide, by decide, by decide +kernel⟩, ⟨by decide, by decide⟩⟩
theorem cw_D_save_D_writePages_272 : sd_cwV Y_D_save Y_D_writePages y_D_writePages 272 1 "SettingsDesk" := ⟨sd_goodV q403 q405 q406 q274 q404, ⟨_, rfl⟩, ⟨rfl, rfl, rfl, rfl⟩, ⟨rfl, by decide, by decide, by decide +kernel⟩, ⟨by decide, by decide⟩⟩
theorem cw_D_save_S_copyFrom_275 : sd_cwV Y_D_save Y_S_copyFrom y_S_copyFrom 275 1 "SettingsDesk$Settings" := ⟨sd_goodV q263 q103 q104 q7 q102, ⟨_, rfl⟩, ⟨rfl, rfl, rfl, rfl⟩, ⟨rfl, by decide, by decide, by decide +kernel⟩, ⟨by decide, by decide⟩⟩
section
variable {l : Launch} {D : va_G} {dA : Nat → ClassId} {b n : Nat} {ad : Nat → Nat} {L : Nat → sdL} {sc : Option (Nat × Nat × (Nat → Int32))}
def w_D_save (M : sdM) (Q : Int32 → sdM → Prop) (X : String → sdM → Prop) : Prop := w_D_requireReady M (fun M7 => w_S_entryCount 25 M7 (fun r9 M8 => w_D_writePages M8 (r9 + (1 : Int32)) (fun r11 M10 => (¬ r11 = 0 → w_S_copyFrom 30 M10 25 (fun M12 => Q (r9 + (1 : Int32)) M12)) ∧ (r11 = 0 → Q (-1 : Int32) M10)))) X
set_option maxHeartbeats 1000000 in
theorem c_D_save (hA : sd_ad b n ad) (hT : l.stackTraces = false) (hD : isD n L dA) {Q : Int32 → sdM → Prop} {X : String → sdM → Prop} {M : sdM} (hw : w_D_save M Q X) : sd_Cn l (sdE0 sc) y_D_save Y_D_save.2.2.2.2.1 Y_D_save.2.2.2.2.2.1 1 6 D (sd_tys dA) b n ad L M [.ref 0] (sd_qi Q) X := by
  refine sd_enter (Y := Y_D_save) rfl rfl rfl rfl (Nat.le_of_ble_eq_true rfl) ?_
  show sdW l (sdE0 sc) Y_D_save D (sd_tys dA) b n ad L ad (sd_H D (sdE0 sc).1 n ad L) (sd_qi Q) X 0 [(0, .ref 0)] [] M 1 6
  unfold w_D_save at hw
  refine x_aload_n 0 0 d_D_save_0 rfl rfl ?_
  refine x_callVv (As := []) (t := 0) (rest := []) (rc := 0) (rs := 0) (c_D_requireReady hA hT hD hw) cw_D_save_D_requireReady_146 hD.1 hD.2.1 rfl d_D_save_1 rfl rfl (Nat.le_of_ble_eq_true rfl) rfl (fun _ _ h => h) (fun _ _ h => h) (fun M7 hw => ?_)
  refine x_aload_n 0 0 d_D_save_4 rfl rfl ?_
  refine x_getr 1 25 d_D_save_5 hD.1 hD.2.1 rfl rfl (by decide) lay_D (List.mem_cons_of_mem _ q253) rfl ?_
  refine x_callVi (As := []) (t := 25) (rest := []) (rc := 0) (rs := 0) (c_S_entryCount hA hT hD.running hw) cw_D_save_S_entryCount_269 hD.running.1 hD.running.2.1 rfl d_D_save_8 rfl rfl (Nat.le_of_ble_eq_true rfl) rfl (fun _ _ h => h.elim) (fun _ _ h => h) (fun r9 M8 hw => ?_)
  refine x_iconst (v := 1) d_D_save_11 (by decide) ?_
  refine x_iadd d_D_save_12 ?_
  refine x_istore_n 1 [(1, .int (r9 + (1 : Int32))), (0, .ref 0)] d_D_save_13 rfl (by decide) rfl ?_
  refine x_aload_n 0 1 d_D_save_14 rfl rfl ?_
  refine x_iload_n 1 0 d_D_save_15 rfl rfl ?_
  refine x_callVi (As := [.int (r9 + (1 : Int32))]) (t := 0) (rest := []) (rc := 0) (rs := 0) (c_D_writePages hA hT hD hw) cw_D_save_D_writePages_272 hD.1 hD.2.1 rfl d_D_save_16 rfl rfl (Nat.le_of_ble_eq_true rfl) rfl (fun _ _ h => h.elim) (fun _ _ h => h) (fun r11 M10 hw => ?_)
  refine x_if_ne 24 d_D_save_19 rfl (fun hc => ?_) (fun hc => ?_)
  · have hw := hw.1 hc
    refine x_aload_n 0 1 d_D_save_24 rfl rfl ?_
    refine x_getr 2 30 d_D_save_25 hD.1 hD.2.1 rfl rfl (by decide) lay_D (List.mem_cons_of_mem _ q265) rfl ?_
    refine x_aload_n 0 1 d_D_save_28 rfl rfl ?_
    refine x_getr 1 25 d_D_save_29 hD.1 hD.2.1 rfl rfl (by decide) lay_D (List.mem_cons_of_mem _ q253) rfl ?_
    refine x_callVv (As := [.ref 25]) (t := 30) (rest := []) (rc := 0) (rs := 0) (c_S_copyFrom hA hT hD.saved hD.running hw) cw_D_save_S_copyFrom_275 hD.saved.1 hD.saved.2.1 rfl d_D_save_32 rfl rfl (Nat.le_of_ble_eq_true rfl) rfl (fun _ _ h => h.elim) (fun _ _ h => h) (fun M12 hw => ?_)
    refine x_iload_n 1 0 d_D_save_35 rfl rfl ?_
    exact x_iret d_D_save_36 rfl (fun _ h => h) ⟨_, rfl, hw⟩
  · have hw := hw.2 hc
    refine x_iconst (v := (-1)) d_D_save_22 (by decide) ?_
    exact x_iret d_D_save_23 rfl (fun _ h => h) ⟨_, rfl, hw⟩
end
theorem q407 : (.code ⟨"SettingsDesk", "cut", "(I)Z"⟩ prog_1_method_19_code 2 (some .boolean) : Cond) ∈ sdB0 := sd_tb4 151 rfl rfl
abbrev y_D_cut : MethodName := ⟨"SettingsDesk", "cut", "(I)Z"⟩
theorem d_D_cut_0 : decode prog_1_method_19_code 0 = .ok (.iload_n 1, 1) := by decide +kernel
theorem d_D_cut_1 : decode prog_1_method_19_code 1 = .ok (.iconst (-1), 1) := by decide +kernel
theorem d_D_cut_2 : decode prog_1_method_19_code 2 = .ok (.if_icmp .lt (10), 3) := by decide +kernel
theorem d_D_cut_5 : decode prog_1_method_19_code 5 = .ok (.iload_n 1, 1) := by decide +kernel
theorem d_D_cut_6 : decode prog_1_method_19_code 6 = .ok (.sipush (1000), 3) := by decide +kernel
theorem d_D_cut_9 : decode prog_1_method_19_code 9 = .ok (.if_icmp .le (14), 3) := by decide +kernel
theorem d_D_cut_12 : decode prog_1_method_19_code 12 = .ok (.new 91, 3) := by decide +kernel
theorem d_D_cut_15 : decode prog_1_method_19_code 15 = .ok (.dup, 1) := by decide +kernel
theorem d_D_cut_16 : decode prog_1_method_19_code 16 = .ok (.ldc_w 279, 3) := by decide +kernel
theorem d_D_cut_19 : decode prog_1_method_19_code 19 = .ok (.invokespecial 95, 3) := by decide +kernel
theorem d_D_cut_22 : decode prog_1_method_19_code 22 = .ok (.athrow, 1) := by decide +kernel
theorem d_D_cut_23 : decode prog_1_method_19_code 23 = .ok (.aload_n 0, 1) := by decide +kernel
theorem d_D_cut_24 : decode prog_1_method_19_code 24 = .ok (.getfield 56, 3) := by decide +kernel
theorem d_D_cut_27 : decode prog_1_method_19_code 27 = .ok (.ifCond .eq (5), 3) := by decide +kernel
theorem d_D_cut_30 : decode prog_1_method_19_code 30 = .ok (.iconst 1, 1) := by decide +kernel
theorem d_D_cut_31 : decode prog_1_method_19_code 31 = .ok (.ireturn, 1) := by decide +kernel
theorem d_D_cut_32 : decode prog_1_method_19_code 32 = .ok (.aload_n 0, 1) := by decide +kernel
theorem d_D_cut_33 : decode prog_1_method_19_code 33 = .ok (.iload_n 1, 1) := by decide +kernel
theorem d_D_cut_34 : decode prog_1_method_19_code 34 = .ok (.putfield 60, 3) := by decide +kernel
theorem d_D_cut_37 : decode prog_1_method_19_code 37 = .ok (.iload_n 1, 1) := by decide +kernel
theorem d_D_cut_38 : decode prog_1_method_19_code 38 = .ok (.ifCond .ne (7), 3) := by decide +kernel
theorem d_D_cut_41 : decode prog_1_method_19_code 41 = .ok (.aload_n 0, 1) := by decide +kernel
theorem d_D_cut_42 : decode prog_1_method_19_code 42 = .ok (.invokevirtual 281, 3) := by decide +kernel
theorem d_D_cut_45 : decode prog_1_method_19_code 45 = .ok (.aload_n 0, 1) := by decide +kernel
theorem d_D_cut_46 : decode prog_1_method_19_code 46 = .ok (.getfield 56, 3) := by decide +kernel
theorem d_D_cut_49 : decode prog_1_method_19_code 49 = .ok (.ireturn, 1) := by decide +kernel
def Y_D_cut : sdY := ("SettingsDesk", prog_1_method_19_code, 2, (some .boolean), .code y_D_cut prog_1_method_19_code 2 (some .boolean) :: sdB0, { frames := 6, cells := 1, slots := 6, locals := 82 }, 1, 6, [])
theorem cw_D_cut_D_failPower_281 : sd_cwV Y_D_cut Y_D_failPower y_D_failPower 281 0 "SettingsDesk" := ⟨sd_goodV q395 q397 q398 q274 q396, ⟨_, rfl⟩, ⟨rfl, rfl, rfl, rfl⟩, ⟨rfl, by decide, by decide, by decide +kernel⟩, ⟨by decide, by decide⟩⟩
section
variable {l : Launch} {D : va_G} {dA : Nat → ClassId} {b n : Nat} {ad : Nat → Nat} {L : Nat → sdL} {sc : Option (Nat × Nat × (Nat → Int32))}
def k_D_cut_45 (Q : Int32 → sdM → Prop) (X : String → sdM → Prop) (M : sdM) : Prop := sdB (M 0 10) ∧ Q (M 0 10) M
set_option maxHeartbeats 1000000 in
theorem t_D_cut_45 (hA : sd_ad b n ad) (hT : l.stackTraces = false) (hD : isD n L dA) {Q : Int32 → sdM → Prop} {X : String → sdM → Prop} (M : sdM) (hw : k_D_cut_45 Q X M ) : sdW l (sdE0 sc) Y_D_cut D (sd_tys dA) b n ad L ad (sd_H D (sdE0 sc).1 n ad L) (sd_qi Q) X 45 [(0, .ref 0)] [] M 1 6 := by
  unfold k_D_cut_45 at hw
  refine x_aload_n 0 0 d_D_cut_45 rfl rfl ?_
  refine x_geti 10 d_D_cut_46 hD.1 hD.2.1 rfl rfl (by decide) lay_D (List.mem_cons_of_mem _ q264) rfl ?_
  exact x_zret d_D_cut_49 rfl (sdB_n hw.1) (fun _ h => h) ⟨_, rfl, hw.2⟩
def k_D_cut_12 (Q : Int32 → sdM → Prop) (X : String → sdM → Prop) (M : sdM) : Prop := X "java/lang/IllegalArgumentException" M
set_option maxHeartbeats 1000000 in
theorem t_D_cut_12 (hA : sd_ad b n ad) (hT : l.stackTraces = false) (hD : isD n L dA) {Q : Int32 → sdM → Prop} {X : String → sdM → Prop} (M : sdM) (hw : k_D_cut_12 Q X M ) : sdW l (sdE0 sc) Y_D_cut D (sd_tys dA) b n ad L ad (sd_H D (sdE0 sc).1 n ad L) (sd_qi Q) X 12 [] [] M 1 6 := by
  unfold k_D_cut_12 at hw
  exact x_throwS (names := sdExN) (is := 279) (ic := 95) (rc := 0) (rs := 0) hT rfl fit_IAE fit_N (sd_goodB q407) (List.mem_cons_of_mem _ q304) (List.mem_cons_of_mem _ q305) (List.mem_cons_of_mem _ q306) (List.mem_of_getElem? (i := 20) rfl) oa_IAE d_D_cut_12 d_D_cut_15 (Or.inr ⟨d_D_cut_16, rfl⟩) d_D_cut_19 d_D_cut_22 (by decide) (Nat.le_of_ble_eq_true rfl) rfl rfl (fun _ _ h => h) hw
def w_D_cut (M : sdM) (a1 : Int32) (Q : Int32 → sdM → Prop) (X : String → sdM → Prop) : Prop := (a1 < (-1 : Int32) → k_D_cut_12 Q X M) ∧ (¬ a1 < (-1 : Int32) → (a1 ≤ (1000 : Int32) → ((M 0 10) = 0 → ∀ M4 : sdM, M4 = sd_s M 0 11 a1 → (¬ a1 = 0 → k_D_cut_45 Q X M4) ∧ (a1 = 0 → w_D_failPower M4 (fun M6 => k_D_cut_45 Q X M6))) ∧ (¬ (M 0 10) = 0 → sdB (1 : Int32) ∧ Q (1 : Int32) M)) ∧ (¬ a1 ≤ (1000 : Int32) → k_D_cut_12 Q X M))
set_option maxHeartbeats 1000000 in
theorem c_D_cut {a1 : Int32} (hA : sd_ad b n ad) (hT : l.stackTraces = false) (hD : isD n L dA) {Q : Int32 → sdM → Prop} {X : String → sdM → Prop} {M : sdM} (hw : w_D_cut M a1 Q X) : sd_Cn l (sdE0 sc) y_D_cut Y_D_cut.2.2.2.2.1 Y_D_cut.2.2.2.2.2.1 1 6 D (sd_tys dA) b n ad L M [.ref 0, .int a1] (sd_qi Q) X := by
  refine sd_enter (Y := Y_D_cut) rfl rfl rfl rfl (Nat.le_of_ble_eq_true rfl) ?_
  show sdW l (sdE0 sc) Y_D_cut D (sd_tys dA) b n ad L ad (sd_H D (sdE0 sc).1 n ad L) (sd_qi Q) X 0 [(0, .ref 0), (1, .int a1)] [] M 1 6
  unfold w_D_cut at hw
  refine x_iload_n 1 1 d_D_cut_0 rfl rfl ?_
  refine x_iconst (v := (-1)) d_D_cut_1 (by decide) ?_
  refine x_icmp_lt 12 d_D_cut_2 rfl (fun hc => ?_) (fun hc => ?_)
  · have hw := hw.1 hc
    refine x_sub [] [] rfl ?_
    exact t_D_cut_12 hA hT hD M hw
  · have hw := hw.2 hc
    refine x_iload_n 1 1 d_D_cut_5 rfl rfl ?_
    refine x_sipush (v := 1000) d_D_cut_6 (by decide) ?_
    refine x_icmp_le 23 d_D_cut_9 rfl (fun hc => ?_) (fun hc => ?_)
    · have hw := hw.1 hc
      refine x_aload_n 0 0 d_D_cut_23 rfl rfl ?_
      refine x_geti 10 d_D_cut_24 hD.1 hD.2.1 rfl rfl (by decide) lay_D (List.mem_cons_of_mem _ q264) rfl ?_
      refine x_if_eq 32 d_D_cut_27 rfl (fun hc => ?_) (fun hc => ?_)
      · have hw := hw.1 hc
        refine x_aload_n 0 0 d_D_cut_32 rfl rfl ?_
        refine x_iload_n 1 1 d_D_cut_33 rfl rfl ?_
        refine x_puti 11 (ty := .int) hA d_D_cut_34 hD.1 hD.2.1 rfl rfl (by decide) lay_D (List.mem_cons_of_mem _ q394) rfl ty_D ty_D_ok nm_D rfl (by decide +kernel) rfl rfl (fun M4 e5 => ?_)
        have hw := hw M4 e5
        clear e5
        refine x_iload_n 1 1 d_D_cut_37 rfl rfl ?_
        refine x_if_ne 45 d_D_cut_38 rfl (fun hc => ?_) (fun hc => ?_)
        · have hw := hw.1 hc
          refine x_sub [0] [(0, .ref 0)] rfl ?_
          exact t_D_cut_45 hA hT hD M4 hw
        · have hw := hw.2 hc
          refine x_aload_n 0 0 d_D_cut_41 rfl rfl ?_
          refine x_callVv (As := []) (t := 0) (rest := []) (rc := 1) (rs := 6) (c_D_failPower hA hT hD hw) cw_D_cut_D_failPower_281 hD.1 hD.2.1 rfl d_D_cut_42 rfl rfl (Nat.le_of_ble_eq_true rfl) rfl (fun _ _ h => h.elim) (fun _ _ h => h) (fun M6 hw => ?_)
          refine x_sub [0] [(0, .ref 0)] rfl ?_
          exact t_D_cut_45 hA hT hD M6 hw
      · have hw := hw.2 hc
        refine x_iconst (v := 1) d_D_cut_30 (by decide) ?_
        exact x_zret d_D_cut_31 rfl (sdB_n hw.1) (fun _ h => h) ⟨_, rfl, hw.2⟩
    · have hw := hw.2 hc
      refine x_sub [] [] rfl ?_
      exact t_D_cut_12 hA hT hD M hw
end
