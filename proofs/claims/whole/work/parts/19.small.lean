def isJ (n : Nat) (L : Nat → sdL) (dA : Nat → ClassId) : Prop := 134 < n ∧ L 134 = sd_J (dA 2) 1
theorem sd_in01 : vp_in 0 1 := by unfold vp_in; decide
theorem q631 : (.methodLink "SettingsDeskLaw" 7 ⟨"SettingsDesk", "list", "()I"⟩ : Cond) ∈ sdB0 := sd_tb2 62 rfl rfl
theorem q632 : (.instanceMethod ⟨"SettingsDesk", "list", "()I"⟩ : Cond) ∈ sdB0 := sd_tb2 63 rfl rfl
theorem q633 : (.selects "SettingsDesk" ⟨"SettingsDesk", "list", "()I"⟩ ⟨"SettingsDesk", "list", "()I"⟩ : Cond) ∈ sdB0 := sd_tb2 64 rfl rfl
theorem q634 : (.classLink "SettingsDeskLaw" 13 "java/lang/IllegalStateException" : Cond) ∈ sdB0 := sd_tb2 61 rfl rfl
abbrev y_L_list : MethodName := ⟨"SettingsDeskLaw", "list", "(LSettingsDesk;[J)I"⟩
theorem dL_list_0 : decode method_3_code 0 = .ok (.aload_n 1, 1) := by decide +kernel
theorem dL_list_1 : decode method_3_code 1 = .ok (.iconst 0, 1) := by decide +kernel
theorem dL_list_2 : decode method_3_code 2 = .ok (.aload_n 0, 1) := by decide +kernel
theorem dL_list_3 : decode method_3_code 3 = .ok (.invokevirtual 7, 3) := by decide +kernel
theorem dL_list_6 : decode method_3_code 6 = .ok (.i2l, 1) := by decide +kernel
theorem dL_list_7 : decode method_3_code 7 = .ok (.lastore, 1) := by decide +kernel
theorem dL_list_8 : decode method_3_code 8 = .ok (.goto (6), 3) := by decide +kernel
theorem dL_list_11 : decode method_3_code 11 = .ok (.astore_n 2, 1) := by decide +kernel
theorem dL_list_12 : decode method_3_code 12 = .ok (.iconst 1, 1) := by decide +kernel
theorem dL_list_13 : decode method_3_code 13 = .ok (.ireturn, 1) := by decide +kernel
theorem dL_list_14 : decode method_3_code 14 = .ok (.iconst 0, 1) := by decide +kernel
theorem dL_list_15 : decode method_3_code 15 = .ok (.ireturn, 1) := by decide +kernel
def Y_L_list : sdY := ("SettingsDeskLaw", method_3_code, 3, (some .int), .codeWith y_L_list method_3_code 3 (some .int) [(0, 8, 11, 13)] :: sdB0, { frames := 8, cells := 2, slots := 12, locals := 122 }, 2, 12, [(0, 8, 11, 13)])
theorem cw_L_list_D_list_7 : sd_cwV Y_L_list Y_D_list y_D_list 7 0 "SettingsDesk" := ⟨sd_goodV q631 q632 q633 q274 q293, ⟨_, rfl⟩, ⟨rfl, rfl, rfl, rfl⟩, ⟨rfl, by decide, by decide, by decide +kernel⟩, ⟨by decide, by decide⟩⟩
section
variable {l : Launch} {D : va_G} {dA : Nat → ClassId} {b n : Nat} {ad : Nat → Nat} {L : Nat → sdL} {sc : Option (Nat × Nat × (Nat → Int32))}
def w_L_list (M : sdM) (Q : Int32 → sdM → Prop) : Prop := w_D_list M  (fun r M1 => ∀ M2 : sdM, M2 = sd_s M1 134 0 r → Q 0 M2) (fun E M1 => (E = "java/lang/IllegalStateException" ∧ Q 1 M1))
set_option maxHeartbeats 1000000 in
theorem c_L_list (hA : sd_ad b n ad) (hT : l.stackTraces = false) (hD : isD n L dA) (hJ : isJ n L dA) {Q : Int32 → sdM → Prop} {M : sdM} (hw : w_L_list M  Q) : sd_Cn l (sdE0 sc) y_L_list Y_L_list.2.2.2.2.1 Y_L_list.2.2.2.2.2.1 2 12 D (sd_tys dA) b n ad L M [.ref 0, .ref 134] (sd_qi Q) sd_xf := by
  refine sd_enterH (Y := Y_L_list) rfl rfl rfl (Nat.le_of_ble_eq_true rfl) ?_
  unfold w_L_list at hw
  refine x_aload_n 1 1 dL_list_0 rfl rfl ?_
  refine x_iconst (v := 0) dL_list_1 (by decide) ?_
  refine x_aload_n 0 0 dL_list_2 rfl rfl ?_
  refine x_callVci (As := []) (t := 0) (rest := [.int 0, .ref 134]) (rc := 0) (rs := 0) [((0, 8, 11, 13), "java/lang/IllegalStateException")] rfl (List.forall_mem_cons.mpr ⟨⟨rfl, by decide, List.mem_cons_of_mem _ q634, List.mem_of_getElem? (i := 0) rfl⟩, fun _ h => absurd h List.not_mem_nil⟩) (c_D_list hA hT hD hw) cw_L_list_D_list_7 hD.1 hD.2.1 rfl dL_list_3 rfl rfl (Nat.le_of_ble_eq_true rfl) (fun E9 M1 hx => ?_) (fun r M1 hq => ?_)
  · obtain ⟨rfl, hq⟩ := hx
    · refine ⟨List.mem_of_getElem? (i := 0) rfl, 11, 2, 12, rfl, (Or.inl ⟨2, dL_list_11, rfl, rfl⟩), by decide, ?_⟩
      refine x_iconst (v := 1) dL_list_12 (by decide) ?_
      exact x_iret dL_list_13 rfl (fun _ h => h) ⟨_, rfl, hq⟩
  · refine x_i2l dL_list_6 ?_
    refine x_last (x := r) hA dL_list_7 hJ.1 hJ.2 rfl rfl sd_in01 (fun M2 e2 => ?_)
    refine x_goto 14 dL_list_8 rfl ?_
    refine x_iconst (v := 0) dL_list_14 (by decide) ?_
    exact x_iret dL_list_15 rfl (fun _ h => h) ⟨_, rfl, (hq M2 e2)⟩
end
theorem q635 : (.methodLink "SettingsDeskLaw" 15 ⟨"SettingsDesk", "leaf", "(IIIII)I"⟩ : Cond) ∈ sdB0 := sd_tb2 145 rfl rfl
theorem q636 : (.instanceMethod ⟨"SettingsDesk", "leaf", "(IIIII)I"⟩ : Cond) ∈ sdB0 := sd_tb2 146 rfl rfl
theorem q637 : (.selects "SettingsDesk" ⟨"SettingsDesk", "leaf", "(IIIII)I"⟩ ⟨"SettingsDesk", "leaf", "(IIIII)I"⟩ : Cond) ∈ sdB0 := sd_tb2 147 rfl rfl
theorem q638 : (.classLink "SettingsDeskLaw" 19 "java/lang/IndexOutOfBoundsException" : Cond) ∈ sdB0 := sd_tb2 143 rfl rfl
theorem q639 : (.classLink "SettingsDeskLaw" 21 "java/lang/IllegalArgumentException" : Cond) ∈ sdB0 := sd_tb2 144 rfl rfl
abbrev y_L_leaf : MethodName := ⟨"SettingsDeskLaw", "leaf", "(LSettingsDesk;IIIII[J)I"⟩
theorem dL_leaf_0 : decode method_4_code 0 = .ok (.aload 6, 2) := by decide +kernel
theorem dL_leaf_2 : decode method_4_code 2 = .ok (.iconst 0, 1) := by decide +kernel
theorem dL_leaf_3 : decode method_4_code 3 = .ok (.aload_n 0, 1) := by decide +kernel
theorem dL_leaf_4 : decode method_4_code 4 = .ok (.iload_n 1, 1) := by decide +kernel
theorem dL_leaf_5 : decode method_4_code 5 = .ok (.iload_n 2, 1) := by decide +kernel
theorem dL_leaf_6 : decode method_4_code 6 = .ok (.iload_n 3, 1) := by decide +kernel
theorem dL_leaf_7 : decode method_4_code 7 = .ok (.iload 4, 2) := by decide +kernel
theorem dL_leaf_9 : decode method_4_code 9 = .ok (.iload 5, 2) := by decide +kernel
theorem dL_leaf_11 : decode method_4_code 11 = .ok (.invokevirtual 15, 3) := by decide +kernel
theorem dL_leaf_14 : decode method_4_code 14 = .ok (.i2l, 1) := by decide +kernel
theorem dL_leaf_15 : decode method_4_code 15 = .ok (.lastore, 1) := by decide +kernel
theorem dL_leaf_16 : decode method_4_code 16 = .ok (.goto (15), 3) := by decide +kernel
theorem dL_leaf_19 : decode method_4_code 19 = .ok (.astore 7, 2) := by decide +kernel
theorem dL_leaf_21 : decode method_4_code 21 = .ok (.iconst 1, 1) := by decide +kernel
theorem dL_leaf_22 : decode method_4_code 22 = .ok (.ireturn, 1) := by decide +kernel
theorem dL_leaf_23 : decode method_4_code 23 = .ok (.astore 7, 2) := by decide +kernel
theorem dL_leaf_25 : decode method_4_code 25 = .ok (.iconst 2, 1) := by decide +kernel
theorem dL_leaf_26 : decode method_4_code 26 = .ok (.ireturn, 1) := by decide +kernel
theorem dL_leaf_27 : decode method_4_code 27 = .ok (.astore 7, 2) := by decide +kernel
theorem dL_leaf_29 : decode method_4_code 29 = .ok (.iconst 3, 1) := by decide +kernel
theorem dL_leaf_30 : decode method_4_code 30 = .ok (.ireturn, 1) := by decide +kernel
theorem dL_leaf_31 : decode method_4_code 31 = .ok (.iconst 0, 1) := by decide +kernel
theorem dL_leaf_32 : decode method_4_code 32 = .ok (.ireturn, 1) := by decide +kernel
def Y_L_leaf : sdY := ("SettingsDeskLaw", method_4_code, 8, (some .int), .codeWith y_L_leaf method_4_code 8 (some .int) [(0, 16, 19, 13), (0, 16, 23, 19), (0, 16, 27, 21)] :: sdB0, { frames := 8, cells := 3, slots := 18, locals := 128 }, 3, 18, [(0, 16, 19, 13), (0, 16, 23, 19), (0, 16, 27, 21)])
theorem cw_L_leaf_D_leaf_15 : sd_cwV Y_L_leaf Y_D_leaf y_D_leaf 15 5 "SettingsDesk" := ⟨sd_goodV q635 q636 q637 q274 q303, ⟨_, rfl⟩, ⟨rfl, rfl, rfl, rfl⟩, ⟨rfl, by decide, by decide, by decide +kernel⟩, ⟨by decide, by decide⟩⟩
section
variable {l : Launch} {D : va_G} {dA : Nat → ClassId} {b n : Nat} {ad : Nat → Nat} {L : Nat → sdL} {sc : Option (Nat × Nat × (Nat → Int32))}
def w_L_leaf (M : sdM) (a1 : Int32) (a2 : Int32) (a3 : Int32) (a4 : Int32) (a5 : Int32) (Q : Int32 → sdM → Prop) : Prop := w_D_leaf M a1 a2 a3 a4 a5 (fun r M1 => ∀ M2 : sdM, M2 = sd_s M1 134 0 r → Q 0 M2) (fun E M1 => (E = "java/lang/IllegalStateException" ∧ Q 1 M1) ∨ (E = "java/lang/IndexOutOfBoundsException" ∧ Q 2 M1) ∨ (E = "java/lang/IllegalArgumentException" ∧ Q 3 M1))
set_option maxHeartbeats 1000000 in
theorem c_L_leaf {a1 : Int32} {a2 : Int32} {a3 : Int32} {a4 : Int32} {a5 : Int32} (hA : sd_ad b n ad) (hT : l.stackTraces = false) (hD : isD n L dA) (hJ : isJ n L dA) {Q : Int32 → sdM → Prop} {M : sdM} (hw : w_L_leaf M a1 a2 a3 a4 a5 Q) : sd_Cn l (sdE0 sc) y_L_leaf Y_L_leaf.2.2.2.2.1 Y_L_leaf.2.2.2.2.2.1 3 18 D (sd_tys dA) b n ad L M [.ref 0, .int a1, .int a2, .int a3, .int a4, .int a5, .ref 134] (sd_qi Q) sd_xf := by
  refine sd_enterH (Y := Y_L_leaf) rfl rfl rfl (Nat.le_of_ble_eq_true rfl) ?_
  unfold w_L_leaf at hw
  refine x_aload 6 6 dL_leaf_0 rfl ?_
  refine x_iconst (v := 0) dL_leaf_2 (by decide) ?_
  refine x_aload_n 0 0 dL_leaf_3 rfl rfl ?_
  refine x_iload_n 1 1 dL_leaf_4 rfl rfl ?_
  refine x_iload_n 2 2 dL_leaf_5 rfl rfl ?_
  refine x_iload_n 3 3 dL_leaf_6 rfl rfl ?_
  refine x_iload 4 4 dL_leaf_7 rfl ?_
  refine x_iload 5 5 dL_leaf_9 rfl ?_
  refine x_callVci (As := [.int a1, .int a2, .int a3, .int a4, .int a5]) (t := 0) (rest := [.int 0, .ref 134]) (rc := 0) (rs := 0) [((0, 16, 19, 13), "java/lang/IllegalStateException"), ((0, 16, 23, 19), "java/lang/IndexOutOfBoundsException"), ((0, 16, 27, 21), "java/lang/IllegalArgumentException")] rfl (List.forall_mem_cons.mpr ⟨⟨rfl, by decide, List.mem_cons_of_mem _ q634, List.mem_of_getElem? (i := 0) rfl⟩, List.forall_mem_cons.mpr ⟨⟨rfl, by decide, List.mem_cons_of_mem _ q638, List.mem_of_getElem? (i := 1) rfl⟩, List.forall_mem_cons.mpr ⟨⟨rfl, by decide, List.mem_cons_of_mem _ q639, List.mem_of_getElem? (i := 2) rfl⟩, fun _ h => absurd h List.not_mem_nil⟩⟩⟩) (c_D_leaf hA hT hD hw) cw_L_leaf_D_leaf_15 hD.1 hD.2.1 rfl dL_leaf_11 rfl rfl (Nat.le_of_ble_eq_true rfl) (fun E9 M1 hx => ?_) (fun r M1 hq => ?_)
  · rcases hx with ⟨rfl, hq⟩ | ⟨rfl, hq⟩ | ⟨rfl, hq⟩
    · refine ⟨List.mem_of_getElem? (i := 0) rfl, 19, 7, 21, rfl, (Or.inr ⟨dL_leaf_19, rfl⟩), by decide, ?_⟩
      refine x_iconst (v := 1) dL_leaf_21 (by decide) ?_
      exact x_iret dL_leaf_22 rfl (fun _ h => h) ⟨_, rfl, hq⟩
    · refine ⟨List.mem_of_getElem? (i := 1) rfl, 23, 7, 25, rfl, (Or.inr ⟨dL_leaf_23, rfl⟩), by decide, ?_⟩
      refine x_iconst (v := 2) dL_leaf_25 (by decide) ?_
      exact x_iret dL_leaf_26 rfl (fun _ h => h) ⟨_, rfl, hq⟩
    · refine ⟨List.mem_of_getElem? (i := 2) rfl, 27, 7, 29, rfl, (Or.inr ⟨dL_leaf_27, rfl⟩), by decide, ?_⟩
      refine x_iconst (v := 3) dL_leaf_29 (by decide) ?_
      exact x_iret dL_leaf_30 rfl (fun _ h => h) ⟨_, rfl, hq⟩
  · refine x_i2l dL_leaf_14 ?_
    refine x_last (x := r) hA dL_leaf_15 hJ.1 hJ.2 rfl rfl sd_in01 (fun M2 e2 => ?_)
    refine x_goto 31 dL_leaf_16 rfl ?_
    refine x_iconst (v := 0) dL_leaf_31 (by decide) ?_
    exact x_iret dL_leaf_32 rfl (fun _ h => h) ⟨_, rfl, (hq M2 e2)⟩
end
theorem q640 : (.methodLink "SettingsDeskLaw" 23 ⟨"SettingsDesk", "standard", "(III)V"⟩ : Cond) ∈ sdB0 := sd_tb2 206 rfl rfl
theorem q641 : (.instanceMethod ⟨"SettingsDesk", "standard", "(III)V"⟩ : Cond) ∈ sdB0 := sd_tb2 207 rfl rfl
theorem q642 : (.selects "SettingsDesk" ⟨"SettingsDesk", "standard", "(III)V"⟩ ⟨"SettingsDesk", "standard", "(III)V"⟩ : Cond) ∈ sdB0 := sd_tb2 208 rfl rfl
abbrev y_L_standard : MethodName := ⟨"SettingsDeskLaw", "standard", "(LSettingsDesk;III)I"⟩
theorem dL_standard_0 : decode method_5_code 0 = .ok (.aload_n 0, 1) := by decide +kernel
theorem dL_standard_1 : decode method_5_code 1 = .ok (.iload_n 1, 1) := by decide +kernel
theorem dL_standard_2 : decode method_5_code 2 = .ok (.iload_n 2, 1) := by decide +kernel
theorem dL_standard_3 : decode method_5_code 3 = .ok (.iload_n 3, 1) := by decide +kernel
theorem dL_standard_4 : decode method_5_code 4 = .ok (.invokevirtual 23, 3) := by decide +kernel
theorem dL_standard_7 : decode method_5_code 7 = .ok (.goto (15), 3) := by decide +kernel
theorem dL_standard_10 : decode method_5_code 10 = .ok (.astore 4, 2) := by decide +kernel
theorem dL_standard_12 : decode method_5_code 12 = .ok (.iconst 1, 1) := by decide +kernel
theorem dL_standard_13 : decode method_5_code 13 = .ok (.ireturn, 1) := by decide +kernel
theorem dL_standard_14 : decode method_5_code 14 = .ok (.astore 4, 2) := by decide +kernel
theorem dL_standard_16 : decode method_5_code 16 = .ok (.iconst 2, 1) := by decide +kernel
theorem dL_standard_17 : decode method_5_code 17 = .ok (.ireturn, 1) := by decide +kernel
theorem dL_standard_18 : decode method_5_code 18 = .ok (.astore 4, 2) := by decide +kernel
theorem dL_standard_20 : decode method_5_code 20 = .ok (.iconst 3, 1) := by decide +kernel
theorem dL_standard_21 : decode method_5_code 21 = .ok (.ireturn, 1) := by decide +kernel
theorem dL_standard_22 : decode method_5_code 22 = .ok (.iconst 0, 1) := by decide +kernel
theorem dL_standard_23 : decode method_5_code 23 = .ok (.ireturn, 1) := by decide +kernel
def Y_L_standard : sdY := ("SettingsDeskLaw", method_5_code, 5, (some .int), .codeWith y_L_standard method_5_code 5 (some .int) [(0, 7, 10, 13), (0, 7, 14, 19), (0, 7, 18, 21)] :: sdB0, { frames := 8, cells := 3, slots := 18, locals := 128 }, 3, 18, [(0, 7, 10, 13), (0, 7, 14, 19), (0, 7, 18, 21)])
theorem cw_L_standard_D_standard_23 : sd_cwV Y_L_standard Y_D_standard y_D_standard 23 3 "SettingsDesk" := ⟨sd_goodV q640 q641 q642 q274 q326, ⟨_, rfl⟩, ⟨rfl, rfl, rfl, rfl⟩, ⟨rfl, by decide, by decide, by decide +kernel⟩, ⟨by decide, by decide⟩⟩
section
variable {l : Launch} {D : va_G} {dA : Nat → ClassId} {b n : Nat} {ad : Nat → Nat} {L : Nat → sdL} {sc : Option (Nat × Nat × (Nat → Int32))}
def w_L_standard (M : sdM) (a1 : Int32) (a2 : Int32) (a3 : Int32) (Q : Int32 → sdM → Prop) : Prop := w_D_standard M a1 a2 a3 (fun M1 => Q 0 M1) (fun E M1 => (E = "java/lang/IllegalStateException" ∧ Q 1 M1) ∨ (E = "java/lang/IndexOutOfBoundsException" ∧ Q 2 M1) ∨ (E = "java/lang/IllegalArgumentException" ∧ Q 3 M1))
set_option maxHeartbeats 1000000 in
theorem c_L_standard {a1 : Int32} {a2 : Int32} {a3 : Int32} (hA : sd_ad b n ad) (hT : l.stackTraces = false) (hD : isD n L dA) {Q : Int32 → sdM → Prop} {M : sdM} (hw : w_L_standard M a1 a2 a3 Q) : sd_Cn l (sdE0 sc) y_L_standard Y_L_standard.2.2.2.2.1 Y_L_standard.2.2.2.2.2.1 3 18 D (sd_tys dA) b n ad L M [.ref 0, .int a1, .int a2, .int a3] (sd_qi Q) sd_xf := by
  refine sd_enterH (Y := Y_L_standard) rfl rfl rfl (Nat.le_of_ble_eq_true rfl) ?_
  unfold w_L_standard at hw
  refine x_aload_n 0 0 dL_standard_0 rfl rfl ?_
  refine x_iload_n 1 1 dL_standard_1 rfl rfl ?_
  refine x_iload_n 2 2 dL_standard_2 rfl rfl ?_
  refine x_iload_n 3 3 dL_standard_3 rfl rfl ?_
  refine x_callVcv (As := [.int a1, .int a2, .int a3]) (t := 0) (rest := []) (rc := 0) (rs := 0) [((0, 7, 10, 13), "java/lang/IllegalStateException"), ((0, 7, 14, 19), "java/lang/IndexOutOfBoundsException"), ((0, 7, 18, 21), "java/lang/IllegalArgumentException")] rfl (List.forall_mem_cons.mpr ⟨⟨rfl, by decide, List.mem_cons_of_mem _ q634, List.mem_of_getElem? (i := 0) rfl⟩, List.forall_mem_cons.mpr ⟨⟨rfl, by decide, List.mem_cons_of_mem _ q638, List.mem_of_getElem? (i := 1) rfl⟩, List.forall_mem_cons.mpr ⟨⟨rfl, by decide, List.mem_cons_of_mem _ q639, List.mem_of_getElem? (i := 2) rfl⟩, fun _ h => absurd h List.not_mem_nil⟩⟩⟩) (c_D_standard hA hT hD hw) cw_L_standard_D_standard_23 hD.1 hD.2.1 rfl dL_standard_4 rfl rfl (Nat.le_of_ble_eq_true rfl) (fun E9 M1 hx => ?_) (fun M1 hq => ?_)
  · rcases hx with ⟨rfl, hq⟩ | ⟨rfl, hq⟩ | ⟨rfl, hq⟩
    · refine ⟨List.mem_of_getElem? (i := 0) rfl, 10, 4, 12, rfl, (Or.inr ⟨dL_standard_10, rfl⟩), by decide, ?_⟩
      refine x_iconst (v := 1) dL_standard_12 (by decide) ?_
      exact x_iret dL_standard_13 rfl (fun _ h => h) ⟨_, rfl, hq⟩
    · refine ⟨List.mem_of_getElem? (i := 1) rfl, 14, 4, 16, rfl, (Or.inr ⟨dL_standard_14, rfl⟩), by decide, ?_⟩
      refine x_iconst (v := 2) dL_standard_16 (by decide) ?_
      exact x_iret dL_standard_17 rfl (fun _ h => h) ⟨_, rfl, hq⟩
    · refine ⟨List.mem_of_getElem? (i := 2) rfl, 18, 4, 20, rfl, (Or.inr ⟨dL_standard_18, rfl⟩), by decide, ?_⟩
      refine x_iconst (v := 3) dL_standard_20 (by decide) ?_
      exact x_iret dL_standard_21 rfl (fun _ h => h) ⟨_, rfl, hq⟩
  · refine x_goto 22 dL_standard_7 rfl ?_
    refine x_iconst (v := 0) dL_standard_22 (by decide) ?_
    exact x_iret dL_standard_23 rfl (fun _ h => h) ⟨_, rfl, hq⟩
end
theorem q643 : (.methodLink "SettingsDeskLaw" 27 ⟨"SettingsDesk", "rule", "(IIIIZ)I"⟩ : Cond) ∈ sdB0 := sd_tb2 228 rfl rfl
theorem q644 : (.instanceMethod ⟨"SettingsDesk", "rule", "(IIIIZ)I"⟩ : Cond) ∈ sdB0 := sd_tb2 229 rfl rfl
theorem q645 : (.selects "SettingsDesk" ⟨"SettingsDesk", "rule", "(IIIIZ)I"⟩ ⟨"SettingsDesk", "rule", "(IIIIZ)I"⟩ : Cond) ∈ sdB0 := sd_tb2 230 rfl rfl
abbrev y_L_rule : MethodName := ⟨"SettingsDeskLaw", "rule", "(LSettingsDesk;IIIIZ[J)I"⟩
theorem dL_rule_0 : decode method_6_code 0 = .ok (.aload 6, 2) := by decide +kernel
theorem dL_rule_2 : decode method_6_code 2 = .ok (.iconst 0, 1) := by decide +kernel
theorem dL_rule_3 : decode method_6_code 3 = .ok (.aload_n 0, 1) := by decide +kernel
theorem dL_rule_4 : decode method_6_code 4 = .ok (.iload_n 1, 1) := by decide +kernel
theorem dL_rule_5 : decode method_6_code 5 = .ok (.iload_n 2, 1) := by decide +kernel
theorem dL_rule_6 : decode method_6_code 6 = .ok (.iload_n 3, 1) := by decide +kernel
theorem dL_rule_7 : decode method_6_code 7 = .ok (.iload 4, 2) := by decide +kernel
theorem dL_rule_9 : decode method_6_code 9 = .ok (.iload 5, 2) := by decide +kernel
theorem dL_rule_11 : decode method_6_code 11 = .ok (.invokevirtual 27, 3) := by decide +kernel
theorem dL_rule_14 : decode method_6_code 14 = .ok (.i2l, 1) := by decide +kernel
theorem dL_rule_15 : decode method_6_code 15 = .ok (.lastore, 1) := by decide +kernel
theorem dL_rule_16 : decode method_6_code 16 = .ok (.goto (11), 3) := by decide +kernel
theorem dL_rule_19 : decode method_6_code 19 = .ok (.astore 7, 2) := by decide +kernel
theorem dL_rule_21 : decode method_6_code 21 = .ok (.iconst 1, 1) := by decide +kernel
theorem dL_rule_22 : decode method_6_code 22 = .ok (.ireturn, 1) := by decide +kernel
theorem dL_rule_23 : decode method_6_code 23 = .ok (.astore 7, 2) := by decide +kernel
theorem dL_rule_25 : decode method_6_code 25 = .ok (.iconst 2, 1) := by decide +kernel
theorem dL_rule_26 : decode method_6_code 26 = .ok (.ireturn, 1) := by decide +kernel
theorem dL_rule_27 : decode method_6_code 27 = .ok (.iconst 0, 1) := by decide +kernel
theorem dL_rule_28 : decode method_6_code 28 = .ok (.ireturn, 1) := by decide +kernel
def Y_L_rule : sdY := ("SettingsDeskLaw", method_6_code, 8, (some .int), .codeWith y_L_rule method_6_code 8 (some .int) [(0, 16, 19, 13), (0, 16, 23, 19)] :: sdB0, { frames := 8, cells := 3, slots := 18, locals := 129 }, 3, 18, [(0, 16, 19, 13), (0, 16, 23, 19)])
theorem cw_L_rule_D_rule_27 : sd_cwV Y_L_rule Y_D_rule y_D_rule 27 5 "SettingsDesk" := ⟨sd_goodV q643 q644 q645 q274 q337, ⟨_, rfl⟩, ⟨rfl, rfl, rfl, rfl⟩, ⟨rfl, by decide, by decide, by decide +kernel⟩, ⟨by decide, by decide⟩⟩
section
variable {l : Launch} {D : va_G} {dA : Nat → ClassId} {b n : Nat} {ad : Nat → Nat} {L : Nat → sdL} {sc : Option (Nat × Nat × (Nat → Int32))}
def w_L_rule (M : sdM) (a1 : Int32) (a2 : Int32) (a3 : Int32) (a4 : Int32) (a5 : Int32) (Q : Int32 → sdM → Prop) : Prop := w_D_rule M a1 a2 a3 a4 a5 (fun r M1 => ∀ M2 : sdM, M2 = sd_s M1 134 0 r → Q 0 M2) (fun E M1 => (E = "java/lang/IllegalStateException" ∧ Q 1 M1) ∨ (E = "java/lang/IndexOutOfBoundsException" ∧ Q 2 M1))
set_option maxHeartbeats 1000000 in
theorem c_L_rule {a1 : Int32} {a2 : Int32} {a3 : Int32} {a4 : Int32} {a5 : Int32} (hA : sd_ad b n ad) (hT : l.stackTraces = false) (hD : isD n L dA) (hJ : isJ n L dA) {Q : Int32 → sdM → Prop} {M : sdM} (hw : w_L_rule M a1 a2 a3 a4 a5 Q) : sd_Cn l (sdE0 sc) y_L_rule Y_L_rule.2.2.2.2.1 Y_L_rule.2.2.2.2.2.1 3 18 D (sd_tys dA) b n ad L M [.ref 0, .int a1, .int a2, .int a3, .int a4, .int a5, .ref 134] (sd_qi Q) sd_xf := by
  refine sd_enterH (Y := Y_L_rule) rfl rfl rfl (Nat.le_of_ble_eq_true rfl) ?_
  unfold w_L_rule at hw
  refine x_aload 6 6 dL_rule_0 rfl ?_
  refine x_iconst (v := 0) dL_rule_2 (by decide) ?_
  refine x_aload_n 0 0 dL_rule_3 rfl rfl ?_
  refine x_iload_n 1 1 dL_rule_4 rfl rfl ?_
  refine x_iload_n 2 2 dL_rule_5 rfl rfl ?_
  refine x_iload_n 3 3 dL_rule_6 rfl rfl ?_
  refine x_iload 4 4 dL_rule_7 rfl ?_
  refine x_iload 5 5 dL_rule_9 rfl ?_
  refine x_callVci (As := [.int a1, .int a2, .int a3, .int a4, .int a5]) (t := 0) (rest := [.int 0, .ref 134]) (rc := 0) (rs := 0) [((0, 16, 19, 13), "java/lang/IllegalStateException"), ((0, 16, 23, 19), "java/lang/IndexOutOfBoundsException")] rfl (List.forall_mem_cons.mpr ⟨⟨rfl, by decide, List.mem_cons_of_mem _ q634, List.mem_of_getElem? (i := 0) rfl⟩, List.forall_mem_cons.mpr ⟨⟨rfl, by decide, List.mem_cons_of_mem _ q638, List.mem_of_getElem? (i := 1) rfl⟩, fun _ h => absurd h List.not_mem_nil⟩⟩) (c_D_rule hA hT hD hw) cw_L_rule_D_rule_27 hD.1 hD.2.1 rfl dL_rule_11 rfl rfl (Nat.le_of_ble_eq_true rfl) (fun E9 M1 hx => ?_) (fun r M1 hq => ?_)
  · rcases hx with ⟨rfl, hq⟩ | ⟨rfl, hq⟩
    · refine ⟨List.mem_of_getElem? (i := 0) rfl, 19, 7, 21, rfl, (Or.inr ⟨dL_rule_19, rfl⟩), by decide, ?_⟩
      refine x_iconst (v := 1) dL_rule_21 (by decide) ?_
      exact x_iret dL_rule_22 rfl (fun _ h => h) ⟨_, rfl, hq⟩
    · refine ⟨List.mem_of_getElem? (i := 1) rfl, 23, 7, 25, rfl, (Or.inr ⟨dL_rule_23, rfl⟩), by decide, ?_⟩
      refine x_iconst (v := 2) dL_rule_25 (by decide) ?_
      exact x_iret dL_rule_26 rfl (fun _ h => h) ⟨_, rfl, hq⟩
  · refine x_i2l dL_rule_14 ?_
    refine x_last (x := r) hA dL_rule_15 hJ.1 hJ.2 rfl rfl sd_in01 (fun M2 e2 => ?_)
    refine x_goto 27 dL_rule_16 rfl ?_
    refine x_iconst (v := 0) dL_rule_27 (by decide) ?_
    exact x_iret dL_rule_28 rfl (fun _ h => h) ⟨_, rfl, (hq M2 e2)⟩
end
theorem q646 : (.methodLink "SettingsDeskLaw" 31 ⟨"SettingsDesk", "ready", "()Z"⟩ : Cond) ∈ sdB0 := sd_tb3 0 rfl rfl
theorem q647 : (.code ⟨"SettingsDesk", "ready", "()Z"⟩ prog_1_method_6_code 1 (some .boolean) : Cond) ∈ sdB0 := sd_tb3 3 rfl rfl
theorem q648 : (.instanceMethod ⟨"SettingsDesk", "ready", "()Z"⟩ : Cond) ∈ sdB0 := sd_tb3 1 rfl rfl
theorem q649 : (.selects "SettingsDesk" ⟨"SettingsDesk", "ready", "()Z"⟩ ⟨"SettingsDesk", "ready", "()Z"⟩ : Cond) ∈ sdB0 := sd_tb3 2 rfl rfl
abbrev y_L_ready : MethodName := ⟨"SettingsDeskLaw", "ready", "(LSettingsDesk;[J)I"⟩
theorem dL_ready_0 : decode method_7_code 0 = .ok (.aload_n 1, 1) := by decide +kernel
theorem dL_ready_1 : decode method_7_code 1 = .ok (.iconst 0, 1) := by decide +kernel
theorem dL_ready_2 : decode method_7_code 2 = .ok (.aload_n 0, 1) := by decide +kernel
theorem dL_ready_3 : decode method_7_code 3 = .ok (.invokevirtual 31, 3) := by decide +kernel
theorem dL_ready_6 : decode method_7_code 6 = .ok (.ifCond .eq (7), 3) := by decide +kernel
theorem dL_ready_9 : decode method_7_code 9 = .ok (.lconst 1, 1) := by decide +kernel
theorem dL_ready_10 : decode method_7_code 10 = .ok (.goto (4), 3) := by decide +kernel
theorem dL_ready_13 : decode method_7_code 13 = .ok (.lconst 0, 1) := by decide +kernel
theorem dL_ready_14 : decode method_7_code 14 = .ok (.lastore, 1) := by decide +kernel
theorem dL_ready_15 : decode method_7_code 15 = .ok (.goto (6), 3) := by decide +kernel
theorem dL_ready_18 : decode method_7_code 18 = .ok (.astore_n 2, 1) := by decide +kernel
theorem dL_ready_19 : decode method_7_code 19 = .ok (.iconst 1, 1) := by decide +kernel
theorem dL_ready_20 : decode method_7_code 20 = .ok (.ireturn, 1) := by decide +kernel
theorem dL_ready_21 : decode method_7_code 21 = .ok (.iconst 0, 1) := by decide +kernel
theorem dL_ready_22 : decode method_7_code 22 = .ok (.ireturn, 1) := by decide +kernel
def Y_L_ready : sdY := ("SettingsDeskLaw", method_7_code, 3, (some .int), .codeWith y_L_ready method_7_code 3 (some .int) [(0, 15, 18, 13)] :: sdB0, { frames := 8, cells := 3, slots := 13, locals := 158 }, 3, 13, [(0, 15, 18, 13)])
theorem cw_L_ready_D_ready_31 : sd_cwV Y_L_ready Y_D_ready y_D_ready 31 0 "SettingsDesk" := ⟨sd_goodV q646 q648 q649 q274 q647, ⟨_, rfl⟩, ⟨rfl, rfl, rfl, rfl⟩, ⟨rfl, by decide, by decide, by decide +kernel⟩, ⟨by decide, by decide⟩⟩
section
variable {l : Launch} {D : va_G} {dA : Nat → ClassId} {b n : Nat} {ad : Nat → Nat} {L : Nat → sdL} {sc : Option (Nat × Nat × (Nat → Int32))}
def w_L_ready (n : Nat) (M : sdM) (Q : Int32 → sdM → Prop) : Prop := w_D_ready n M  (fun r M1 => ∀ M2 : sdM, M2 = sd_s M1 134 0 (if r = 0 then 0 else 1) → Q 0 M2) (fun E M1 => (E = "java/lang/IllegalStateException" ∧ Q 1 M1))
set_option maxHeartbeats 1000000 in
theorem c_L_ready (hA : sd_ad b n ad) (hT : l.stackTraces = false) (hD : isD n L dA) (hJ : isJ n L dA) (hloc : sd_loc n L) {Q : Int32 → sdM → Prop} {M : sdM} (hw : w_L_ready n M  Q) : sd_Cn l (sdE0 sc) y_L_ready Y_L_ready.2.2.2.2.1 Y_L_ready.2.2.2.2.2.1 3 13 D (sd_tys dA) b n ad L M [.ref 0, .ref 134] (sd_qi Q) sd_xf := by
  refine sd_enterH (Y := Y_L_ready) rfl rfl rfl (Nat.le_of_ble_eq_true rfl) ?_
  unfold w_L_ready at hw
  refine x_aload_n 1 1 dL_ready_0 rfl rfl ?_
  refine x_iconst (v := 0) dL_ready_1 (by decide) ?_
  refine x_aload_n 0 0 dL_ready_2 rfl rfl ?_
  refine x_callVci (As := []) (t := 0) (rest := [.int 0, .ref 134]) (rc := 0) (rs := 0) [((0, 15, 18, 13), "java/lang/IllegalStateException")] rfl (List.forall_mem_cons.mpr ⟨⟨rfl, by decide, List.mem_cons_of_mem _ q634, List.mem_of_getElem? (i := 0) rfl⟩, fun _ h => absurd h List.not_mem_nil⟩) (c_D_ready hA hT hD hloc hw) cw_L_ready_D_ready_31 hD.1 hD.2.1 rfl dL_ready_3 rfl rfl (Nat.le_of_ble_eq_true rfl) (fun E9 M1 hx => ?_) (fun r M1 hq => ?_)
  · obtain ⟨rfl, hq⟩ := hx
    · refine ⟨List.mem_of_getElem? (i := 0) rfl, 18, 2, 19, rfl, (Or.inl ⟨2, dL_ready_18, rfl, rfl⟩), by decide, ?_⟩
      refine x_iconst (v := 1) dL_ready_19 (by decide) ?_
      exact x_iret dL_ready_20 rfl (fun _ h => h) ⟨_, rfl, hq⟩
  · refine x_if_eq 13 dL_ready_6 rfl (fun h0 => ?_) (fun h0 => ?_)
    · rw [if_pos h0] at hq
      refine x_lconst (v := 0) dL_ready_13 (by decide) ?_
      refine x_last (x := 0) hA dL_ready_14 hJ.1 hJ.2 rfl rfl sd_in01 (fun M2 e2 => ?_)
      refine x_goto 21 dL_ready_15 rfl ?_
      refine x_iconst (v := 0) dL_ready_21 (by decide) ?_
      exact x_iret dL_ready_22 rfl (fun _ h => h) ⟨_, rfl, (hq M2 e2)⟩
    · rw [if_neg h0] at hq
      refine x_lconst (v := 1) dL_ready_9 (by decide) ?_
      refine x_goto 14 dL_ready_10 rfl ?_
      refine x_last (x := 1) hA dL_ready_14 hJ.1 hJ.2 rfl rfl sd_in01 (fun M2 e2 => ?_)
      refine x_goto 21 dL_ready_15 rfl ?_
      refine x_iconst (v := 0) dL_ready_21 (by decide) ?_
      exact x_iret dL_ready_22 rfl (fun _ h => h) ⟨_, rfl, (hq M2 e2)⟩
end
theorem q650 : (.methodLink "SettingsDeskLaw" 35 ⟨"SettingsDesk", "begin", "(I)I"⟩ : Cond) ∈ sdB0 := sd_tb3 84 rfl rfl
theorem q651 : (.code ⟨"SettingsDesk", "begin", "(I)I"⟩ prog_1_method_7_code 2 (some .int) : Cond) ∈ sdB0 := sd_tb3 87 rfl rfl
theorem q652 : (.instanceMethod ⟨"SettingsDesk", "begin", "(I)I"⟩ : Cond) ∈ sdB0 := sd_tb3 85 rfl rfl
theorem q653 : (.selects "SettingsDesk" ⟨"SettingsDesk", "begin", "(I)I"⟩ ⟨"SettingsDesk", "begin", "(I)I"⟩ : Cond) ∈ sdB0 := sd_tb3 86 rfl rfl
abbrev y_L_begin : MethodName := ⟨"SettingsDeskLaw", "begin", "(LSettingsDesk;I[J)I"⟩
theorem dL_begin_0 : decode method_8_code 0 = .ok (.aload_n 2, 1) := by decide +kernel
theorem dL_begin_1 : decode method_8_code 1 = .ok (.iconst 0, 1) := by decide +kernel
theorem dL_begin_2 : decode method_8_code 2 = .ok (.aload_n 0, 1) := by decide +kernel
theorem dL_begin_3 : decode method_8_code 3 = .ok (.iload_n 1, 1) := by decide +kernel
theorem dL_begin_4 : decode method_8_code 4 = .ok (.invokevirtual 35, 3) := by decide +kernel
theorem dL_begin_7 : decode method_8_code 7 = .ok (.i2l, 1) := by decide +kernel
theorem dL_begin_8 : decode method_8_code 8 = .ok (.lastore, 1) := by decide +kernel
theorem dL_begin_9 : decode method_8_code 9 = .ok (.goto (9), 3) := by decide +kernel
theorem dL_begin_12 : decode method_8_code 12 = .ok (.astore_n 3, 1) := by decide +kernel
theorem dL_begin_13 : decode method_8_code 13 = .ok (.iconst 1, 1) := by decide +kernel
theorem dL_begin_14 : decode method_8_code 14 = .ok (.ireturn, 1) := by decide +kernel
theorem dL_begin_15 : decode method_8_code 15 = .ok (.astore_n 3, 1) := by decide +kernel
theorem dL_begin_16 : decode method_8_code 16 = .ok (.iconst 2, 1) := by decide +kernel
theorem dL_begin_17 : decode method_8_code 17 = .ok (.ireturn, 1) := by decide +kernel
theorem dL_begin_18 : decode method_8_code 18 = .ok (.iconst 0, 1) := by decide +kernel
theorem dL_begin_19 : decode method_8_code 19 = .ok (.ireturn, 1) := by decide +kernel
def Y_L_begin : sdY := ("SettingsDeskLaw", method_8_code, 4, (some .int), .codeWith y_L_begin method_8_code 4 (some .int) [(0, 9, 12, 13), (0, 9, 15, 19)] :: sdB0, { frames := 8, cells := 2, slots := 12, locals := 124 }, 2, 12, [(0, 9, 12, 13), (0, 9, 15, 19)])
theorem cw_L_begin_D_begin_35 : sd_cwV Y_L_begin Y_D_begin y_D_begin 35 1 "SettingsDesk" := ⟨sd_goodV q650 q652 q653 q274 q651, ⟨_, rfl⟩, ⟨rfl, rfl, rfl, rfl⟩, ⟨rfl, by decide, by decide, by decide +kernel⟩, ⟨by decide, by decide⟩⟩
section
variable {l : Launch} {D : va_G} {dA : Nat → ClassId} {b n : Nat} {ad : Nat → Nat} {L : Nat → sdL} {sc : Option (Nat × Nat × (Nat → Int32))}
def w_L_begin (M : sdM) (a1 : Int32) (Q : Int32 → sdM → Prop) : Prop := w_D_begin M a1 (fun r M1 => ∀ M2 : sdM, M2 = sd_s M1 134 0 r → Q 0 M2) (fun E M1 => (E = "java/lang/IllegalStateException" ∧ Q 1 M1) ∨ (E = "java/lang/IndexOutOfBoundsException" ∧ Q 2 M1))
set_option maxHeartbeats 1000000 in
theorem c_L_begin {a1 : Int32} (hA : sd_ad b n ad) (hT : l.stackTraces = false) (hD : isD n L dA) (hJ : isJ n L dA) {Q : Int32 → sdM → Prop} {M : sdM} (hw : w_L_begin M a1 Q) : sd_Cn l (sdE0 sc) y_L_begin Y_L_begin.2.2.2.2.1 Y_L_begin.2.2.2.2.2.1 2 12 D (sd_tys dA) b n ad L M [.ref 0, .int a1, .ref 134] (sd_qi Q) sd_xf := by
  refine sd_enterH (Y := Y_L_begin) rfl rfl rfl (Nat.le_of_ble_eq_true rfl) ?_
  unfold w_L_begin at hw
  refine x_aload_n 2 2 dL_begin_0 rfl rfl ?_
  refine x_iconst (v := 0) dL_begin_1 (by decide) ?_
  refine x_aload_n 0 0 dL_begin_2 rfl rfl ?_
  refine x_iload_n 1 1 dL_begin_3 rfl rfl ?_
  refine x_callVci (As := [.int a1]) (t := 0) (rest := [.int 0, .ref 134]) (rc := 0) (rs := 0) [((0, 9, 12, 13), "java/lang/IllegalStateException"), ((0, 9, 15, 19), "java/lang/IndexOutOfBoundsException")] rfl (List.forall_mem_cons.mpr ⟨⟨rfl, by decide, List.mem_cons_of_mem _ q634, List.mem_of_getElem? (i := 0) rfl⟩, List.forall_mem_cons.mpr ⟨⟨rfl, by decide, List.mem_cons_of_mem _ q638, List.mem_of_getElem? (i := 1) rfl⟩, fun _ h => absurd h List.not_mem_nil⟩⟩) (c_D_begin hA hT hD hw) cw_L_begin_D_begin_35 hD.1 hD.2.1 rfl dL_begin_4 rfl rfl (Nat.le_of_ble_eq_true rfl) (fun E9 M1 hx => ?_) (fun r M1 hq => ?_)
  · rcases hx with ⟨rfl, hq⟩ | ⟨rfl, hq⟩
    · refine ⟨List.mem_of_getElem? (i := 0) rfl, 12, 3, 13, rfl, (Or.inl ⟨3, dL_begin_12, rfl, rfl⟩), by decide, ?_⟩
      refine x_iconst (v := 1) dL_begin_13 (by decide) ?_
      exact x_iret dL_begin_14 rfl (fun _ h => h) ⟨_, rfl, hq⟩
    · refine ⟨List.mem_of_getElem? (i := 1) rfl, 15, 3, 16, rfl, (Or.inl ⟨3, dL_begin_15, rfl, rfl⟩), by decide, ?_⟩
      refine x_iconst (v := 2) dL_begin_16 (by decide) ?_
      exact x_iret dL_begin_17 rfl (fun _ h => h) ⟨_, rfl, hq⟩
  · refine x_i2l dL_begin_7 ?_
    refine x_last (x := r) hA dL_begin_8 hJ.1 hJ.2 rfl rfl sd_in01 (fun M2 e2 => ?_)
    refine x_goto 18 dL_begin_9 rfl ?_
    refine x_iconst (v := 0) dL_begin_18 (by decide) ?_
    exact x_iret dL_begin_19 rfl (fun _ h => h) ⟨_, rfl, (hq M2 e2)⟩
end
theorem q654 : (.methodLink "SettingsDeskLaw" 39 ⟨"SettingsDesk", "entry", "(IIIZ)Z"⟩ : Cond) ∈ sdB0 := sd_tb3 111 rfl rfl
theorem q655 : (.instanceMethod ⟨"SettingsDesk", "entry", "(IIIZ)Z"⟩ : Cond) ∈ sdB0 := sd_tb3 112 rfl rfl
theorem q656 : (.selects "SettingsDesk" ⟨"SettingsDesk", "entry", "(IIIZ)Z"⟩ ⟨"SettingsDesk", "entry", "(IIIZ)Z"⟩ : Cond) ∈ sdB0 := sd_tb3 113 rfl rfl
theorem q657 : (.classLink "SettingsDeskLaw" 43 "java/lang/UnsupportedOperationException" : Cond) ∈ sdB0 := sd_tb3 110 rfl rfl
abbrev y_L_entry : MethodName := ⟨"SettingsDeskLaw", "entry", "(LSettingsDesk;IIIZ[J)I"⟩
theorem dL_entry_0 : decode method_9_code 0 = .ok (.aload 5, 2) := by decide +kernel
theorem dL_entry_2 : decode method_9_code 2 = .ok (.iconst 0, 1) := by decide +kernel
theorem dL_entry_3 : decode method_9_code 3 = .ok (.aload_n 0, 1) := by decide +kernel
theorem dL_entry_4 : decode method_9_code 4 = .ok (.iload_n 1, 1) := by decide +kernel
theorem dL_entry_5 : decode method_9_code 5 = .ok (.iload_n 2, 1) := by decide +kernel
theorem dL_entry_6 : decode method_9_code 6 = .ok (.iload_n 3, 1) := by decide +kernel
theorem dL_entry_7 : decode method_9_code 7 = .ok (.iload 4, 2) := by decide +kernel
theorem dL_entry_9 : decode method_9_code 9 = .ok (.invokevirtual 39, 3) := by decide +kernel
theorem dL_entry_12 : decode method_9_code 12 = .ok (.ifCond .eq (7), 3) := by decide +kernel
theorem dL_entry_15 : decode method_9_code 15 = .ok (.lconst 1, 1) := by decide +kernel
theorem dL_entry_16 : decode method_9_code 16 = .ok (.goto (4), 3) := by decide +kernel
theorem dL_entry_19 : decode method_9_code 19 = .ok (.lconst 0, 1) := by decide +kernel
theorem dL_entry_20 : decode method_9_code 20 = .ok (.lastore, 1) := by decide +kernel
theorem dL_entry_21 : decode method_9_code 21 = .ok (.goto (19), 3) := by decide +kernel
theorem dL_entry_24 : decode method_9_code 24 = .ok (.astore 6, 2) := by decide +kernel
theorem dL_entry_26 : decode method_9_code 26 = .ok (.iconst 1, 1) := by decide +kernel
theorem dL_entry_27 : decode method_9_code 27 = .ok (.ireturn, 1) := by decide +kernel
theorem dL_entry_28 : decode method_9_code 28 = .ok (.astore 6, 2) := by decide +kernel
theorem dL_entry_30 : decode method_9_code 30 = .ok (.iconst 2, 1) := by decide +kernel
theorem dL_entry_31 : decode method_9_code 31 = .ok (.ireturn, 1) := by decide +kernel
theorem dL_entry_32 : decode method_9_code 32 = .ok (.astore 6, 2) := by decide +kernel
theorem dL_entry_34 : decode method_9_code 34 = .ok (.iconst 3, 1) := by decide +kernel
theorem dL_entry_35 : decode method_9_code 35 = .ok (.ireturn, 1) := by decide +kernel
theorem dL_entry_36 : decode method_9_code 36 = .ok (.astore 6, 2) := by decide +kernel
theorem dL_entry_38 : decode method_9_code 38 = .ok (.iconst 4, 1) := by decide +kernel
theorem dL_entry_39 : decode method_9_code 39 = .ok (.ireturn, 1) := by decide +kernel
theorem dL_entry_40 : decode method_9_code 40 = .ok (.iconst 0, 1) := by decide +kernel
theorem dL_entry_41 : decode method_9_code 41 = .ok (.ireturn, 1) := by decide +kernel
def Y_L_entry : sdY := ("SettingsDeskLaw", method_9_code, 7, (some .int), .codeWith y_L_entry method_9_code 7 (some .int) [(0, 21, 24, 13), (0, 21, 28, 19), (0, 21, 32, 21), (0, 21, 36, 43)] :: sdB0, { frames := 8, cells := 5, slots := 30, locals := 129 }, 5, 30, [(0, 21, 24, 13), (0, 21, 28, 19), (0, 21, 32, 21), (0, 21, 36, 43)])
theorem cw_L_entry_D_entry_39 : sd_cwV Y_L_entry Y_D_entry y_D_entry 39 4 "SettingsDesk" := ⟨sd_goodV q654 q655 q656 q274 q361, ⟨_, rfl⟩, ⟨rfl, rfl, rfl, rfl⟩, ⟨rfl, by decide, by decide, by decide +kernel⟩, ⟨by decide, by decide⟩⟩
section
variable {l : Launch} {D : va_G} {dA : Nat → ClassId} {b n : Nat} {ad : Nat → Nat} {L : Nat → sdL} {sc : Option (Nat × Nat × (Nat → Int32))}
def w_L_entry (M : sdM) (a1 : Int32) (a2 : Int32) (a3 : Int32) (a4 : Int32) (Q : Int32 → sdM → Prop) : Prop := w_D_entry M a1 a2 a3 a4 (fun r M1 => ∀ M2 : sdM, M2 = sd_s M1 134 0 (if r = 0 then 0 else 1) → Q 0 M2) (fun E M1 => (E = "java/lang/IllegalStateException" ∧ Q 1 M1) ∨ (E = "java/lang/IndexOutOfBoundsException" ∧ Q 2 M1) ∨ (E = "java/lang/IllegalArgumentException" ∧ Q 3 M1) ∨ (E = "java/lang/UnsupportedOperationException" ∧ Q 4 M1))
set_option maxHeartbeats 1000000 in
theorem c_L_entry {a1 : Int32} {a2 : Int32} {a3 : Int32} {a4 : Int32} (hA : sd_ad b n ad) (hT : l.stackTraces = false) (hD : isD n L dA) (hJ : isJ n L dA) {Q : Int32 → sdM → Prop} {M : sdM} (hw : w_L_entry M a1 a2 a3 a4 Q) : sd_Cn l (sdE0 sc) y_L_entry Y_L_entry.2.2.2.2.1 Y_L_entry.2.2.2.2.2.1 5 30 D (sd_tys dA) b n ad L M [.ref 0, .int a1, .int a2, .int a3, .int a4, .ref 134] (sd_qi Q) sd_xf := by
  refine sd_enterH (Y := Y_L_entry) rfl rfl rfl (Nat.le_of_ble_eq_true rfl) ?_
  unfold w_L_entry at hw
  refine x_aload 5 5 dL_entry_0 rfl ?_
  refine x_iconst (v := 0) dL_entry_2 (by decide) ?_
  refine x_aload_n 0 0 dL_entry_3 rfl rfl ?_
  refine x_iload_n 1 1 dL_entry_4 rfl rfl ?_
  refine x_iload_n 2 2 dL_entry_5 rfl rfl ?_
  refine x_iload_n 3 3 dL_entry_6 rfl rfl ?_
  refine x_iload 4 4 dL_entry_7 rfl ?_
  refine x_callVci (As := [.int a1, .int a2, .int a3, .int a4]) (t := 0) (rest := [.int 0, .ref 134]) (rc := 0) (rs := 0) [((0, 21, 24, 13), "java/lang/IllegalStateException"), ((0, 21, 28, 19), "java/lang/IndexOutOfBoundsException"), ((0, 21, 32, 21), "java/lang/IllegalArgumentException"), ((0, 21, 36, 43), "java/lang/UnsupportedOperationException")] rfl (List.forall_mem_cons.mpr ⟨⟨rfl, by decide, List.mem_cons_of_mem _ q634, List.mem_of_getElem? (i := 0) rfl⟩, List.forall_mem_cons.mpr ⟨⟨rfl, by decide, List.mem_cons_of_mem _ q638, List.mem_of_getElem? (i := 1) rfl⟩, List.forall_mem_cons.mpr ⟨⟨rfl, by decide, List.mem_cons_of_mem _ q639, List.mem_of_getElem? (i := 2) rfl⟩, List.forall_mem_cons.mpr ⟨⟨rfl, by decide, List.mem_cons_of_mem _ q657, List.mem_of_getElem? (i := 3) rfl⟩, fun _ h => absurd h List.not_mem_nil⟩⟩⟩⟩) (c_D_entry hA hT hD hw) cw_L_entry_D_entry_39 hD.1 hD.2.1 rfl dL_entry_9 rfl rfl (Nat.le_of_ble_eq_true rfl) (fun E9 M1 hx => ?_) (fun r M1 hq => ?_)
  · rcases hx with ⟨rfl, hq⟩ | ⟨rfl, hq⟩ | ⟨rfl, hq⟩ | ⟨rfl, hq⟩
    · refine ⟨List.mem_of_getElem? (i := 0) rfl, 24, 6, 26, rfl, (Or.inr ⟨dL_entry_24, rfl⟩), by decide, ?_⟩
      refine x_iconst (v := 1) dL_entry_26 (by decide) ?_
      exact x_iret dL_entry_27 rfl (fun _ h => h) ⟨_, rfl, hq⟩
    · refine ⟨List.mem_of_getElem? (i := 1) rfl, 28, 6, 30, rfl, (Or.inr ⟨dL_entry_28, rfl⟩), by decide, ?_⟩
      refine x_iconst (v := 2) dL_entry_30 (by decide) ?_
      exact x_iret dL_entry_31 rfl (fun _ h => h) ⟨_, rfl, hq⟩
    · refine ⟨List.mem_of_getElem? (i := 2) rfl, 32, 6, 34, rfl, (Or.inr ⟨dL_entry_32, rfl⟩), by decide, ?_⟩
      refine x_iconst (v := 3) dL_entry_34 (by decide) ?_
      exact x_iret dL_entry_35 rfl (fun _ h => h) ⟨_, rfl, hq⟩
    · refine ⟨List.mem_of_getElem? (i := 3) rfl, 36, 6, 38, rfl, (Or.inr ⟨dL_entry_36, rfl⟩), by decide, ?_⟩
      refine x_iconst (v := 4) dL_entry_38 (by decide) ?_
      exact x_iret dL_entry_39 rfl (fun _ h => h) ⟨_, rfl, hq⟩
  · refine x_if_eq 19 dL_entry_12 rfl (fun h0 => ?_) (fun h0 => ?_)
    · rw [if_pos h0] at hq
      refine x_lconst (v := 0) dL_entry_19 (by decide) ?_
      refine x_last (x := 0) hA dL_entry_20 hJ.1 hJ.2 rfl rfl sd_in01 (fun M2 e2 => ?_)
      refine x_goto 40 dL_entry_21 rfl ?_
      refine x_iconst (v := 0) dL_entry_40 (by decide) ?_
      exact x_iret dL_entry_41 rfl (fun _ h => h) ⟨_, rfl, (hq M2 e2)⟩
    · rw [if_neg h0] at hq
      refine x_lconst (v := 1) dL_entry_15 (by decide) ?_
      refine x_goto 20 dL_entry_16 rfl ?_
      refine x_last (x := 1) hA dL_entry_20 hJ.1 hJ.2 rfl rfl sd_in01 (fun M2 e2 => ?_)
      refine x_goto 40 dL_entry_21 rfl ?_
      refine x_iconst (v := 0) dL_entry_40 (by decide) ?_
      exact x_iret dL_entry_41 rfl (fun _ h => h) ⟨_, rfl, (hq M2 e2)⟩
end
theorem q658 : (.methodLink "SettingsDeskLaw" 45 ⟨"SettingsDesk", "set", "(IIIII)V"⟩ : Cond) ∈ sdB0 := sd_tb3 157 rfl rfl
theorem q659 : (.instanceMethod ⟨"SettingsDesk", "set", "(IIIII)V"⟩ : Cond) ∈ sdB0 := sd_tb3 158 rfl rfl
theorem q660 : (.selects "SettingsDesk" ⟨"SettingsDesk", "set", "(IIIII)V"⟩ ⟨"SettingsDesk", "set", "(IIIII)V"⟩ : Cond) ∈ sdB0 := sd_tb3 159 rfl rfl
abbrev y_L_set : MethodName := ⟨"SettingsDeskLaw", "set", "(LSettingsDesk;IIIII)I"⟩
theorem dL_set_0 : decode method_10_code 0 = .ok (.aload_n 0, 1) := by decide +kernel
theorem dL_set_1 : decode method_10_code 1 = .ok (.iload_n 1, 1) := by decide +kernel
theorem dL_set_2 : decode method_10_code 2 = .ok (.iload_n 2, 1) := by decide +kernel
theorem dL_set_3 : decode method_10_code 3 = .ok (.iload_n 3, 1) := by decide +kernel
theorem dL_set_4 : decode method_10_code 4 = .ok (.iload 4, 2) := by decide +kernel
theorem dL_set_6 : decode method_10_code 6 = .ok (.iload 5, 2) := by decide +kernel
theorem dL_set_8 : decode method_10_code 8 = .ok (.invokevirtual 45, 3) := by decide +kernel
theorem dL_set_11 : decode method_10_code 11 = .ok (.goto (15), 3) := by decide +kernel
theorem dL_set_14 : decode method_10_code 14 = .ok (.astore 6, 2) := by decide +kernel
theorem dL_set_16 : decode method_10_code 16 = .ok (.iconst 1, 1) := by decide +kernel
theorem dL_set_17 : decode method_10_code 17 = .ok (.ireturn, 1) := by decide +kernel
theorem dL_set_18 : decode method_10_code 18 = .ok (.astore 6, 2) := by decide +kernel
theorem dL_set_20 : decode method_10_code 20 = .ok (.iconst 2, 1) := by decide +kernel
theorem dL_set_21 : decode method_10_code 21 = .ok (.ireturn, 1) := by decide +kernel
theorem dL_set_22 : decode method_10_code 22 = .ok (.astore 6, 2) := by decide +kernel
theorem dL_set_24 : decode method_10_code 24 = .ok (.iconst 3, 1) := by decide +kernel
theorem dL_set_25 : decode method_10_code 25 = .ok (.ireturn, 1) := by decide +kernel
theorem dL_set_26 : decode method_10_code 26 = .ok (.iconst 0, 1) := by decide +kernel
theorem dL_set_27 : decode method_10_code 27 = .ok (.ireturn, 1) := by decide +kernel
def Y_L_set : sdY := ("SettingsDeskLaw", method_10_code, 7, (some .int), .codeWith y_L_set method_10_code 7 (some .int) [(0, 11, 14, 13), (0, 11, 18, 19), (0, 11, 22, 21)] :: sdB0, { frames := 9, cells := 6, slots := 36, locals := 155 }, 6, 36, [(0, 11, 14, 13), (0, 11, 18, 19), (0, 11, 22, 21)])
theorem cw_L_set_D_set_45 : sd_cwV Y_L_set Y_D_set y_D_set 45 5 "SettingsDesk" := ⟨sd_goodV q658 q659 q660 q274 q375, ⟨_, rfl⟩, ⟨rfl, rfl, rfl, rfl⟩, ⟨rfl, by decide, by decide, by decide +kernel⟩, ⟨by decide, by decide⟩⟩
section
variable {l : Launch} {D : va_G} {dA : Nat → ClassId} {b n : Nat} {ad : Nat → Nat} {L : Nat → sdL} {sc : Option (Nat × Nat × (Nat → Int32))}
def w_L_set (M : sdM) (a1 : Int32) (a2 : Int32) (a3 : Int32) (a4 : Int32) (a5 : Int32) (Q : Int32 → sdM → Prop) : Prop := w_D_set M a1 a2 a3 a4 a5 (fun M1 => Q 0 M1) (fun E M1 => (E = "java/lang/IllegalStateException" ∧ Q 1 M1) ∨ (E = "java/lang/IndexOutOfBoundsException" ∧ Q 2 M1) ∨ (E = "java/lang/IllegalArgumentException" ∧ Q 3 M1))
set_option maxHeartbeats 1000000 in
theorem c_L_set {a1 : Int32} {a2 : Int32} {a3 : Int32} {a4 : Int32} {a5 : Int32} (hA : sd_ad b n ad) (hT : l.stackTraces = false) (hD : isD n L dA) {Q : Int32 → sdM → Prop} {M : sdM} (hw : w_L_set M a1 a2 a3 a4 a5 Q) : sd_Cn l (sdE0 sc) y_L_set Y_L_set.2.2.2.2.1 Y_L_set.2.2.2.2.2.1 6 36 D (sd_tys dA) b n ad L M [.ref 0, .int a1, .int a2, .int a3, .int a4, .int a5] (sd_qi Q) sd_xf := by
  refine sd_enterH (Y := Y_L_set) rfl rfl rfl (Nat.le_of_ble_eq_true rfl) ?_
  unfold w_L_set at hw
  refine x_aload_n 0 0 dL_set_0 rfl rfl ?_
  refine x_iload_n 1 1 dL_set_1 rfl rfl ?_
  refine x_iload_n 2 2 dL_set_2 rfl rfl ?_
  refine x_iload_n 3 3 dL_set_3 rfl rfl ?_
  refine x_iload 4 4 dL_set_4 rfl ?_
  refine x_iload 5 5 dL_set_6 rfl ?_
  refine x_callVcv (As := [.int a1, .int a2, .int a3, .int a4, .int a5]) (t := 0) (rest := []) (rc := 0) (rs := 0) [((0, 11, 14, 13), "java/lang/IllegalStateException"), ((0, 11, 18, 19), "java/lang/IndexOutOfBoundsException"), ((0, 11, 22, 21), "java/lang/IllegalArgumentException")] rfl (List.forall_mem_cons.mpr ⟨⟨rfl, by decide, List.mem_cons_of_mem _ q634, List.mem_of_getElem? (i := 0) rfl⟩, List.forall_mem_cons.mpr ⟨⟨rfl, by decide, List.mem_cons_of_mem _ q638, List.mem_of_getElem? (i := 1) rfl⟩, List.forall_mem_cons.mpr ⟨⟨rfl, by decide, List.mem_cons_of_mem _ q639, List.mem_of_getElem? (i := 2) rfl⟩, fun _ h => absurd h List.not_mem_nil⟩⟩⟩) (c_D_set hA hT hD hw) cw_L_set_D_set_45 hD.1 hD.2.1 rfl dL_set_8 rfl rfl (Nat.le_of_ble_eq_true rfl) (fun E9 M1 hx => ?_) (fun M1 hq => ?_)
  · rcases hx with ⟨rfl, hq⟩ | ⟨rfl, hq⟩ | ⟨rfl, hq⟩
    · refine ⟨List.mem_of_getElem? (i := 0) rfl, 14, 6, 16, rfl, (Or.inr ⟨dL_set_14, rfl⟩), by decide, ?_⟩
      refine x_iconst (v := 1) dL_set_16 (by decide) ?_
      exact x_iret dL_set_17 rfl (fun _ h => h) ⟨_, rfl, hq⟩
    · refine ⟨List.mem_of_getElem? (i := 1) rfl, 18, 6, 20, rfl, (Or.inr ⟨dL_set_18, rfl⟩), by decide, ?_⟩
      refine x_iconst (v := 2) dL_set_20 (by decide) ?_
      exact x_iret dL_set_21 rfl (fun _ h => h) ⟨_, rfl, hq⟩
    · refine ⟨List.mem_of_getElem? (i := 2) rfl, 22, 6, 24, rfl, (Or.inr ⟨dL_set_22, rfl⟩), by decide, ?_⟩
      refine x_iconst (v := 3) dL_set_24 (by decide) ?_
      exact x_iret dL_set_25 rfl (fun _ h => h) ⟨_, rfl, hq⟩
  · refine x_goto 26 dL_set_11 rfl ?_
    refine x_iconst (v := 0) dL_set_26 (by decide) ?_
    exact x_iret dL_set_27 rfl (fun _ h => h) ⟨_, rfl, hq⟩
end
theorem q661 : (.methodLink "SettingsDeskLaw" 49 ⟨"SettingsDesk", "unset", "(IIII)Z"⟩ : Cond) ∈ sdB0 := sd_tb3 174 rfl rfl
theorem q662 : (.code ⟨"SettingsDesk", "unset", "(IIII)Z"⟩ prog_1_method_10_code 8 (some .boolean) : Cond) ∈ sdB0 := sd_tb3 177 rfl rfl
theorem q663 : (.instanceMethod ⟨"SettingsDesk", "unset", "(IIII)Z"⟩ : Cond) ∈ sdB0 := sd_tb3 175 rfl rfl
theorem q664 : (.selects "SettingsDesk" ⟨"SettingsDesk", "unset", "(IIII)Z"⟩ ⟨"SettingsDesk", "unset", "(IIII)Z"⟩ : Cond) ∈ sdB0 := sd_tb3 176 rfl rfl
abbrev y_L_unset : MethodName := ⟨"SettingsDeskLaw", "unset", "(LSettingsDesk;IIII[J)I"⟩
theorem dL_unset_0 : decode method_11_code 0 = .ok (.aload 5, 2) := by decide +kernel
theorem dL_unset_2 : decode method_11_code 2 = .ok (.iconst 0, 1) := by decide +kernel
theorem dL_unset_3 : decode method_11_code 3 = .ok (.aload_n 0, 1) := by decide +kernel
theorem dL_unset_4 : decode method_11_code 4 = .ok (.iload_n 1, 1) := by decide +kernel
theorem dL_unset_5 : decode method_11_code 5 = .ok (.iload_n 2, 1) := by decide +kernel
theorem dL_unset_6 : decode method_11_code 6 = .ok (.iload_n 3, 1) := by decide +kernel
theorem dL_unset_7 : decode method_11_code 7 = .ok (.iload 4, 2) := by decide +kernel
theorem dL_unset_9 : decode method_11_code 9 = .ok (.invokevirtual 49, 3) := by decide +kernel
theorem dL_unset_12 : decode method_11_code 12 = .ok (.ifCond .eq (7), 3) := by decide +kernel
theorem dL_unset_15 : decode method_11_code 15 = .ok (.lconst 1, 1) := by decide +kernel
theorem dL_unset_16 : decode method_11_code 16 = .ok (.goto (4), 3) := by decide +kernel
theorem dL_unset_19 : decode method_11_code 19 = .ok (.lconst 0, 1) := by decide +kernel
theorem dL_unset_20 : decode method_11_code 20 = .ok (.lastore, 1) := by decide +kernel
theorem dL_unset_21 : decode method_11_code 21 = .ok (.goto (11), 3) := by decide +kernel
theorem dL_unset_24 : decode method_11_code 24 = .ok (.astore 6, 2) := by decide +kernel
theorem dL_unset_26 : decode method_11_code 26 = .ok (.iconst 1, 1) := by decide +kernel
theorem dL_unset_27 : decode method_11_code 27 = .ok (.ireturn, 1) := by decide +kernel
theorem dL_unset_28 : decode method_11_code 28 = .ok (.astore 6, 2) := by decide +kernel
theorem dL_unset_30 : decode method_11_code 30 = .ok (.iconst 2, 1) := by decide +kernel
theorem dL_unset_31 : decode method_11_code 31 = .ok (.ireturn, 1) := by decide +kernel
theorem dL_unset_32 : decode method_11_code 32 = .ok (.iconst 0, 1) := by decide +kernel
theorem dL_unset_33 : decode method_11_code 33 = .ok (.ireturn, 1) := by decide +kernel
def Y_L_unset : sdY := ("SettingsDeskLaw", method_11_code, 7, (some .int), .codeWith y_L_unset method_11_code 7 (some .int) [(0, 21, 24, 13), (0, 21, 28, 19)] :: sdB0, { frames := 9, cells := 5, slots := 30, locals := 156 }, 5, 30, [(0, 21, 24, 13), (0, 21, 28, 19)])
theorem cw_L_unset_D_unset_49 : sd_cwV Y_L_unset Y_D_unset y_D_unset 49 4 "SettingsDesk" := ⟨sd_goodV q661 q663 q664 q274 q662, ⟨_, rfl⟩, ⟨rfl, rfl, rfl, rfl⟩, ⟨rfl, by decide, by decide, by decide +kernel⟩, ⟨by decide, by decide⟩⟩
section
variable {l : Launch} {D : va_G} {dA : Nat → ClassId} {b n : Nat} {ad : Nat → Nat} {L : Nat → sdL} {sc : Option (Nat × Nat × (Nat → Int32))}
def w_L_unset (M : sdM) (a1 : Int32) (a2 : Int32) (a3 : Int32) (a4 : Int32) (Q : Int32 → sdM → Prop) : Prop := w_D_unset M a1 a2 a3 a4 (fun r M1 => ∀ M2 : sdM, M2 = sd_s M1 134 0 (if r = 0 then 0 else 1) → Q 0 M2) (fun E M1 => (E = "java/lang/IllegalStateException" ∧ Q 1 M1) ∨ (E = "java/lang/IndexOutOfBoundsException" ∧ Q 2 M1))
set_option maxHeartbeats 1000000 in
theorem c_L_unset {a1 : Int32} {a2 : Int32} {a3 : Int32} {a4 : Int32} (hA : sd_ad b n ad) (hT : l.stackTraces = false) (hD : isD n L dA) (hJ : isJ n L dA) {Q : Int32 → sdM → Prop} {M : sdM} (hw : w_L_unset M a1 a2 a3 a4 Q) : sd_Cn l (sdE0 sc) y_L_unset Y_L_unset.2.2.2.2.1 Y_L_unset.2.2.2.2.2.1 5 30 D (sd_tys dA) b n ad L M [.ref 0, .int a1, .int a2, .int a3, .int a4, .ref 134] (sd_qi Q) sd_xf := by
  refine sd_enterH (Y := Y_L_unset) rfl rfl rfl (Nat.le_of_ble_eq_true rfl) ?_
  unfold w_L_unset at hw
  refine x_aload 5 5 dL_unset_0 rfl ?_
  refine x_iconst (v := 0) dL_unset_2 (by decide) ?_
  refine x_aload_n 0 0 dL_unset_3 rfl rfl ?_
  refine x_iload_n 1 1 dL_unset_4 rfl rfl ?_
  refine x_iload_n 2 2 dL_unset_5 rfl rfl ?_
  refine x_iload_n 3 3 dL_unset_6 rfl rfl ?_
  refine x_iload 4 4 dL_unset_7 rfl ?_
  refine x_callVci (As := [.int a1, .int a2, .int a3, .int a4]) (t := 0) (rest := [.int 0, .ref 134]) (rc := 0) (rs := 0) [((0, 21, 24, 13), "java/lang/IllegalStateException"), ((0, 21, 28, 19), "java/lang/IndexOutOfBoundsException")] rfl (List.forall_mem_cons.mpr ⟨⟨rfl, by decide, List.mem_cons_of_mem _ q634, List.mem_of_getElem? (i := 0) rfl⟩, List.forall_mem_cons.mpr ⟨⟨rfl, by decide, List.mem_cons_of_mem _ q638, List.mem_of_getElem? (i := 1) rfl⟩, fun _ h => absurd h List.not_mem_nil⟩⟩) (c_D_unset hA hT hD hw) cw_L_unset_D_unset_49 hD.1 hD.2.1 rfl dL_unset_9 rfl rfl (Nat.le_of_ble_eq_true rfl) (fun E9 M1 hx => ?_) (fun r M1 hq => ?_)
  · rcases hx with ⟨rfl, hq⟩ | ⟨rfl, hq⟩
    · refine ⟨List.mem_of_getElem? (i := 0) rfl, 24, 6, 26, rfl, (Or.inr ⟨dL_unset_24, rfl⟩), by decide, ?_⟩
      refine x_iconst (v := 1) dL_unset_26 (by decide) ?_
      exact x_iret dL_unset_27 rfl (fun _ h => h) ⟨_, rfl, hq⟩
    · refine ⟨List.mem_of_getElem? (i := 1) rfl, 28, 6, 30, rfl, (Or.inr ⟨dL_unset_28, rfl⟩), by decide, ?_⟩
      refine x_iconst (v := 2) dL_unset_30 (by decide) ?_
      exact x_iret dL_unset_31 rfl (fun _ h => h) ⟨_, rfl, hq⟩
  · refine x_if_eq 19 dL_unset_12 rfl (fun h0 => ?_) (fun h0 => ?_)
    · rw [if_pos h0] at hq
      refine x_lconst (v := 0) dL_unset_19 (by decide) ?_
      refine x_last (x := 0) hA dL_unset_20 hJ.1 hJ.2 rfl rfl sd_in01 (fun M2 e2 => ?_)
      refine x_goto 32 dL_unset_21 rfl ?_
      refine x_iconst (v := 0) dL_unset_32 (by decide) ?_
      exact x_iret dL_unset_33 rfl (fun _ h => h) ⟨_, rfl, (hq M2 e2)⟩
    · rw [if_neg h0] at hq
      refine x_lconst (v := 1) dL_unset_15 (by decide) ?_
      refine x_goto 20 dL_unset_16 rfl ?_
      refine x_last (x := 1) hA dL_unset_20 hJ.1 hJ.2 rfl rfl sd_in01 (fun M2 e2 => ?_)
      refine x_goto 32 dL_unset_21 rfl ?_
      refine x_iconst (v := 0) dL_unset_32 (by decide) ?_
      exact x_iret dL_unset_33 rfl (fun _ h => h) ⟨_, rfl, (hq M2 e2)⟩
end
theorem q665 : (.methodLink "SettingsDeskLaw" 53 ⟨"SettingsDesk", "get", "(IIII)I"⟩ : Cond) ∈ sdB0 := sd_tb3 183 rfl rfl
theorem q666 : (.instanceMethod ⟨"SettingsDesk", "get", "(IIII)I"⟩ : Cond) ∈ sdB0 := sd_tb3 184 rfl rfl
theorem q667 : (.selects "SettingsDesk" ⟨"SettingsDesk", "get", "(IIII)I"⟩ ⟨"SettingsDesk", "get", "(IIII)I"⟩ : Cond) ∈ sdB0 := sd_tb3 185 rfl rfl
abbrev y_L_get : MethodName := ⟨"SettingsDeskLaw", "get", "(LSettingsDesk;IIII[J)I"⟩
theorem dL_get_0 : decode method_12_code 0 = .ok (.aload 5, 2) := by decide +kernel
theorem dL_get_2 : decode method_12_code 2 = .ok (.iconst 0, 1) := by decide +kernel
theorem dL_get_3 : decode method_12_code 3 = .ok (.aload_n 0, 1) := by decide +kernel
theorem dL_get_4 : decode method_12_code 4 = .ok (.iload_n 1, 1) := by decide +kernel
theorem dL_get_5 : decode method_12_code 5 = .ok (.iload_n 2, 1) := by decide +kernel
theorem dL_get_6 : decode method_12_code 6 = .ok (.iload_n 3, 1) := by decide +kernel
theorem dL_get_7 : decode method_12_code 7 = .ok (.iload 4, 2) := by decide +kernel
theorem dL_get_9 : decode method_12_code 9 = .ok (.invokevirtual 53, 3) := by decide +kernel
theorem dL_get_12 : decode method_12_code 12 = .ok (.i2l, 1) := by decide +kernel
theorem dL_get_13 : decode method_12_code 13 = .ok (.lastore, 1) := by decide +kernel
theorem dL_get_14 : decode method_12_code 14 = .ok (.goto (15), 3) := by decide +kernel
theorem dL_get_17 : decode method_12_code 17 = .ok (.astore 6, 2) := by decide +kernel
theorem dL_get_19 : decode method_12_code 19 = .ok (.iconst 1, 1) := by decide +kernel
theorem dL_get_20 : decode method_12_code 20 = .ok (.ireturn, 1) := by decide +kernel
theorem dL_get_21 : decode method_12_code 21 = .ok (.astore 6, 2) := by decide +kernel
theorem dL_get_23 : decode method_12_code 23 = .ok (.iconst 2, 1) := by decide +kernel
theorem dL_get_24 : decode method_12_code 24 = .ok (.ireturn, 1) := by decide +kernel
theorem dL_get_25 : decode method_12_code 25 = .ok (.astore 6, 2) := by decide +kernel
theorem dL_get_27 : decode method_12_code 27 = .ok (.iconst 3, 1) := by decide +kernel
theorem dL_get_28 : decode method_12_code 28 = .ok (.ireturn, 1) := by decide +kernel
theorem dL_get_29 : decode method_12_code 29 = .ok (.iconst 0, 1) := by decide +kernel
theorem dL_get_30 : decode method_12_code 30 = .ok (.ireturn, 1) := by decide +kernel
def Y_L_get : sdY := ("SettingsDeskLaw", method_12_code, 7, (some .int), .codeWith y_L_get method_12_code 7 (some .int) [(0, 14, 17, 13), (0, 14, 21, 19), (0, 14, 25, 43)] :: sdB0, { frames := 8, cells := 4, slots := 24, locals := 131 }, 4, 24, [(0, 14, 17, 13), (0, 14, 21, 19), (0, 14, 25, 43)])
theorem cw_L_get_D_get_53 : sd_cwV Y_L_get Y_D_get y_D_get 53 4 "SettingsDesk" := ⟨sd_goodV q665 q666 q667 q274 q382, ⟨_, rfl⟩, ⟨rfl, rfl, rfl, rfl⟩, ⟨rfl, by decide, by decide, by decide +kernel⟩, ⟨by decide, by decide⟩⟩
section
variable {l : Launch} {D : va_G} {dA : Nat → ClassId} {b n : Nat} {ad : Nat → Nat} {L : Nat → sdL} {sc : Option (Nat × Nat × (Nat → Int32))}
def w_L_get (M : sdM) (a1 : Int32) (a2 : Int32) (a3 : Int32) (a4 : Int32) (Q : Int32 → sdM → Prop) : Prop := w_D_get M a1 a2 a3 a4 (fun r M1 => ∀ M2 : sdM, M2 = sd_s M1 134 0 r → Q 0 M2) (fun E M1 => (E = "java/lang/IllegalStateException" ∧ Q 1 M1) ∨ (E = "java/lang/IndexOutOfBoundsException" ∧ Q 2 M1) ∨ (E = "java/lang/UnsupportedOperationException" ∧ Q 3 M1))
set_option maxHeartbeats 1000000 in
theorem c_L_get {a1 : Int32} {a2 : Int32} {a3 : Int32} {a4 : Int32} (hA : sd_ad b n ad) (hT : l.stackTraces = false) (hD : isD n L dA) (hJ : isJ n L dA) {Q : Int32 → sdM → Prop} {M : sdM} (hw : w_L_get M a1 a2 a3 a4 Q) : sd_Cn l (sdE0 sc) y_L_get Y_L_get.2.2.2.2.1 Y_L_get.2.2.2.2.2.1 4 24 D (sd_tys dA) b n ad L M [.ref 0, .int a1, .int a2, .int a3, .int a4, .ref 134] (sd_qi Q) sd_xf := by
  refine sd_enterH (Y := Y_L_get) rfl rfl rfl (Nat.le_of_ble_eq_true rfl) ?_
  unfold w_L_get at hw
  refine x_aload 5 5 dL_get_0 rfl ?_
  refine x_iconst (v := 0) dL_get_2 (by decide) ?_
  refine x_aload_n 0 0 dL_get_3 rfl rfl ?_
  refine x_iload_n 1 1 dL_get_4 rfl rfl ?_
  refine x_iload_n 2 2 dL_get_5 rfl rfl ?_
  refine x_iload_n 3 3 dL_get_6 rfl rfl ?_
  refine x_iload 4 4 dL_get_7 rfl ?_
  refine x_callVci (As := [.int a1, .int a2, .int a3, .int a4]) (t := 0) (rest := [.int 0, .ref 134]) (rc := 0) (rs := 0) [((0, 14, 17, 13), "java/lang/IllegalStateException"), ((0, 14, 21, 19), "java/lang/IndexOutOfBoundsException"), ((0, 14, 25, 43), "java/lang/UnsupportedOperationException")] rfl (List.forall_mem_cons.mpr ⟨⟨rfl, by decide, List.mem_cons_of_mem _ q634, List.mem_of_getElem? (i := 0) rfl⟩, List.forall_mem_cons.mpr ⟨⟨rfl, by decide, List.mem_cons_of_mem _ q638, List.mem_of_getElem? (i := 1) rfl⟩, List.forall_mem_cons.mpr ⟨⟨rfl, by decide, List.mem_cons_of_mem _ q657, List.mem_of_getElem? (i := 3) rfl⟩, fun _ h => absurd h List.not_mem_nil⟩⟩⟩) (c_D_get hA hT hD hw) cw_L_get_D_get_53 hD.1 hD.2.1 rfl dL_get_9 rfl rfl (Nat.le_of_ble_eq_true rfl) (fun E9 M1 hx => ?_) (fun r M1 hq => ?_)
  · rcases hx with ⟨rfl, hq⟩ | ⟨rfl, hq⟩ | ⟨rfl, hq⟩
    · refine ⟨List.mem_of_getElem? (i := 0) rfl, 17, 6, 19, rfl, (Or.inr ⟨dL_get_17, rfl⟩), by decide, ?_⟩
      refine x_iconst (v := 1) dL_get_19 (by decide) ?_
      exact x_iret dL_get_20 rfl (fun _ h => h) ⟨_, rfl, hq⟩
    · refine ⟨List.mem_of_getElem? (i := 1) rfl, 21, 6, 23, rfl, (Or.inr ⟨dL_get_21, rfl⟩), by decide, ?_⟩
      refine x_iconst (v := 2) dL_get_23 (by decide) ?_
      exact x_iret dL_get_24 rfl (fun _ h => h) ⟨_, rfl, hq⟩
    · refine ⟨List.mem_of_getElem? (i := 3) rfl, 25, 6, 27, rfl, (Or.inr ⟨dL_get_25, rfl⟩), by decide, ?_⟩
      refine x_iconst (v := 3) dL_get_27 (by decide) ?_
      exact x_iret dL_get_28 rfl (fun _ h => h) ⟨_, rfl, hq⟩
  · refine x_i2l dL_get_12 ?_
    refine x_last (x := r) hA dL_get_13 hJ.1 hJ.2 rfl rfl sd_in01 (fun M2 e2 => ?_)
    refine x_goto 29 dL_get_14 rfl ?_
    refine x_iconst (v := 0) dL_get_29 (by decide) ?_
    exact x_iret dL_get_30 rfl (fun _ h => h) ⟨_, rfl, (hq M2 e2)⟩
end
theorem q668 : (.methodLink "SettingsDeskLaw" 57 ⟨"SettingsDesk", "lock", "(IZ)Z"⟩ : Cond) ∈ sdB0 := sd_tb3 198 rfl rfl
theorem q669 : (.code ⟨"SettingsDesk", "lock", "(IZ)Z"⟩ prog_1_method_12_code 3 (some .boolean) : Cond) ∈ sdB0 := sd_tb3 201 rfl rfl
theorem q670 : (.instanceMethod ⟨"SettingsDesk", "lock", "(IZ)Z"⟩ : Cond) ∈ sdB0 := sd_tb3 199 rfl rfl
theorem q671 : (.selects "SettingsDesk" ⟨"SettingsDesk", "lock", "(IZ)Z"⟩ ⟨"SettingsDesk", "lock", "(IZ)Z"⟩ : Cond) ∈ sdB0 := sd_tb3 200 rfl rfl
abbrev y_L_lock : MethodName := ⟨"SettingsDeskLaw", "lock", "(LSettingsDesk;IZ[J)I"⟩
theorem dL_lock_0 : decode method_13_code 0 = .ok (.aload_n 3, 1) := by decide +kernel
theorem dL_lock_1 : decode method_13_code 1 = .ok (.iconst 0, 1) := by decide +kernel
theorem dL_lock_2 : decode method_13_code 2 = .ok (.aload_n 0, 1) := by decide +kernel
theorem dL_lock_3 : decode method_13_code 3 = .ok (.iload_n 1, 1) := by decide +kernel
theorem dL_lock_4 : decode method_13_code 4 = .ok (.iload_n 2, 1) := by decide +kernel
theorem dL_lock_5 : decode method_13_code 5 = .ok (.invokevirtual 57, 3) := by decide +kernel
theorem dL_lock_8 : decode method_13_code 8 = .ok (.ifCond .eq (7), 3) := by decide +kernel
theorem dL_lock_11 : decode method_13_code 11 = .ok (.lconst 1, 1) := by decide +kernel
theorem dL_lock_12 : decode method_13_code 12 = .ok (.goto (4), 3) := by decide +kernel
theorem dL_lock_15 : decode method_13_code 15 = .ok (.lconst 0, 1) := by decide +kernel
theorem dL_lock_16 : decode method_13_code 16 = .ok (.lastore, 1) := by decide +kernel
theorem dL_lock_17 : decode method_13_code 17 = .ok (.goto (11), 3) := by decide +kernel
theorem dL_lock_20 : decode method_13_code 20 = .ok (.astore 4, 2) := by decide +kernel
theorem dL_lock_22 : decode method_13_code 22 = .ok (.iconst 1, 1) := by decide +kernel
theorem dL_lock_23 : decode method_13_code 23 = .ok (.ireturn, 1) := by decide +kernel
theorem dL_lock_24 : decode method_13_code 24 = .ok (.astore 4, 2) := by decide +kernel
theorem dL_lock_26 : decode method_13_code 26 = .ok (.iconst 2, 1) := by decide +kernel
theorem dL_lock_27 : decode method_13_code 27 = .ok (.ireturn, 1) := by decide +kernel
theorem dL_lock_28 : decode method_13_code 28 = .ok (.iconst 0, 1) := by decide +kernel
theorem dL_lock_29 : decode method_13_code 29 = .ok (.ireturn, 1) := by decide +kernel
def Y_L_lock : sdY := ("SettingsDeskLaw", method_13_code, 5, (some .int), .codeWith y_L_lock method_13_code 5 (some .int) [(0, 17, 20, 13), (0, 17, 24, 19)] :: sdB0, { frames := 8, cells := 3, slots := 18, locals := 125 }, 3, 18, [(0, 17, 20, 13), (0, 17, 24, 19)])
theorem cw_L_lock_D_lock_57 : sd_cwV Y_L_lock Y_D_lock y_D_lock 57 2 "SettingsDesk" := ⟨sd_goodV q668 q670 q671 q274 q669, ⟨_, rfl⟩, ⟨rfl, rfl, rfl, rfl⟩, ⟨rfl, by decide, by decide, by decide +kernel⟩, ⟨by decide, by decide⟩⟩
section
variable {l : Launch} {D : va_G} {dA : Nat → ClassId} {b n : Nat} {ad : Nat → Nat} {L : Nat → sdL} {sc : Option (Nat × Nat × (Nat → Int32))}
def w_L_lock (M : sdM) (a1 : Int32) (a2 : Int32) (Q : Int32 → sdM → Prop) : Prop := w_D_lock M a1 a2 (fun r M1 => ∀ M2 : sdM, M2 = sd_s M1 134 0 (if r = 0 then 0 else 1) → Q 0 M2) (fun E M1 => (E = "java/lang/IllegalStateException" ∧ Q 1 M1) ∨ (E = "java/lang/IndexOutOfBoundsException" ∧ Q 2 M1))
set_option maxHeartbeats 1000000 in
theorem c_L_lock {a1 : Int32} {a2 : Int32} (hA : sd_ad b n ad) (hT : l.stackTraces = false) (hD : isD n L dA) (hJ : isJ n L dA) {Q : Int32 → sdM → Prop} {M : sdM} (hw : w_L_lock M a1 a2 Q) : sd_Cn l (sdE0 sc) y_L_lock Y_L_lock.2.2.2.2.1 Y_L_lock.2.2.2.2.2.1 3 18 D (sd_tys dA) b n ad L M [.ref 0, .int a1, .int a2, .ref 134] (sd_qi Q) sd_xf := by
  refine sd_enterH (Y := Y_L_lock) rfl rfl rfl (Nat.le_of_ble_eq_true rfl) ?_
  unfold w_L_lock at hw
  refine x_aload_n 3 3 dL_lock_0 rfl rfl ?_
  refine x_iconst (v := 0) dL_lock_1 (by decide) ?_
  refine x_aload_n 0 0 dL_lock_2 rfl rfl ?_
  refine x_iload_n 1 1 dL_lock_3 rfl rfl ?_
  refine x_iload_n 2 2 dL_lock_4 rfl rfl ?_
  refine x_callVci (As := [.int a1, .int a2]) (t := 0) (rest := [.int 0, .ref 134]) (rc := 0) (rs := 0) [((0, 17, 20, 13), "java/lang/IllegalStateException"), ((0, 17, 24, 19), "java/lang/IndexOutOfBoundsException")] rfl (List.forall_mem_cons.mpr ⟨⟨rfl, by decide, List.mem_cons_of_mem _ q634, List.mem_of_getElem? (i := 0) rfl⟩, List.forall_mem_cons.mpr ⟨⟨rfl, by decide, List.mem_cons_of_mem _ q638, List.mem_of_getElem? (i := 1) rfl⟩, fun _ h => absurd h List.not_mem_nil⟩⟩) (c_D_lock hA hT hD hw) cw_L_lock_D_lock_57 hD.1 hD.2.1 rfl dL_lock_5 rfl rfl (Nat.le_of_ble_eq_true rfl) (fun E9 M1 hx => ?_) (fun r M1 hq => ?_)
  · rcases hx with ⟨rfl, hq⟩ | ⟨rfl, hq⟩
    · refine ⟨List.mem_of_getElem? (i := 0) rfl, 20, 4, 22, rfl, (Or.inr ⟨dL_lock_20, rfl⟩), by decide, ?_⟩
      refine x_iconst (v := 1) dL_lock_22 (by decide) ?_
      exact x_iret dL_lock_23 rfl (fun _ h => h) ⟨_, rfl, hq⟩
    · refine ⟨List.mem_of_getElem? (i := 1) rfl, 24, 4, 26, rfl, (Or.inr ⟨dL_lock_24, rfl⟩), by decide, ?_⟩
      refine x_iconst (v := 2) dL_lock_26 (by decide) ?_
      exact x_iret dL_lock_27 rfl (fun _ h => h) ⟨_, rfl, hq⟩
  · refine x_if_eq 15 dL_lock_8 rfl (fun h0 => ?_) (fun h0 => ?_)
    · rw [if_pos h0] at hq
      refine x_lconst (v := 0) dL_lock_15 (by decide) ?_
      refine x_last (x := 0) hA dL_lock_16 hJ.1 hJ.2 rfl rfl sd_in01 (fun M2 e2 => ?_)
      refine x_goto 28 dL_lock_17 rfl ?_
      refine x_iconst (v := 0) dL_lock_28 (by decide) ?_
      exact x_iret dL_lock_29 rfl (fun _ h => h) ⟨_, rfl, (hq M2 e2)⟩
    · rw [if_neg h0] at hq
      refine x_lconst (v := 1) dL_lock_11 (by decide) ?_
      refine x_goto 16 dL_lock_12 rfl ?_
      refine x_last (x := 1) hA dL_lock_16 hJ.1 hJ.2 rfl rfl sd_in01 (fun M2 e2 => ?_)
      refine x_goto 28 dL_lock_17 rfl ?_
      refine x_iconst (v := 0) dL_lock_28 (by decide) ?_
      exact x_iret dL_lock_29 rfl (fun _ h => h) ⟨_, rfl, (hq M2 e2)⟩
end
theorem q672 : (.methodLink "SettingsDeskLaw" 61 ⟨"SettingsDesk", "commit", "(II)I"⟩ : Cond) ∈ sdB0 := sd_tb3 205 rfl rfl
theorem q673 : (.instanceMethod ⟨"SettingsDesk", "commit", "(II)I"⟩ : Cond) ∈ sdB0 := sd_tb3 206 rfl rfl
theorem q674 : (.selects "SettingsDesk" ⟨"SettingsDesk", "commit", "(II)I"⟩ ⟨"SettingsDesk", "commit", "(II)I"⟩ : Cond) ∈ sdB0 := sd_tb3 207 rfl rfl
abbrev y_L_commit : MethodName := ⟨"SettingsDeskLaw", "commit", "(LSettingsDesk;II[J)I"⟩
theorem dL_commit_0 : decode method_14_code 0 = .ok (.aload_n 3, 1) := by decide +kernel
theorem dL_commit_1 : decode method_14_code 1 = .ok (.iconst 0, 1) := by decide +kernel
theorem dL_commit_2 : decode method_14_code 2 = .ok (.aload_n 0, 1) := by decide +kernel
theorem dL_commit_3 : decode method_14_code 3 = .ok (.iload_n 1, 1) := by decide +kernel
theorem dL_commit_4 : decode method_14_code 4 = .ok (.iload_n 2, 1) := by decide +kernel
theorem dL_commit_5 : decode method_14_code 5 = .ok (.invokevirtual 61, 3) := by decide +kernel
theorem dL_commit_8 : decode method_14_code 8 = .ok (.i2l, 1) := by decide +kernel
theorem dL_commit_9 : decode method_14_code 9 = .ok (.lastore, 1) := by decide +kernel
theorem dL_commit_10 : decode method_14_code 10 = .ok (.goto (15), 3) := by decide +kernel
theorem dL_commit_13 : decode method_14_code 13 = .ok (.astore 4, 2) := by decide +kernel
theorem dL_commit_15 : decode method_14_code 15 = .ok (.iconst 1, 1) := by decide +kernel
theorem dL_commit_16 : decode method_14_code 16 = .ok (.ireturn, 1) := by decide +kernel
theorem dL_commit_17 : decode method_14_code 17 = .ok (.astore 4, 2) := by decide +kernel
theorem dL_commit_19 : decode method_14_code 19 = .ok (.iconst 2, 1) := by decide +kernel
theorem dL_commit_20 : decode method_14_code 20 = .ok (.ireturn, 1) := by decide +kernel
theorem dL_commit_21 : decode method_14_code 21 = .ok (.astore 4, 2) := by decide +kernel
theorem dL_commit_23 : decode method_14_code 23 = .ok (.iconst 3, 1) := by decide +kernel
theorem dL_commit_24 : decode method_14_code 24 = .ok (.ireturn, 1) := by decide +kernel
theorem dL_commit_25 : decode method_14_code 25 = .ok (.iconst 0, 1) := by decide +kernel
theorem dL_commit_26 : decode method_14_code 26 = .ok (.ireturn, 1) := by decide +kernel
def Y_L_commit : sdY := ("SettingsDeskLaw", method_14_code, 5, (some .int), .codeWith y_L_commit method_14_code 5 (some .int) [(0, 10, 13, 13), (0, 10, 17, 19), (0, 10, 21, 21)] :: sdB0, { frames := 8, cells := 5, slots := 26, locals := 182 }, 5, 26, [(0, 10, 13, 13), (0, 10, 17, 19), (0, 10, 21, 21)])
theorem cw_L_commit_D_commit_61 : sd_cwV Y_L_commit Y_D_commit y_D_commit 61 2 "SettingsDesk" := ⟨sd_goodV q672 q673 q674 q274 q427, ⟨_, rfl⟩, ⟨rfl, rfl, rfl, rfl⟩, ⟨rfl, by decide, by decide, by decide +kernel⟩, ⟨by decide, by decide⟩⟩
section
variable {l : Launch} {D : va_G} {dA : Nat → ClassId} {b n : Nat} {ad : Nat → Nat} {L : Nat → sdL} {sc : Option (Nat × Nat × (Nat → Int32))}
def w_L_commit (n : Nat) (M : sdM) (a1 : Int32) (a2 : Int32) (Q : Int32 → sdM → Prop) : Prop := w_D_commit n M a1 a2 (fun r M1 => ∀ M2 : sdM, M2 = sd_s M1 134 0 r → Q 0 M2) (fun E M1 => (E = "java/lang/IllegalStateException" ∧ Q 1 M1) ∨ (E = "java/lang/IndexOutOfBoundsException" ∧ Q 2 M1) ∨ (E = "java/lang/IllegalArgumentException" ∧ Q 3 M1))
set_option maxHeartbeats 1000000 in
theorem c_L_commit {a1 : Int32} {a2 : Int32} (hA : sd_ad b n ad) (hT : l.stackTraces = false) (hD : isD n L dA) (hJ : isJ n L dA) (hloc : sd_loc n L) {Q : Int32 → sdM → Prop} {M : sdM} (hw : w_L_commit n M a1 a2 Q) : sd_Cn l (sdE0 sc) y_L_commit Y_L_commit.2.2.2.2.1 Y_L_commit.2.2.2.2.2.1 5 26 D (sd_tys dA) b n ad L M [.ref 0, .int a1, .int a2, .ref 134] (sd_qi Q) sd_xf := by
  refine sd_enterH (Y := Y_L_commit) rfl rfl rfl (Nat.le_of_ble_eq_true rfl) ?_
  unfold w_L_commit at hw
  refine x_aload_n 3 3 dL_commit_0 rfl rfl ?_
  refine x_iconst (v := 0) dL_commit_1 (by decide) ?_
  refine x_aload_n 0 0 dL_commit_2 rfl rfl ?_
  refine x_iload_n 1 1 dL_commit_3 rfl rfl ?_
  refine x_iload_n 2 2 dL_commit_4 rfl rfl ?_
  refine x_callVci (As := [.int a1, .int a2]) (t := 0) (rest := [.int 0, .ref 134]) (rc := 0) (rs := 0) [((0, 10, 13, 13), "java/lang/IllegalStateException"), ((0, 10, 17, 19), "java/lang/IndexOutOfBoundsException"), ((0, 10, 21, 21), "java/lang/IllegalArgumentException")] rfl (List.forall_mem_cons.mpr ⟨⟨rfl, by decide, List.mem_cons_of_mem _ q634, List.mem_of_getElem? (i := 0) rfl⟩, List.forall_mem_cons.mpr ⟨⟨rfl, by decide, List.mem_cons_of_mem _ q638, List.mem_of_getElem? (i := 1) rfl⟩, List.forall_mem_cons.mpr ⟨⟨rfl, by decide, List.mem_cons_of_mem _ q639, List.mem_of_getElem? (i := 2) rfl⟩, fun _ h => absurd h List.not_mem_nil⟩⟩⟩) (c_D_commit hA hT hD hloc hw) cw_L_commit_D_commit_61 hD.1 hD.2.1 rfl dL_commit_5 rfl rfl (Nat.le_of_ble_eq_true rfl) (fun E9 M1 hx => ?_) (fun r M1 hq => ?_)
  · rcases hx with ⟨rfl, hq⟩ | ⟨rfl, hq⟩ | ⟨rfl, hq⟩
    · refine ⟨List.mem_of_getElem? (i := 0) rfl, 13, 4, 15, rfl, (Or.inr ⟨dL_commit_13, rfl⟩), by decide, ?_⟩
      refine x_iconst (v := 1) dL_commit_15 (by decide) ?_
      exact x_iret dL_commit_16 rfl (fun _ h => h) ⟨_, rfl, hq⟩
    · refine ⟨List.mem_of_getElem? (i := 1) rfl, 17, 4, 19, rfl, (Or.inr ⟨dL_commit_17, rfl⟩), by decide, ?_⟩
      refine x_iconst (v := 2) dL_commit_19 (by decide) ?_
      exact x_iret dL_commit_20 rfl (fun _ h => h) ⟨_, rfl, hq⟩
    · refine ⟨List.mem_of_getElem? (i := 2) rfl, 21, 4, 23, rfl, (Or.inr ⟨dL_commit_21, rfl⟩), by decide, ?_⟩
      refine x_iconst (v := 3) dL_commit_23 (by decide) ?_
      exact x_iret dL_commit_24 rfl (fun _ h => h) ⟨_, rfl, hq⟩
  · refine x_i2l dL_commit_8 ?_
    refine x_last (x := r) hA dL_commit_9 hJ.1 hJ.2 rfl rfl sd_in01 (fun M2 e2 => ?_)
    refine x_goto 25 dL_commit_10 rfl ?_
    refine x_iconst (v := 0) dL_commit_25 (by decide) ?_
    exact x_iret dL_commit_26 rfl (fun _ h => h) ⟨_, rfl, (hq M2 e2)⟩
end
theorem q675 : (.methodLink "SettingsDeskLaw" 65 ⟨"SettingsDesk", "confirm", "()Z"⟩ : Cond) ∈ sdB0 := sd_tb4 41 rfl rfl
theorem q676 : (.code ⟨"SettingsDesk", "confirm", "()Z"⟩ prog_1_method_14_code 2 (some .boolean) : Cond) ∈ sdB0 := sd_tb4 44 rfl rfl
theorem q677 : (.instanceMethod ⟨"SettingsDesk", "confirm", "()Z"⟩ : Cond) ∈ sdB0 := sd_tb4 42 rfl rfl
theorem q678 : (.selects "SettingsDesk" ⟨"SettingsDesk", "confirm", "()Z"⟩ ⟨"SettingsDesk", "confirm", "()Z"⟩ : Cond) ∈ sdB0 := sd_tb4 43 rfl rfl
abbrev y_L_confirm : MethodName := ⟨"SettingsDeskLaw", "confirm", "(LSettingsDesk;[J)I"⟩
theorem dL_confirm_0 : decode method_15_code 0 = .ok (.aload_n 1, 1) := by decide +kernel
theorem dL_confirm_1 : decode method_15_code 1 = .ok (.iconst 0, 1) := by decide +kernel
theorem dL_confirm_2 : decode method_15_code 2 = .ok (.aload_n 0, 1) := by decide +kernel
theorem dL_confirm_3 : decode method_15_code 3 = .ok (.invokevirtual 65, 3) := by decide +kernel
theorem dL_confirm_6 : decode method_15_code 6 = .ok (.ifCond .eq (7), 3) := by decide +kernel
theorem dL_confirm_9 : decode method_15_code 9 = .ok (.lconst 1, 1) := by decide +kernel
theorem dL_confirm_10 : decode method_15_code 10 = .ok (.goto (4), 3) := by decide +kernel
theorem dL_confirm_13 : decode method_15_code 13 = .ok (.lconst 0, 1) := by decide +kernel
theorem dL_confirm_14 : decode method_15_code 14 = .ok (.lastore, 1) := by decide +kernel
theorem dL_confirm_15 : decode method_15_code 15 = .ok (.goto (6), 3) := by decide +kernel
theorem dL_confirm_18 : decode method_15_code 18 = .ok (.astore_n 2, 1) := by decide +kernel
theorem dL_confirm_19 : decode method_15_code 19 = .ok (.iconst 1, 1) := by decide +kernel
theorem dL_confirm_20 : decode method_15_code 20 = .ok (.ireturn, 1) := by decide +kernel
theorem dL_confirm_21 : decode method_15_code 21 = .ok (.iconst 0, 1) := by decide +kernel
theorem dL_confirm_22 : decode method_15_code 22 = .ok (.ireturn, 1) := by decide +kernel
def Y_L_confirm : sdY := ("SettingsDeskLaw", method_15_code, 3, (some .int), .codeWith y_L_confirm method_15_code 3 (some .int) [(0, 15, 18, 13)] :: sdB0, { frames := 8, cells := 1, slots := 6, locals := 123 }, 1, 6, [(0, 15, 18, 13)])
theorem cw_L_confirm_D_confirm_65 : sd_cwV Y_L_confirm Y_D_confirm y_D_confirm 65 0 "SettingsDesk" := ⟨sd_goodV q675 q677 q678 q274 q676, ⟨_, rfl⟩, ⟨rfl, rfl, rfl, rfl⟩, ⟨rfl, by decide, by decide, by decide +kernel⟩, ⟨by decide, by decide⟩⟩
section
variable {l : Launch} {D : va_G} {dA : Nat → ClassId} {b n : Nat} {ad : Nat → Nat} {L : Nat → sdL} {sc : Option (Nat × Nat × (Nat → Int32))}
def w_L_confirm (M : sdM) (Q : Int32 → sdM → Prop) : Prop := w_D_confirm M  (fun r M1 => ∀ M2 : sdM, M2 = sd_s M1 134 0 (if r = 0 then 0 else 1) → Q 0 M2) (fun E M1 => (E = "java/lang/IllegalStateException" ∧ Q 1 M1))
set_option maxHeartbeats 1000000 in
theorem c_L_confirm (hA : sd_ad b n ad) (hT : l.stackTraces = false) (hD : isD n L dA) (hJ : isJ n L dA) {Q : Int32 → sdM → Prop} {M : sdM} (hw : w_L_confirm M  Q) : sd_Cn l (sdE0 sc) y_L_confirm Y_L_confirm.2.2.2.2.1 Y_L_confirm.2.2.2.2.2.1 1 6 D (sd_tys dA) b n ad L M [.ref 0, .ref 134] (sd_qi Q) sd_xf := by
  refine sd_enterH (Y := Y_L_confirm) rfl rfl rfl (Nat.le_of_ble_eq_true rfl) ?_
  unfold w_L_confirm at hw
  refine x_aload_n 1 1 dL_confirm_0 rfl rfl ?_
  refine x_iconst (v := 0) dL_confirm_1 (by decide) ?_
  refine x_aload_n 0 0 dL_confirm_2 rfl rfl ?_
  refine x_callVci (As := []) (t := 0) (rest := [.int 0, .ref 134]) (rc := 0) (rs := 0) [((0, 15, 18, 13), "java/lang/IllegalStateException")] rfl (List.forall_mem_cons.mpr ⟨⟨rfl, by decide, List.mem_cons_of_mem _ q634, List.mem_of_getElem? (i := 0) rfl⟩, fun _ h => absurd h List.not_mem_nil⟩) (c_D_confirm hA hT hD hw) cw_L_confirm_D_confirm_65 hD.1 hD.2.1 rfl dL_confirm_3 rfl rfl (Nat.le_of_ble_eq_true rfl) (fun E9 M1 hx => ?_) (fun r M1 hq => ?_)
  · obtain ⟨rfl, hq⟩ := hx
    · refine ⟨List.mem_of_getElem? (i := 0) rfl, 18, 2, 19, rfl, (Or.inl ⟨2, dL_confirm_18, rfl, rfl⟩), by decide, ?_⟩
      refine x_iconst (v := 1) dL_confirm_19 (by decide) ?_
      exact x_iret dL_confirm_20 rfl (fun _ h => h) ⟨_, rfl, hq⟩
  · refine x_if_eq 13 dL_confirm_6 rfl (fun h0 => ?_) (fun h0 => ?_)
    · rw [if_pos h0] at hq
      refine x_lconst (v := 0) dL_confirm_13 (by decide) ?_
      refine x_last (x := 0) hA dL_confirm_14 hJ.1 hJ.2 rfl rfl sd_in01 (fun M2 e2 => ?_)
      refine x_goto 21 dL_confirm_15 rfl ?_
      refine x_iconst (v := 0) dL_confirm_21 (by decide) ?_
      exact x_iret dL_confirm_22 rfl (fun _ h => h) ⟨_, rfl, (hq M2 e2)⟩
    · rw [if_neg h0] at hq
      refine x_lconst (v := 1) dL_confirm_9 (by decide) ?_
      refine x_goto 14 dL_confirm_10 rfl ?_
      refine x_last (x := 1) hA dL_confirm_14 hJ.1 hJ.2 rfl rfl sd_in01 (fun M2 e2 => ?_)
      refine x_goto 21 dL_confirm_15 rfl ?_
      refine x_iconst (v := 0) dL_confirm_21 (by decide) ?_
      exact x_iret dL_confirm_22 rfl (fun _ h => h) ⟨_, rfl, (hq M2 e2)⟩
end
theorem q679 : (.methodLink "SettingsDeskLaw" 68 ⟨"SettingsDesk", "tick", "()Z"⟩ : Cond) ∈ sdB0 := sd_tb4 48 rfl rfl
theorem q680 : (.code ⟨"SettingsDesk", "tick", "()Z"⟩ prog_1_method_15_code 1 (some .boolean) : Cond) ∈ sdB0 := sd_tb4 51 rfl rfl
theorem q681 : (.instanceMethod ⟨"SettingsDesk", "tick", "()Z"⟩ : Cond) ∈ sdB0 := sd_tb4 49 rfl rfl
theorem q682 : (.selects "SettingsDesk" ⟨"SettingsDesk", "tick", "()Z"⟩ ⟨"SettingsDesk", "tick", "()Z"⟩ : Cond) ∈ sdB0 := sd_tb4 50 rfl rfl
abbrev y_L_tick : MethodName := ⟨"SettingsDeskLaw", "tick", "(LSettingsDesk;[J)I"⟩
theorem dL_tick_0 : decode method_16_code 0 = .ok (.aload_n 1, 1) := by decide +kernel
theorem dL_tick_1 : decode method_16_code 1 = .ok (.iconst 0, 1) := by decide +kernel
theorem dL_tick_2 : decode method_16_code 2 = .ok (.aload_n 0, 1) := by decide +kernel
theorem dL_tick_3 : decode method_16_code 3 = .ok (.invokevirtual 68, 3) := by decide +kernel
theorem dL_tick_6 : decode method_16_code 6 = .ok (.ifCond .eq (7), 3) := by decide +kernel
theorem dL_tick_9 : decode method_16_code 9 = .ok (.lconst 1, 1) := by decide +kernel
theorem dL_tick_10 : decode method_16_code 10 = .ok (.goto (4), 3) := by decide +kernel
theorem dL_tick_13 : decode method_16_code 13 = .ok (.lconst 0, 1) := by decide +kernel
theorem dL_tick_14 : decode method_16_code 14 = .ok (.lastore, 1) := by decide +kernel
theorem dL_tick_15 : decode method_16_code 15 = .ok (.goto (6), 3) := by decide +kernel
theorem dL_tick_18 : decode method_16_code 18 = .ok (.astore_n 2, 1) := by decide +kernel
theorem dL_tick_19 : decode method_16_code 19 = .ok (.iconst 1, 1) := by decide +kernel
theorem dL_tick_20 : decode method_16_code 20 = .ok (.ireturn, 1) := by decide +kernel
theorem dL_tick_21 : decode method_16_code 21 = .ok (.iconst 0, 1) := by decide +kernel
theorem dL_tick_22 : decode method_16_code 22 = .ok (.ireturn, 1) := by decide +kernel
def Y_L_tick : sdY := ("SettingsDeskLaw", method_16_code, 3, (some .int), .codeWith y_L_tick method_16_code 3 (some .int) [(0, 15, 18, 13)] :: sdB0, { frames := 8, cells := 1, slots := 6, locals := 156 }, 1, 6, [(0, 15, 18, 13)])
theorem cw_L_tick_D_tick_68 : sd_cwV Y_L_tick Y_D_tick y_D_tick 68 0 "SettingsDesk" := ⟨sd_goodV q679 q681 q682 q274 q680, ⟨_, rfl⟩, ⟨rfl, rfl, rfl, rfl⟩, ⟨rfl, by decide, by decide, by decide +kernel⟩, ⟨by decide, by decide⟩⟩
section
variable {l : Launch} {D : va_G} {dA : Nat → ClassId} {b n : Nat} {ad : Nat → Nat} {L : Nat → sdL} {sc : Option (Nat × Nat × (Nat → Int32))}
def w_L_tick (M : sdM) (Q : Int32 → sdM → Prop) : Prop := w_D_tick M  (fun r M1 => ∀ M2 : sdM, M2 = sd_s M1 134 0 (if r = 0 then 0 else 1) → Q 0 M2) (fun E M1 => (E = "java/lang/IllegalStateException" ∧ Q 1 M1))
set_option maxHeartbeats 1000000 in
theorem c_L_tick (hA : sd_ad b n ad) (hT : l.stackTraces = false) (hD : isD n L dA) (hJ : isJ n L dA) {Q : Int32 → sdM → Prop} {M : sdM} (hw : w_L_tick M  Q) : sd_Cn l (sdE0 sc) y_L_tick Y_L_tick.2.2.2.2.1 Y_L_tick.2.2.2.2.2.1 1 6 D (sd_tys dA) b n ad L M [.ref 0, .ref 134] (sd_qi Q) sd_xf := by
  refine sd_enterH (Y := Y_L_tick) rfl rfl rfl (Nat.le_of_ble_eq_true rfl) ?_
  unfold w_L_tick at hw
  refine x_aload_n 1 1 dL_tick_0 rfl rfl ?_
  refine x_iconst (v := 0) dL_tick_1 (by decide) ?_
  refine x_aload_n 0 0 dL_tick_2 rfl rfl ?_
  refine x_callVci (As := []) (t := 0) (rest := [.int 0, .ref 134]) (rc := 0) (rs := 0) [((0, 15, 18, 13), "java/lang/IllegalStateException")] rfl (List.forall_mem_cons.mpr ⟨⟨rfl, by decide, List.mem_cons_of_mem _ q634, List.mem_of_getElem? (i := 0) rfl⟩, fun _ h => absurd h List.not_mem_nil⟩) (c_D_tick hA hT hD hw) cw_L_tick_D_tick_68 hD.1 hD.2.1 rfl dL_tick_3 rfl rfl (Nat.le_of_ble_eq_true rfl) (fun E9 M1 hx => ?_) (fun r M1 hq => ?_)
  · obtain ⟨rfl, hq⟩ := hx
    · refine ⟨List.mem_of_getElem? (i := 0) rfl, 18, 2, 19, rfl, (Or.inl ⟨2, dL_tick_18, rfl, rfl⟩), by decide, ?_⟩
      refine x_iconst (v := 1) dL_tick_19 (by decide) ?_
      exact x_iret dL_tick_20 rfl (fun _ h => h) ⟨_, rfl, hq⟩
  · refine x_if_eq 13 dL_tick_6 rfl (fun h0 => ?_) (fun h0 => ?_)
    · rw [if_pos h0] at hq
      refine x_lconst (v := 0) dL_tick_13 (by decide) ?_
      refine x_last (x := 0) hA dL_tick_14 hJ.1 hJ.2 rfl rfl sd_in01 (fun M2 e2 => ?_)
      refine x_goto 21 dL_tick_15 rfl ?_
      refine x_iconst (v := 0) dL_tick_21 (by decide) ?_
      exact x_iret dL_tick_22 rfl (fun _ h => h) ⟨_, rfl, (hq M2 e2)⟩
    · rw [if_neg h0] at hq
      refine x_lconst (v := 1) dL_tick_9 (by decide) ?_
      refine x_goto 14 dL_tick_10 rfl ?_
      refine x_last (x := 1) hA dL_tick_14 hJ.1 hJ.2 rfl rfl sd_in01 (fun M2 e2 => ?_)
      refine x_goto 21 dL_tick_15 rfl ?_
      refine x_iconst (v := 0) dL_tick_21 (by decide) ?_
      exact x_iret dL_tick_22 rfl (fun _ h => h) ⟨_, rfl, (hq M2 e2)⟩
end
theorem q683 : (.methodLink "SettingsDeskLaw" 71 ⟨"SettingsDesk", "rollback", "(II)I"⟩ : Cond) ∈ sdB0 := sd_tb4 59 rfl rfl
theorem q684 : (.instanceMethod ⟨"SettingsDesk", "rollback", "(II)I"⟩ : Cond) ∈ sdB0 := sd_tb4 60 rfl rfl
theorem q685 : (.selects "SettingsDesk" ⟨"SettingsDesk", "rollback", "(II)I"⟩ ⟨"SettingsDesk", "rollback", "(II)I"⟩ : Cond) ∈ sdB0 := sd_tb4 61 rfl rfl
abbrev y_L_rollback : MethodName := ⟨"SettingsDeskLaw", "rollback", "(LSettingsDesk;II[J)I"⟩
theorem dL_rollback_0 : decode method_17_code 0 = .ok (.aload_n 3, 1) := by decide +kernel
theorem dL_rollback_1 : decode method_17_code 1 = .ok (.iconst 0, 1) := by decide +kernel
theorem dL_rollback_2 : decode method_17_code 2 = .ok (.aload_n 0, 1) := by decide +kernel
theorem dL_rollback_3 : decode method_17_code 3 = .ok (.iload_n 1, 1) := by decide +kernel
theorem dL_rollback_4 : decode method_17_code 4 = .ok (.iload_n 2, 1) := by decide +kernel
theorem dL_rollback_5 : decode method_17_code 5 = .ok (.invokevirtual 71, 3) := by decide +kernel
theorem dL_rollback_8 : decode method_17_code 8 = .ok (.i2l, 1) := by decide +kernel
theorem dL_rollback_9 : decode method_17_code 9 = .ok (.lastore, 1) := by decide +kernel
theorem dL_rollback_10 : decode method_17_code 10 = .ok (.goto (15), 3) := by decide +kernel
theorem dL_rollback_13 : decode method_17_code 13 = .ok (.astore 4, 2) := by decide +kernel
theorem dL_rollback_15 : decode method_17_code 15 = .ok (.iconst 1, 1) := by decide +kernel
theorem dL_rollback_16 : decode method_17_code 16 = .ok (.ireturn, 1) := by decide +kernel
theorem dL_rollback_17 : decode method_17_code 17 = .ok (.astore 4, 2) := by decide +kernel
theorem dL_rollback_19 : decode method_17_code 19 = .ok (.iconst 2, 1) := by decide +kernel
theorem dL_rollback_20 : decode method_17_code 20 = .ok (.ireturn, 1) := by decide +kernel
theorem dL_rollback_21 : decode method_17_code 21 = .ok (.astore 4, 2) := by decide +kernel
theorem dL_rollback_23 : decode method_17_code 23 = .ok (.iconst 3, 1) := by decide +kernel
theorem dL_rollback_24 : decode method_17_code 24 = .ok (.ireturn, 1) := by decide +kernel
theorem dL_rollback_25 : decode method_17_code 25 = .ok (.iconst 0, 1) := by decide +kernel
theorem dL_rollback_26 : decode method_17_code 26 = .ok (.ireturn, 1) := by decide +kernel
def Y_L_rollback : sdY := ("SettingsDeskLaw", method_17_code, 5, (some .int), .codeWith y_L_rollback method_17_code 5 (some .int) [(0, 10, 13, 13), (0, 10, 17, 19), (0, 10, 21, 21)] :: sdB0, { frames := 8, cells := 4, slots := 24, locals := 125 }, 4, 24, [(0, 10, 13, 13), (0, 10, 17, 19), (0, 10, 21, 21)])
theorem cw_L_rollback_D_rollback_71 : sd_cwV Y_L_rollback Y_D_rollback y_D_rollback 71 2 "SettingsDesk" := ⟨sd_goodV q683 q684 q685 q274 q393, ⟨_, rfl⟩, ⟨rfl, rfl, rfl, rfl⟩, ⟨rfl, by decide, by decide, by decide +kernel⟩, ⟨by decide, by decide⟩⟩
section
variable {l : Launch} {D : va_G} {dA : Nat → ClassId} {b n : Nat} {ad : Nat → Nat} {L : Nat → sdL} {sc : Option (Nat × Nat × (Nat → Int32))}
def w_L_rollback (M : sdM) (a1 : Int32) (a2 : Int32) (Q : Int32 → sdM → Prop) : Prop := w_D_rollback M a1 a2 (fun r M1 => ∀ M2 : sdM, M2 = sd_s M1 134 0 r → Q 0 M2) (fun E M1 => (E = "java/lang/IllegalStateException" ∧ Q 1 M1) ∨ (E = "java/lang/IndexOutOfBoundsException" ∧ Q 2 M1) ∨ (E = "java/lang/IllegalArgumentException" ∧ Q 3 M1))
set_option maxHeartbeats 1000000 in
theorem c_L_rollback {a1 : Int32} {a2 : Int32} (hA : sd_ad b n ad) (hT : l.stackTraces = false) (hD : isD n L dA) (hJ : isJ n L dA) {Q : Int32 → sdM → Prop} {M : sdM} (hw : w_L_rollback M a1 a2 Q) : sd_Cn l (sdE0 sc) y_L_rollback Y_L_rollback.2.2.2.2.1 Y_L_rollback.2.2.2.2.2.1 4 24 D (sd_tys dA) b n ad L M [.ref 0, .int a1, .int a2, .ref 134] (sd_qi Q) sd_xf := by
  refine sd_enterH (Y := Y_L_rollback) rfl rfl rfl (Nat.le_of_ble_eq_true rfl) ?_
  unfold w_L_rollback at hw
  refine x_aload_n 3 3 dL_rollback_0 rfl rfl ?_
  refine x_iconst (v := 0) dL_rollback_1 (by decide) ?_
  refine x_aload_n 0 0 dL_rollback_2 rfl rfl ?_
  refine x_iload_n 1 1 dL_rollback_3 rfl rfl ?_
  refine x_iload_n 2 2 dL_rollback_4 rfl rfl ?_
  refine x_callVci (As := [.int a1, .int a2]) (t := 0) (rest := [.int 0, .ref 134]) (rc := 0) (rs := 0) [((0, 10, 13, 13), "java/lang/IllegalStateException"), ((0, 10, 17, 19), "java/lang/IndexOutOfBoundsException"), ((0, 10, 21, 21), "java/lang/IllegalArgumentException")] rfl (List.forall_mem_cons.mpr ⟨⟨rfl, by decide, List.mem_cons_of_mem _ q634, List.mem_of_getElem? (i := 0) rfl⟩, List.forall_mem_cons.mpr ⟨⟨rfl, by decide, List.mem_cons_of_mem _ q638, List.mem_of_getElem? (i := 1) rfl⟩, List.forall_mem_cons.mpr ⟨⟨rfl, by decide, List.mem_cons_of_mem _ q639, List.mem_of_getElem? (i := 2) rfl⟩, fun _ h => absurd h List.not_mem_nil⟩⟩⟩) (c_D_rollback hA hT hD hw) cw_L_rollback_D_rollback_71 hD.1 hD.2.1 rfl dL_rollback_5 rfl rfl (Nat.le_of_ble_eq_true rfl) (fun E9 M1 hx => ?_) (fun r M1 hq => ?_)
  · rcases hx with ⟨rfl, hq⟩ | ⟨rfl, hq⟩ | ⟨rfl, hq⟩
    · refine ⟨List.mem_of_getElem? (i := 0) rfl, 13, 4, 15, rfl, (Or.inr ⟨dL_rollback_13, rfl⟩), by decide, ?_⟩
      refine x_iconst (v := 1) dL_rollback_15 (by decide) ?_
      exact x_iret dL_rollback_16 rfl (fun _ h => h) ⟨_, rfl, hq⟩
    · refine ⟨List.mem_of_getElem? (i := 1) rfl, 17, 4, 19, rfl, (Or.inr ⟨dL_rollback_17, rfl⟩), by decide, ?_⟩
      refine x_iconst (v := 2) dL_rollback_19 (by decide) ?_
      exact x_iret dL_rollback_20 rfl (fun _ h => h) ⟨_, rfl, hq⟩
    · refine ⟨List.mem_of_getElem? (i := 2) rfl, 21, 4, 23, rfl, (Or.inr ⟨dL_rollback_21, rfl⟩), by decide, ?_⟩
      refine x_iconst (v := 3) dL_rollback_23 (by decide) ?_
      exact x_iret dL_rollback_24 rfl (fun _ h => h) ⟨_, rfl, hq⟩
  · refine x_i2l dL_rollback_8 ?_
    refine x_last (x := r) hA dL_rollback_9 hJ.1 hJ.2 rfl rfl sd_in01 (fun M2 e2 => ?_)
    refine x_goto 25 dL_rollback_10 rfl ?_
    refine x_iconst (v := 0) dL_rollback_25 (by decide) ?_
    exact x_iret dL_rollback_26 rfl (fun _ h => h) ⟨_, rfl, (hq M2 e2)⟩
end
theorem q686 : (.methodLink "SettingsDeskLaw" 74 ⟨"SettingsDesk", "diff", "(III)I"⟩ : Cond) ∈ sdB0 := sd_tb4 67 rfl rfl
theorem q687 : (.instanceMethod ⟨"SettingsDesk", "diff", "(III)I"⟩ : Cond) ∈ sdB0 := sd_tb4 68 rfl rfl
theorem q688 : (.selects "SettingsDesk" ⟨"SettingsDesk", "diff", "(III)I"⟩ ⟨"SettingsDesk", "diff", "(III)I"⟩ : Cond) ∈ sdB0 := sd_tb4 69 rfl rfl
abbrev y_L_diff : MethodName := ⟨"SettingsDeskLaw", "diff", "(LSettingsDesk;III[J)I"⟩
theorem dL_diff_0 : decode method_18_code 0 = .ok (.aload 4, 2) := by decide +kernel
theorem dL_diff_2 : decode method_18_code 2 = .ok (.iconst 0, 1) := by decide +kernel
theorem dL_diff_3 : decode method_18_code 3 = .ok (.aload_n 0, 1) := by decide +kernel
theorem dL_diff_4 : decode method_18_code 4 = .ok (.iload_n 1, 1) := by decide +kernel
theorem dL_diff_5 : decode method_18_code 5 = .ok (.iload_n 2, 1) := by decide +kernel
theorem dL_diff_6 : decode method_18_code 6 = .ok (.iload_n 3, 1) := by decide +kernel
theorem dL_diff_7 : decode method_18_code 7 = .ok (.invokevirtual 74, 3) := by decide +kernel
theorem dL_diff_10 : decode method_18_code 10 = .ok (.i2l, 1) := by decide +kernel
theorem dL_diff_11 : decode method_18_code 11 = .ok (.lastore, 1) := by decide +kernel
theorem dL_diff_12 : decode method_18_code 12 = .ok (.goto (11), 3) := by decide +kernel
theorem dL_diff_15 : decode method_18_code 15 = .ok (.astore 5, 2) := by decide +kernel
theorem dL_diff_17 : decode method_18_code 17 = .ok (.iconst 1, 1) := by decide +kernel
theorem dL_diff_18 : decode method_18_code 18 = .ok (.ireturn, 1) := by decide +kernel
theorem dL_diff_19 : decode method_18_code 19 = .ok (.astore 5, 2) := by decide +kernel
theorem dL_diff_21 : decode method_18_code 21 = .ok (.iconst 2, 1) := by decide +kernel
theorem dL_diff_22 : decode method_18_code 22 = .ok (.ireturn, 1) := by decide +kernel
theorem dL_diff_23 : decode method_18_code 23 = .ok (.iconst 0, 1) := by decide +kernel
theorem dL_diff_24 : decode method_18_code 24 = .ok (.ireturn, 1) := by decide +kernel
def Y_L_diff : sdY := ("SettingsDeskLaw", method_18_code, 6, (some .int), .codeWith y_L_diff method_18_code 6 (some .int) [(0, 12, 15, 13), (0, 12, 19, 19)] :: sdB0, { frames := 8, cells := 5, slots := 32, locals := 139 }, 5, 32, [(0, 12, 15, 13), (0, 12, 19, 19)])
theorem cw_L_diff_D_diff_74 : sd_cwV Y_L_diff Y_D_diff y_D_diff 74 3 "SettingsDesk" := ⟨sd_goodV q686 q687 q688 q274 q441, ⟨_, rfl⟩, ⟨rfl, rfl, rfl, rfl⟩, ⟨rfl, by decide, by decide, by decide +kernel⟩, ⟨by decide, by decide⟩⟩
section
variable {l : Launch} {D : va_G} {dA : Nat → ClassId} {b n : Nat} {ad : Nat → Nat} {L : Nat → sdL} {sc : Option (Nat × Nat × (Nat → Int32))}
def w_L_diff (n : Nat) (M : sdM) (a1 : Int32) (a2 : Int32) (a3 : Int32) (Q : Int32 → sdM → Prop) : Prop := w_D_diff n M a1 a2 a3 (fun r M1 => ∀ M2 : sdM, M2 = sd_s M1 134 0 r → Q 0 M2) (fun E M1 => (E = "java/lang/IllegalStateException" ∧ Q 1 M1) ∨ (E = "java/lang/IndexOutOfBoundsException" ∧ Q 2 M1))
set_option maxHeartbeats 1000000 in
theorem c_L_diff {a1 : Int32} {a2 : Int32} {a3 : Int32} (hA : sd_ad b n ad) (hT : l.stackTraces = false) (hD : isD n L dA) (hJ : isJ n L dA) (hloc : sd_loc n L) {Q : Int32 → sdM → Prop} {M : sdM} (hw : w_L_diff n M a1 a2 a3 Q) : sd_Cn l (sdE0 sc) y_L_diff Y_L_diff.2.2.2.2.1 Y_L_diff.2.2.2.2.2.1 5 32 D (sd_tys dA) b n ad L M [.ref 0, .int a1, .int a2, .int a3, .ref 134] (sd_qi Q) sd_xf := by
  refine sd_enterH (Y := Y_L_diff) rfl rfl rfl (Nat.le_of_ble_eq_true rfl) ?_
  unfold w_L_diff at hw
  refine x_aload 4 4 dL_diff_0 rfl ?_
  refine x_iconst (v := 0) dL_diff_2 (by decide) ?_
  refine x_aload_n 0 0 dL_diff_3 rfl rfl ?_
  refine x_iload_n 1 1 dL_diff_4 rfl rfl ?_
  refine x_iload_n 2 2 dL_diff_5 rfl rfl ?_
  refine x_iload_n 3 3 dL_diff_6 rfl rfl ?_
  refine x_callVci (As := [.int a1, .int a2, .int a3]) (t := 0) (rest := [.int 0, .ref 134]) (rc := 0) (rs := 0) [((0, 12, 15, 13), "java/lang/IllegalStateException"), ((0, 12, 19, 19), "java/lang/IndexOutOfBoundsException")] rfl (List.forall_mem_cons.mpr ⟨⟨rfl, by decide, List.mem_cons_of_mem _ q634, List.mem_of_getElem? (i := 0) rfl⟩, List.forall_mem_cons.mpr ⟨⟨rfl, by decide, List.mem_cons_of_mem _ q638, List.mem_of_getElem? (i := 1) rfl⟩, fun _ h => absurd h List.not_mem_nil⟩⟩) (c_D_diff hA hT hD hloc hw) cw_L_diff_D_diff_74 hD.1 hD.2.1 rfl dL_diff_7 rfl rfl (Nat.le_of_ble_eq_true rfl) (fun E9 M1 hx => ?_) (fun r M1 hq => ?_)
  · rcases hx with ⟨rfl, hq⟩ | ⟨rfl, hq⟩
    · refine ⟨List.mem_of_getElem? (i := 0) rfl, 15, 5, 17, rfl, (Or.inr ⟨dL_diff_15, rfl⟩), by decide, ?_⟩
      refine x_iconst (v := 1) dL_diff_17 (by decide) ?_
      exact x_iret dL_diff_18 rfl (fun _ h => h) ⟨_, rfl, hq⟩
    · refine ⟨List.mem_of_getElem? (i := 1) rfl, 19, 5, 21, rfl, (Or.inr ⟨dL_diff_19, rfl⟩), by decide, ?_⟩
      refine x_iconst (v := 2) dL_diff_21 (by decide) ?_
      exact x_iret dL_diff_22 rfl (fun _ h => h) ⟨_, rfl, hq⟩
  · refine x_i2l dL_diff_10 ?_
    refine x_last (x := r) hA dL_diff_11 hJ.1 hJ.2 rfl rfl sd_in01 (fun M2 e2 => ?_)
    refine x_goto 23 dL_diff_12 rfl ?_
    refine x_iconst (v := 0) dL_diff_23 (by decide) ?_
    exact x_iret dL_diff_24 rfl (fun _ h => h) ⟨_, rfl, (hq M2 e2)⟩
end
theorem q689 : (.methodLink "SettingsDeskLaw" 78 ⟨"SettingsDesk", "save", "()I"⟩ : Cond) ∈ sdB0 := sd_tb4 129 rfl rfl
theorem q690 : (.code ⟨"SettingsDesk", "save", "()I"⟩ prog_1_method_18_code 2 (some .int) : Cond) ∈ sdB0 := sd_tb4 132 rfl rfl
theorem q691 : (.instanceMethod ⟨"SettingsDesk", "save", "()I"⟩ : Cond) ∈ sdB0 := sd_tb4 130 rfl rfl
theorem q692 : (.selects "SettingsDesk" ⟨"SettingsDesk", "save", "()I"⟩ ⟨"SettingsDesk", "save", "()I"⟩ : Cond) ∈ sdB0 := sd_tb4 131 rfl rfl
abbrev y_L_save : MethodName := ⟨"SettingsDeskLaw", "save", "(LSettingsDesk;[J)I"⟩
theorem dL_save_0 : decode method_19_code 0 = .ok (.aload_n 1, 1) := by decide +kernel
theorem dL_save_1 : decode method_19_code 1 = .ok (.iconst 0, 1) := by decide +kernel
theorem dL_save_2 : decode method_19_code 2 = .ok (.aload_n 0, 1) := by decide +kernel
theorem dL_save_3 : decode method_19_code 3 = .ok (.invokevirtual 78, 3) := by decide +kernel
theorem dL_save_6 : decode method_19_code 6 = .ok (.i2l, 1) := by decide +kernel
theorem dL_save_7 : decode method_19_code 7 = .ok (.lastore, 1) := by decide +kernel
theorem dL_save_8 : decode method_19_code 8 = .ok (.goto (6), 3) := by decide +kernel
theorem dL_save_11 : decode method_19_code 11 = .ok (.astore_n 2, 1) := by decide +kernel
theorem dL_save_12 : decode method_19_code 12 = .ok (.iconst 1, 1) := by decide +kernel
theorem dL_save_13 : decode method_19_code 13 = .ok (.ireturn, 1) := by decide +kernel
theorem dL_save_14 : decode method_19_code 14 = .ok (.iconst 0, 1) := by decide +kernel
theorem dL_save_15 : decode method_19_code 15 = .ok (.ireturn, 1) := by decide +kernel
def Y_L_save : sdY := ("SettingsDeskLaw", method_19_code, 3, (some .int), .codeWith y_L_save method_19_code 3 (some .int) [(0, 8, 11, 13)] :: sdB0, { frames := 8, cells := 1, slots := 6, locals := 123 }, 1, 6, [(0, 8, 11, 13)])
theorem cw_L_save_D_save_78 : sd_cwV Y_L_save Y_D_save y_D_save 78 0 "SettingsDesk" := ⟨sd_goodV q689 q691 q692 q274 q690, ⟨_, rfl⟩, ⟨rfl, rfl, rfl, rfl⟩, ⟨rfl, by decide, by decide, by decide +kernel⟩, ⟨by decide, by decide⟩⟩
section
variable {l : Launch} {D : va_G} {dA : Nat → ClassId} {b n : Nat} {ad : Nat → Nat} {L : Nat → sdL} {sc : Option (Nat × Nat × (Nat → Int32))}
def w_L_save (M : sdM) (Q : Int32 → sdM → Prop) : Prop := w_D_save M  (fun r M1 => ∀ M2 : sdM, M2 = sd_s M1 134 0 r → Q 0 M2) (fun E M1 => (E = "java/lang/IllegalStateException" ∧ Q 1 M1))
set_option maxHeartbeats 1000000 in
theorem c_L_save (hA : sd_ad b n ad) (hT : l.stackTraces = false) (hD : isD n L dA) (hJ : isJ n L dA) {Q : Int32 → sdM → Prop} {M : sdM} (hw : w_L_save M  Q) : sd_Cn l (sdE0 sc) y_L_save Y_L_save.2.2.2.2.1 Y_L_save.2.2.2.2.2.1 1 6 D (sd_tys dA) b n ad L M [.ref 0, .ref 134] (sd_qi Q) sd_xf := by
  refine sd_enterH (Y := Y_L_save) rfl rfl rfl (Nat.le_of_ble_eq_true rfl) ?_
  unfold w_L_save at hw
  refine x_aload_n 1 1 dL_save_0 rfl rfl ?_
  refine x_iconst (v := 0) dL_save_1 (by decide) ?_
  refine x_aload_n 0 0 dL_save_2 rfl rfl ?_
  refine x_callVci (As := []) (t := 0) (rest := [.int 0, .ref 134]) (rc := 0) (rs := 0) [((0, 8, 11, 13), "java/lang/IllegalStateException")] rfl (List.forall_mem_cons.mpr ⟨⟨rfl, by decide, List.mem_cons_of_mem _ q634, List.mem_of_getElem? (i := 0) rfl⟩, fun _ h => absurd h List.not_mem_nil⟩) (c_D_save hA hT hD hw) cw_L_save_D_save_78 hD.1 hD.2.1 rfl dL_save_3 rfl rfl (Nat.le_of_ble_eq_true rfl) (fun E9 M1 hx => ?_) (fun r M1 hq => ?_)
  · obtain ⟨rfl, hq⟩ := hx
    · refine ⟨List.mem_of_getElem? (i := 0) rfl, 11, 2, 12, rfl, (Or.inl ⟨2, dL_save_11, rfl, rfl⟩), by decide, ?_⟩
      refine x_iconst (v := 1) dL_save_12 (by decide) ?_
      exact x_iret dL_save_13 rfl (fun _ h => h) ⟨_, rfl, hq⟩
  · refine x_i2l dL_save_6 ?_
    refine x_last (x := r) hA dL_save_7 hJ.1 hJ.2 rfl rfl sd_in01 (fun M2 e2 => ?_)
    refine x_goto 14 dL_save_8 rfl ?_
    refine x_iconst (v := 0) dL_save_14 (by decide) ?_
    exact x_iret dL_save_15 rfl (fun _ h => h) ⟨_, rfl, (hq M2 e2)⟩
end
theorem q693 : (.methodLink "SettingsDeskLaw" 81 ⟨"SettingsDesk", "cut", "(I)Z"⟩ : Cond) ∈ sdB0 := sd_tb4 148 rfl rfl
theorem q694 : (.instanceMethod ⟨"SettingsDesk", "cut", "(I)Z"⟩ : Cond) ∈ sdB0 := sd_tb4 149 rfl rfl
theorem q695 : (.selects "SettingsDesk" ⟨"SettingsDesk", "cut", "(I)Z"⟩ ⟨"SettingsDesk", "cut", "(I)Z"⟩ : Cond) ∈ sdB0 := sd_tb4 150 rfl rfl
abbrev y_L_cut : MethodName := ⟨"SettingsDeskLaw", "cut", "(LSettingsDesk;I[J)I"⟩
theorem dL_cut_0 : decode method_20_code 0 = .ok (.aload_n 2, 1) := by decide +kernel
theorem dL_cut_1 : decode method_20_code 1 = .ok (.iconst 0, 1) := by decide +kernel
theorem dL_cut_2 : decode method_20_code 2 = .ok (.aload_n 0, 1) := by decide +kernel
theorem dL_cut_3 : decode method_20_code 3 = .ok (.iload_n 1, 1) := by decide +kernel
theorem dL_cut_4 : decode method_20_code 4 = .ok (.invokevirtual 81, 3) := by decide +kernel
theorem dL_cut_7 : decode method_20_code 7 = .ok (.ifCond .eq (7), 3) := by decide +kernel
theorem dL_cut_10 : decode method_20_code 10 = .ok (.lconst 1, 1) := by decide +kernel
theorem dL_cut_11 : decode method_20_code 11 = .ok (.goto (4), 3) := by decide +kernel
theorem dL_cut_14 : decode method_20_code 14 = .ok (.lconst 0, 1) := by decide +kernel
theorem dL_cut_15 : decode method_20_code 15 = .ok (.lastore, 1) := by decide +kernel
theorem dL_cut_16 : decode method_20_code 16 = .ok (.goto (6), 3) := by decide +kernel
theorem dL_cut_19 : decode method_20_code 19 = .ok (.astore_n 3, 1) := by decide +kernel
theorem dL_cut_20 : decode method_20_code 20 = .ok (.iconst 1, 1) := by decide +kernel
theorem dL_cut_21 : decode method_20_code 21 = .ok (.ireturn, 1) := by decide +kernel
theorem dL_cut_22 : decode method_20_code 22 = .ok (.iconst 0, 1) := by decide +kernel
theorem dL_cut_23 : decode method_20_code 23 = .ok (.ireturn, 1) := by decide +kernel
def Y_L_cut : sdY := ("SettingsDeskLaw", method_20_code, 4, (some .int), .codeWith y_L_cut method_20_code 4 (some .int) [(0, 16, 19, 21)] :: sdB0, { frames := 7, cells := 1, slots := 6, locals := 103 }, 1, 6, [(0, 16, 19, 21)])
theorem cw_L_cut_D_cut_81 : sd_cwV Y_L_cut Y_D_cut y_D_cut 81 1 "SettingsDesk" := ⟨sd_goodV q693 q694 q695 q274 q407, ⟨_, rfl⟩, ⟨rfl, rfl, rfl, rfl⟩, ⟨rfl, by decide, by decide, by decide +kernel⟩, ⟨by decide, by decide⟩⟩
section
variable {l : Launch} {D : va_G} {dA : Nat → ClassId} {b n : Nat} {ad : Nat → Nat} {L : Nat → sdL} {sc : Option (Nat × Nat × (Nat → Int32))}
def w_L_cut (M : sdM) (a1 : Int32) (Q : Int32 → sdM → Prop) : Prop := w_D_cut M a1 (fun r M1 => ∀ M2 : sdM, M2 = sd_s M1 134 0 (if r = 0 then 0 else 1) → Q 0 M2) (fun E M1 => (E = "java/lang/IllegalArgumentException" ∧ Q 1 M1))
set_option maxHeartbeats 1000000 in
theorem c_L_cut {a1 : Int32} (hA : sd_ad b n ad) (hT : l.stackTraces = false) (hD : isD n L dA) (hJ : isJ n L dA) {Q : Int32 → sdM → Prop} {M : sdM} (hw : w_L_cut M a1 Q) : sd_Cn l (sdE0 sc) y_L_cut Y_L_cut.2.2.2.2.1 Y_L_cut.2.2.2.2.2.1 1 6 D (sd_tys dA) b n ad L M [.ref 0, .int a1, .ref 134] (sd_qi Q) sd_xf := by
  refine sd_enterH (Y := Y_L_cut) rfl rfl rfl (Nat.le_of_ble_eq_true rfl) ?_
  unfold w_L_cut at hw
  refine x_aload_n 2 2 dL_cut_0 rfl rfl ?_
  refine x_iconst (v := 0) dL_cut_1 (by decide) ?_
  refine x_aload_n 0 0 dL_cut_2 rfl rfl ?_
  refine x_iload_n 1 1 dL_cut_3 rfl rfl ?_
  refine x_callVci (As := [.int a1]) (t := 0) (rest := [.int 0, .ref 134]) (rc := 0) (rs := 0) [((0, 16, 19, 21), "java/lang/IllegalArgumentException")] rfl (List.forall_mem_cons.mpr ⟨⟨rfl, by decide, List.mem_cons_of_mem _ q639, List.mem_of_getElem? (i := 2) rfl⟩, fun _ h => absurd h List.not_mem_nil⟩) (c_D_cut hA hT hD hw) cw_L_cut_D_cut_81 hD.1 hD.2.1 rfl dL_cut_4 rfl rfl (Nat.le_of_ble_eq_true rfl) (fun E9 M1 hx => ?_) (fun r M1 hq => ?_)
  · obtain ⟨rfl, hq⟩ := hx
    · refine ⟨List.mem_of_getElem? (i := 2) rfl, 19, 3, 20, rfl, (Or.inl ⟨3, dL_cut_19, rfl, rfl⟩), by decide, ?_⟩
      refine x_iconst (v := 1) dL_cut_20 (by decide) ?_
      exact x_iret dL_cut_21 rfl (fun _ h => h) ⟨_, rfl, hq⟩
  · refine x_if_eq 14 dL_cut_7 rfl (fun h0 => ?_) (fun h0 => ?_)
    · rw [if_pos h0] at hq
      refine x_lconst (v := 0) dL_cut_14 (by decide) ?_
      refine x_last (x := 0) hA dL_cut_15 hJ.1 hJ.2 rfl rfl sd_in01 (fun M2 e2 => ?_)
      refine x_goto 22 dL_cut_16 rfl ?_
      refine x_iconst (v := 0) dL_cut_22 (by decide) ?_
      exact x_iret dL_cut_23 rfl (fun _ h => h) ⟨_, rfl, (hq M2 e2)⟩
    · rw [if_neg h0] at hq
      refine x_lconst (v := 1) dL_cut_10 (by decide) ?_
      refine x_goto 15 dL_cut_11 rfl ?_
      refine x_last (x := 1) hA dL_cut_15 hJ.1 hJ.2 rfl rfl sd_in01 (fun M2 e2 => ?_)
      refine x_goto 22 dL_cut_16 rfl ?_
      refine x_iconst (v := 0) dL_cut_22 (by decide) ?_
      exact x_iret dL_cut_23 rfl (fun _ h => h) ⟨_, rfl, (hq M2 e2)⟩
end
