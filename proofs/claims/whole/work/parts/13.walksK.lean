theorem q186 : (.fieldLink "SettingsDesk$Check" 27 "SettingsDesk$Schema" "lists" "I" : Cond) ∈ sdB0 := sd_tb1 108 rfl rfl
theorem q187 : (.fieldLink "SettingsDesk$Check" 55 "SettingsDesk$Settings" "counts" "[I" : Cond) ∈ sdB0 := sd_tb1 138 rfl rfl
theorem q188 : (.methodLink "SettingsDesk$Check" 59 ⟨"SettingsDesk$Trouble", "note", "(IIII)V"⟩ : Cond) ∈ sdB0 := sd_tb3 28 rfl rfl
abbrev y_K_isCrowded : MethodName := ⟨"SettingsDesk$Check", "isCrowded", "()Z"⟩
theorem d_K_isCrowded_0 : decode prog_2_method_3_code 0 = .ok (.iconst 0, 1) := by decide +kernel
theorem d_K_isCrowded_1 : decode prog_2_method_3_code 1 = .ok (.istore_n 1, 1) := by decide +kernel
theorem d_K_isCrowded_2 : decode prog_2_method_3_code 2 = .ok (.iload_n 1, 1) := by decide +kernel
theorem d_K_isCrowded_3 : decode prog_2_method_3_code 3 = .ok (.aload_n 0, 1) := by decide +kernel
theorem d_K_isCrowded_4 : decode prog_2_method_3_code 4 = .ok (.getfield 9, 3) := by decide +kernel
theorem d_K_isCrowded_7 : decode prog_2_method_3_code 7 = .ok (.getfield 27, 3) := by decide +kernel
theorem d_K_isCrowded_10 : decode prog_2_method_3_code 10 = .ok (.if_icmp .ge (36), 3) := by decide +kernel
theorem d_K_isCrowded_13 : decode prog_2_method_3_code 13 = .ok (.aload_n 0, 1) := by decide +kernel
theorem d_K_isCrowded_14 : decode prog_2_method_3_code 14 = .ok (.getfield 15, 3) := by decide +kernel
theorem d_K_isCrowded_17 : decode prog_2_method_3_code 17 = .ok (.getfield 55, 3) := by decide +kernel
theorem d_K_isCrowded_20 : decode prog_2_method_3_code 20 = .ok (.iload_n 1, 1) := by decide +kernel
theorem d_K_isCrowded_21 : decode prog_2_method_3_code 21 = .ok (.iaload, 1) := by decide +kernel
theorem d_K_isCrowded_22 : decode prog_2_method_3_code 22 = .ok (.bipush (6), 2) := by decide +kernel
theorem d_K_isCrowded_24 : decode prog_2_method_3_code 24 = .ok (.if_icmp .le (16), 3) := by decide +kernel
theorem d_K_isCrowded_27 : decode prog_2_method_3_code 27 = .ok (.aload_n 0, 1) := by decide +kernel
theorem d_K_isCrowded_28 : decode prog_2_method_3_code 28 = .ok (.getfield 19, 3) := by decide +kernel
theorem d_K_isCrowded_31 : decode prog_2_method_3_code 31 = .ok (.iconst 5, 1) := by decide +kernel
theorem d_K_isCrowded_32 : decode prog_2_method_3_code 32 = .ok (.iload_n 1, 1) := by decide +kernel
theorem d_K_isCrowded_33 : decode prog_2_method_3_code 33 = .ok (.iconst (-1), 1) := by decide +kernel
theorem d_K_isCrowded_34 : decode prog_2_method_3_code 34 = .ok (.iconst (-1), 1) := by decide +kernel
theorem d_K_isCrowded_35 : decode prog_2_method_3_code 35 = .ok (.invokevirtual 59, 3) := by decide +kernel
theorem d_K_isCrowded_38 : decode prog_2_method_3_code 38 = .ok (.iconst 1, 1) := by decide +kernel
theorem d_K_isCrowded_39 : decode prog_2_method_3_code 39 = .ok (.ireturn, 1) := by decide +kernel
theorem d_K_isCrowded_40 : decode prog_2_method_3_code 40 = .ok (.iinc 1 (1), 3) := by decide +kernel
theorem d_K_isCrowded_43 : decode prog_2_method_3_code 43 = .ok (.goto (-41), 3) := by decide +kernel
theorem d_K_isCrowded_46 : decode prog_2_method_3_code 46 = .ok (.iconst 0, 1) := by decide +kernel
theorem d_K_isCrowded_47 : decode prog_2_method_3_code 47 = .ok (.ireturn, 1) := by decide +kernel
def Y_K_isCrowded : sdY := ("SettingsDesk$Check", prog_2_method_3_code, 2, (some .boolean), .code y_K_isCrowded prog_2_method_3_code 2 (some .boolean) :: sdB0, { frames := 1, cells := 0, slots := 0, locals := 24 }, 0, 0, [])
theorem cw_K_isCrowded_T_note_59 : sd_cwV Y_K_isCrowded Y_T_note y_T_note 59 4 "SettingsDesk$Trouble" := ⟨sd_goodV q188 q121 q122 q123 q120, ⟨_, rfl⟩, ⟨rfl, rfl, rfl, rfl⟩, ⟨rfl, by decide, by decide, by decide +kernel⟩, ⟨by decide, by decide⟩⟩
section
variable {l : Launch} {D : va_G} {dA : Nat → ClassId} {b n : Nat} {ad : Nat → Nat} {L : Nat → sdL} {sc : Option (Nat × Nat × (Nat → Int32))}
def h_K_isCrowded_2 (o : Nat) (se : Nat) (tr : Nat) (Q : Int32 → sdM → Prop) : Nat → sdM → Int32 → Prop
  | 0, _, _ => False
  | N + 1, M, x1 => ((M 1 1) ≤ x1 → sdB (0 : Int32) ∧ Q (0 : Int32) M) ∧ (¬ (M 1 1) ≤ x1 → vp_in x1 4 ∧ ((M (se + 1) x1.toNatClampNeg) ≤ (6 : Int32) → h_K_isCrowded_2 o se tr Q N M (x1 + 1)) ∧ (¬ (M (se + 1) x1.toNatClampNeg) ≤ (6 : Int32) → w_T_note tr M (5 : Int32) x1 (-1 : Int32) (-1 : Int32) (fun M4 => sdB (1 : Int32) ∧ Q (1 : Int32) M4)))
set_option maxHeartbeats 1000000 in
theorem t_K_isCrowded_2 {o : Nat} {se : Nat} {tr : Nat} (hA : sd_ad b n ad) (hT : l.stackTraces = false) (ho : isK n L dA o se tr) {Q : Int32 → sdM → Prop} (N : Nat) : ∀ (M : sdM) (x1 : Int32), h_K_isCrowded_2 o se tr Q N M x1 → sdW l (sdE0 sc) Y_K_isCrowded D (sd_tys dA) b n ad L ad (sd_H D (sdE0 sc).1 n ad L) (sd_qi Q) sd_xf 2 [(0, .ref o), (1, .int x1)] [] M 0 0 := by
  induction N with
  | zero => intro M x1 hw; exact hw.elim
  | succ N ih =>
    intro M x1 hw
    rw [h_K_isCrowded_2] at hw
    refine x_iload_n 1 1 d_K_isCrowded_2 rfl rfl ?_
    refine x_aload_n 0 0 d_K_isCrowded_3 rfl rfl ?_
    refine x_getr 0 1 d_K_isCrowded_4 ho.1 ho.2.1 rfl rfl (by decide) lay_K (List.mem_cons_of_mem _ q179) rfl ?_
    refine x_geti 1 d_K_isCrowded_7 ho.schema.1 ho.schema.2.1 rfl rfl (by decide) lay_C (List.mem_cons_of_mem _ q186) rfl ?_
    refine x_icmp_ge 46 d_K_isCrowded_10 rfl (fun hc => ?_) (fun hc => ?_)
    · have hw := hw.1 hc
      refine x_iconst (v := 0) d_K_isCrowded_46 (by decide) ?_
      exact x_zret d_K_isCrowded_47 rfl (sdB_n hw.1) (fun _ h => h) ⟨_, rfl, hw.2⟩
    · have hw := hw.2 hc
      refine x_aload_n 0 0 d_K_isCrowded_13 rfl rfl ?_
      refine x_getr 1 se d_K_isCrowded_14 ho.1 ho.2.1 rfl rfl (by decide) lay_K (List.mem_cons_of_mem _ q180) rfl ?_
      refine x_getr 0 (se + 1) d_K_isCrowded_17 ho.settings.1 ho.settings.2.1 rfl rfl (by decide) lay_S (List.mem_cons_of_mem _ q187) rfl ?_
      refine x_iload_n 1 1 d_K_isCrowded_20 rfl rfl ?_
      obtain ⟨hi3, hw⟩ := hw
      refine x_iald d_K_isCrowded_21 ho.settings.counts.1 ho.settings.counts.2 rfl hi3 ?_
      refine x_bipush (v := 6) d_K_isCrowded_22 (by decide) ?_
      refine x_icmp_le 40 d_K_isCrowded_24 rfl (fun hc => ?_) (fun hc => ?_)
      · have hw := hw.1 hc
        refine x_iinc 1 1 [(1, .int (x1 + 1)), (0, .ref o)] d_K_isCrowded_40 rfl (congrArg (HAdd.hAdd x1) (show Int32.ofInt 1 = 1 by decide)) (by decide) rfl ?_
        refine x_goto 2 d_K_isCrowded_43 rfl ?_
        refine x_sub [1, 0] [(0, .ref o), (1, .int (x1 + 1))] rfl ?_
        exact ih M (x1 + 1) hw
      · have hw := hw.2 hc
        refine x_aload_n 0 0 d_K_isCrowded_27 rfl rfl ?_
        refine x_getr 2 tr d_K_isCrowded_28 ho.1 ho.2.1 rfl rfl (by decide) lay_K (List.mem_cons_of_mem _ q181) rfl ?_
        refine x_iconst (v := 5) d_K_isCrowded_31 (by decide) ?_
        refine x_iload_n 1 1 d_K_isCrowded_32 rfl rfl ?_
        refine x_iconst (v := (-1)) d_K_isCrowded_33 (by decide) ?_
        refine x_iconst (v := (-1)) d_K_isCrowded_34 (by decide) ?_
        refine x_callVv (As := [.int (5 : Int32), .int x1, .int (-1 : Int32), .int (-1 : Int32)]) (t := tr) (rest := []) (rc := 0) (rs := 0) (c_T_note hA hT ho.trouble hw) cw_K_isCrowded_T_note_59 ho.trouble.1 ho.trouble.2 rfl d_K_isCrowded_35 rfl rfl (Nat.le_of_ble_eq_true rfl) rfl (fun _ _ h => h.elim) (fun _ _ h => h) (fun M4 hw => ?_)
        refine x_iconst (v := 1) d_K_isCrowded_38 (by decide) ?_
        exact x_zret d_K_isCrowded_39 rfl (sdB_n hw.1) (fun _ h => h) ⟨_, rfl, hw.2⟩
def w_K_isCrowded (o : Nat) (se : Nat) (tr : Nat) (M : sdM) (Q : Int32 → sdM → Prop) : Prop := ∃ N9 : Nat, h_K_isCrowded_2 o se tr Q N9 M (0 : Int32)
set_option maxHeartbeats 1000000 in
theorem c_K_isCrowded {o : Nat} {se : Nat} {tr : Nat} (hA : sd_ad b n ad) (hT : l.stackTraces = false) (ho : isK n L dA o se tr) {Q : Int32 → sdM → Prop} {M : sdM} (hw : w_K_isCrowded o se tr M Q) : sd_Cn l (sdE0 sc) y_K_isCrowded Y_K_isCrowded.2.2.2.2.1 Y_K_isCrowded.2.2.2.2.2.1 0 0 D (sd_tys dA) b n ad L M [.ref o] (sd_qi Q) sd_xf := by
  refine sd_enter (Y := Y_K_isCrowded) rfl rfl rfl rfl (Nat.le_of_ble_eq_true rfl) ?_
  show sdW l (sdE0 sc) Y_K_isCrowded D (sd_tys dA) b n ad L ad (sd_H D (sdE0 sc).1 n ad L) (sd_qi Q) sd_xf 0 [(0, .ref o)] [] M 0 0
  unfold w_K_isCrowded at hw
  refine x_iconst (v := 0) d_K_isCrowded_0 (by decide) ?_
  refine x_istore_n 1 [(1, .int (0 : Int32)), (0, .ref o)] d_K_isCrowded_1 rfl (by decide) rfl ?_
  refine x_sub [1, 0] [(0, .ref o), (1, .int (0 : Int32))] rfl ?_
  obtain ⟨N9, hw⟩ := hw
  exact t_K_isCrowded_2 hA hT ho N9 M (0 : Int32) hw
end
theorem q189 : (.methodLink "SettingsDesk$Check" 65 ⟨"SettingsDesk$Schema", "leafAt", "(II)LSettingsDesk$Leaf;"⟩ : Cond) ∈ sdB0 := sd_tb3 38 rfl rfl
theorem q190 : (.methodLink "SettingsDesk$Check" 69 ⟨"SettingsDesk$Settings", "isNothing", "(IILSettingsDesk$Leaf;)Z"⟩ : Cond) ∈ sdB0 := sd_tb3 43 rfl rfl
theorem q191 : (.code ⟨"SettingsDesk$Settings", "isNothing", "(IILSettingsDesk$Leaf;)Z"⟩ prog_9_method_18_code 4 (some .boolean) : Cond) ∈ sdB0 := sd_tb3 46 rfl rfl
theorem q192 : (.instanceMethod ⟨"SettingsDesk$Settings", "isNothing", "(IILSettingsDesk$Leaf;)Z"⟩ : Cond) ∈ sdB0 := sd_tb3 44 rfl rfl
theorem q193 : (.selects "SettingsDesk$Settings" ⟨"SettingsDesk$Settings", "isNothing", "(IILSettingsDesk$Leaf;)Z"⟩ ⟨"SettingsDesk$Settings", "isNothing", "(IILSettingsDesk$Leaf;)Z"⟩ : Cond) ∈ sdB0 := sd_tb3 45 rfl rfl
abbrev y_K_isNothing : MethodName := ⟨"SettingsDesk$Check", "isNothing", "(III)Z"⟩
theorem d_K_isNothing_0 : decode prog_2_method_4_code 0 = .ok (.aload_n 0, 1) := by decide +kernel
theorem d_K_isNothing_1 : decode prog_2_method_4_code 1 = .ok (.getfield 15, 3) := by decide +kernel
theorem d_K_isNothing_4 : decode prog_2_method_4_code 4 = .ok (.iload_n 2, 1) := by decide +kernel
theorem d_K_isNothing_5 : decode prog_2_method_4_code 5 = .ok (.iload_n 3, 1) := by decide +kernel
theorem d_K_isNothing_6 : decode prog_2_method_4_code 6 = .ok (.aload_n 0, 1) := by decide +kernel
theorem d_K_isNothing_7 : decode prog_2_method_4_code 7 = .ok (.getfield 9, 3) := by decide +kernel
theorem d_K_isNothing_10 : decode prog_2_method_4_code 10 = .ok (.iload_n 1, 1) := by decide +kernel
theorem d_K_isNothing_11 : decode prog_2_method_4_code 11 = .ok (.iload_n 3, 1) := by decide +kernel
theorem d_K_isNothing_12 : decode prog_2_method_4_code 12 = .ok (.invokevirtual 65, 3) := by decide +kernel
theorem d_K_isNothing_15 : decode prog_2_method_4_code 15 = .ok (.invokevirtual 69, 3) := by decide +kernel
theorem d_K_isNothing_18 : decode prog_2_method_4_code 18 = .ok (.ireturn, 1) := by decide +kernel
def Y_K_isNothing : sdY := ("SettingsDesk$Check", prog_2_method_4_code, 4, (some .boolean), .code y_K_isNothing prog_2_method_4_code 4 (some .boolean) :: sdB0, { frames := 2, cells := 0, slots := 0, locals := 45 }, 0, 0, [])
theorem cw_K_isNothing_C_leafAt_65 : sd_cwV Y_K_isNothing Y_C_leafAt y_C_leafAt 65 2 "SettingsDesk$Schema" := ⟨sd_goodV q189 q87 q88 q77 q86, ⟨_, rfl⟩, ⟨rfl, rfl, rfl, rfl⟩, ⟨rfl, by decide, by decide, by decide +kernel⟩, ⟨by decide, by decide⟩⟩
theorem cw_K_isNothing_S_isNothing_69 : sd_cwV Y_K_isNothing Y_S_isNothing y_S_isNothing 69 3 "SettingsDesk$Settings" := ⟨sd_goodV q190 q192 q193 q7 q191, ⟨_, rfl⟩, ⟨rfl, rfl, rfl, rfl⟩, ⟨rfl, by decide, by decide, by decide +kernel⟩, ⟨by decide, by decide⟩⟩
section
variable {l : Launch} {D : va_G} {dA : Nat → ClassId} {b n : Nat} {ad : Nat → Nat} {L : Nat → sdL} {sc : Option (Nat × Nat × (Nat → Int32))}
def w_K_isNothing (o : Nat) (se : Nat) (tr : Nat) (M : sdM) (a1 : Int32) (a2 : Int32) (a3 : Int32) (Q : Int32 → sdM → Prop) : Prop := w_C_leafAt M a1 a3 (fun t7 M6 => w_S_isNothing se M6 a2 a3 t7 (fun r10 M9 => sdB r10 ∧ Q r10 M9))
set_option maxHeartbeats 1000000 in
theorem c_K_isNothing {a1 : Int32} {a2 : Int32} {a3 : Int32} {o : Nat} {se : Nat} {tr : Nat} (hA : sd_ad b n ad) (hT : l.stackTraces = false) (ho : isK n L dA o se tr) {Q : Int32 → sdM → Prop} {M : sdM} (hw : w_K_isNothing o se tr M a1 a2 a3 Q) : sd_Cn l (sdE0 sc) y_K_isNothing Y_K_isNothing.2.2.2.2.1 Y_K_isNothing.2.2.2.2.2.1 0 0 D (sd_tys dA) b n ad L M [.ref o, .int a1, .int a2, .int a3] (sd_qi Q) sd_xf := by
  refine sd_enter (Y := Y_K_isNothing) rfl rfl rfl rfl (Nat.le_of_ble_eq_true rfl) ?_
  show sdW l (sdE0 sc) Y_K_isNothing D (sd_tys dA) b n ad L ad (sd_H D (sdE0 sc).1 n ad L) (sd_qi Q) sd_xf 0 [(0, .ref o), (1, .int a1), (2, .int a2), (3, .int a3)] [] M 0 0
  unfold w_K_isNothing at hw
  refine x_aload_n 0 0 d_K_isNothing_0 rfl rfl ?_
  refine x_getr 1 se d_K_isNothing_1 ho.1 ho.2.1 rfl rfl (by decide) lay_K (List.mem_cons_of_mem _ q180) rfl ?_
  refine x_iload_n 2 2 d_K_isNothing_4 rfl rfl ?_
  refine x_iload_n 3 3 d_K_isNothing_5 rfl rfl ?_
  refine x_aload_n 0 0 d_K_isNothing_6 rfl rfl ?_
  refine x_getr 0 1 d_K_isNothing_7 ho.1 ho.2.1 rfl rfl (by decide) lay_K (List.mem_cons_of_mem _ q179) rfl ?_
  refine x_iload_n 1 1 d_K_isNothing_10 rfl rfl ?_
  refine x_iload_n 3 3 d_K_isNothing_11 rfl rfl ?_
  refine x_callVr (As := [.int a1, .int a3]) (t := 1) (rest := [.int a3, .int a2, .ref se]) (rc := 0) (rs := 0) (c_C_leafAt hA hT ho.schema hw) cw_K_isNothing_C_leafAt_65 ho.schema.1 ho.schema.2.1 rfl d_K_isNothing_12 rfl rfl (Nat.le_of_ble_eq_true rfl) rfl (fun _ _ h => h.elim) (fun _ _ h => h) (fun t7 M6 ht8 hw => ?_)
  refine x_callVi (As := [.int a2, .int a3, .ref t7]) (t := se) (rest := []) (rc := 0) (rs := 0) (c_S_isNothing hA hT ho.settings ht8 hw) cw_K_isNothing_S_isNothing_69 ho.settings.1 ho.settings.2.1 rfl d_K_isNothing_15 rfl rfl (Nat.le_of_ble_eq_true rfl) rfl (fun _ _ h => h.elim) (fun _ _ h => h) (fun r10 M9 hw => ?_)
  exact x_zret d_K_isNothing_18 rfl (sdB_n hw.1) (fun _ h => h) ⟨_, rfl, hw.2⟩
end
theorem q194 : (.fieldLink "SettingsDesk$Check" 77 "SettingsDesk$Schema" "leaves" "[I" : Cond) ∈ sdB0 := sd_tb1 111 rfl rfl
theorem q195 : (.fieldLink "SettingsDesk$Check" 80 "SettingsDesk$Leaf" "required" "Z" : Cond) ∈ sdB0 := sd_tb1 54 rfl rfl
theorem q196 : (.fieldLink "SettingsDesk$Check" 89 "SettingsDesk$Settings" "keys" "[I" : Cond) ∈ sdB0 := sd_tb1 141 rfl rfl
theorem q197 : (.methodLink "SettingsDesk$Check" 86 ⟨"SettingsDesk$Check", "isNothing", "(III)Z"⟩ : Cond) ∈ sdB0 := sd_tb3 39 rfl rfl
theorem q198 : (.code ⟨"SettingsDesk$Check", "isNothing", "(III)Z"⟩ prog_2_method_4_code 4 (some .boolean) : Cond) ∈ sdB0 := sd_tb3 42 rfl rfl
theorem q199 : (.instanceMethod ⟨"SettingsDesk$Check", "isNothing", "(III)Z"⟩ : Cond) ∈ sdB0 := sd_tb3 40 rfl rfl
theorem q200 : (.selects "SettingsDesk$Check" ⟨"SettingsDesk$Check", "isNothing", "(III)Z"⟩ ⟨"SettingsDesk$Check", "isNothing", "(III)Z"⟩ : Cond) ∈ sdB0 := sd_tb3 41 rfl rfl
theorem q201 : (.initialized "SettingsDesk$Check" : Cond) ∈ sdB0 := sd_tb1 15 rfl rfl
abbrev y_K_lacksLeaf : MethodName := ⟨"SettingsDesk$Check", "lacksLeaf", "(II)Z"⟩
theorem d_K_lacksLeaf_0 : decode prog_2_method_6_code 0 = .ok (.iconst 0, 1) := by decide +kernel
theorem d_K_lacksLeaf_1 : decode prog_2_method_6_code 1 = .ok (.istore_n 3, 1) := by decide +kernel
theorem d_K_lacksLeaf_2 : decode prog_2_method_6_code 2 = .ok (.iload_n 3, 1) := by decide +kernel
theorem d_K_lacksLeaf_3 : decode prog_2_method_6_code 3 = .ok (.aload_n 0, 1) := by decide +kernel
theorem d_K_lacksLeaf_4 : decode prog_2_method_6_code 4 = .ok (.getfield 9, 3) := by decide +kernel
theorem d_K_lacksLeaf_7 : decode prog_2_method_6_code 7 = .ok (.getfield 77, 3) := by decide +kernel
theorem d_K_lacksLeaf_10 : decode prog_2_method_6_code 10 = .ok (.iload_n 1, 1) := by decide +kernel
theorem d_K_lacksLeaf_11 : decode prog_2_method_6_code 11 = .ok (.iaload, 1) := by decide +kernel
theorem d_K_lacksLeaf_12 : decode prog_2_method_6_code 12 = .ok (.if_icmp .ge (55), 3) := by decide +kernel
theorem d_K_lacksLeaf_15 : decode prog_2_method_6_code 15 = .ok (.aload_n 0, 1) := by decide +kernel
theorem d_K_lacksLeaf_16 : decode prog_2_method_6_code 16 = .ok (.getfield 9, 3) := by decide +kernel
theorem d_K_lacksLeaf_19 : decode prog_2_method_6_code 19 = .ok (.iload_n 1, 1) := by decide +kernel
theorem d_K_lacksLeaf_20 : decode prog_2_method_6_code 20 = .ok (.iload_n 3, 1) := by decide +kernel
theorem d_K_lacksLeaf_21 : decode prog_2_method_6_code 21 = .ok (.invokevirtual 65, 3) := by decide +kernel
theorem d_K_lacksLeaf_24 : decode prog_2_method_6_code 24 = .ok (.getfield 80, 3) := by decide +kernel
theorem d_K_lacksLeaf_27 : decode prog_2_method_6_code 27 = .ok (.ifCond .eq (34), 3) := by decide +kernel
theorem d_K_lacksLeaf_30 : decode prog_2_method_6_code 30 = .ok (.aload_n 0, 1) := by decide +kernel
theorem d_K_lacksLeaf_31 : decode prog_2_method_6_code 31 = .ok (.iload_n 1, 1) := by decide +kernel
theorem d_K_lacksLeaf_32 : decode prog_2_method_6_code 32 = .ok (.iload_n 2, 1) := by decide +kernel
theorem d_K_lacksLeaf_33 : decode prog_2_method_6_code 33 = .ok (.iload_n 3, 1) := by decide +kernel
theorem d_K_lacksLeaf_34 : decode prog_2_method_6_code 34 = .ok (.invokevirtual 86, 3) := by decide +kernel
theorem d_K_lacksLeaf_37 : decode prog_2_method_6_code 37 = .ok (.ifCond .eq (24), 3) := by decide +kernel
theorem d_K_lacksLeaf_40 : decode prog_2_method_6_code 40 = .ok (.aload_n 0, 1) := by decide +kernel
theorem d_K_lacksLeaf_41 : decode prog_2_method_6_code 41 = .ok (.getfield 19, 3) := by decide +kernel
theorem d_K_lacksLeaf_44 : decode prog_2_method_6_code 44 = .ok (.iconst 1, 1) := by decide +kernel
theorem d_K_lacksLeaf_45 : decode prog_2_method_6_code 45 = .ok (.iload_n 1, 1) := by decide +kernel
theorem d_K_lacksLeaf_46 : decode prog_2_method_6_code 46 = .ok (.aload_n 0, 1) := by decide +kernel
theorem d_K_lacksLeaf_47 : decode prog_2_method_6_code 47 = .ok (.getfield 15, 3) := by decide +kernel
theorem d_K_lacksLeaf_50 : decode prog_2_method_6_code 50 = .ok (.getfield 89, 3) := by decide +kernel
theorem d_K_lacksLeaf_53 : decode prog_2_method_6_code 53 = .ok (.iload_n 2, 1) := by decide +kernel
theorem d_K_lacksLeaf_54 : decode prog_2_method_6_code 54 = .ok (.iaload, 1) := by decide +kernel
theorem d_K_lacksLeaf_55 : decode prog_2_method_6_code 55 = .ok (.iload_n 3, 1) := by decide +kernel
theorem d_K_lacksLeaf_56 : decode prog_2_method_6_code 56 = .ok (.invokevirtual 59, 3) := by decide +kernel
theorem d_K_lacksLeaf_59 : decode prog_2_method_6_code 59 = .ok (.iconst 1, 1) := by decide +kernel
theorem d_K_lacksLeaf_60 : decode prog_2_method_6_code 60 = .ok (.ireturn, 1) := by decide +kernel
theorem d_K_lacksLeaf_61 : decode prog_2_method_6_code 61 = .ok (.iinc 3 (1), 3) := by decide +kernel
theorem d_K_lacksLeaf_64 : decode prog_2_method_6_code 64 = .ok (.goto (-62), 3) := by decide +kernel
theorem d_K_lacksLeaf_67 : decode prog_2_method_6_code 67 = .ok (.iconst 0, 1) := by decide +kernel
theorem d_K_lacksLeaf_68 : decode prog_2_method_6_code 68 = .ok (.ireturn, 1) := by decide +kernel
def Y_K_lacksLeaf : sdY := ("SettingsDesk$Check", prog_2_method_6_code, 4, (some .boolean), .code y_K_lacksLeaf prog_2_method_6_code 4 (some .boolean) :: sdB0, { frames := 3, cells := 0, slots := 0, locals := 68 }, 0, 0, [])
theorem cw_K_lacksLeaf_C_leafAt_65 : sd_cwV Y_K_lacksLeaf Y_C_leafAt y_C_leafAt 65 2 "SettingsDesk$Schema" := ⟨sd_goodV q189 q87 q88 q77 q86, ⟨_, rfl⟩, ⟨rfl, rfl, rfl, rfl⟩, ⟨rfl, by decide, by decide, by decide +kernel⟩, ⟨by decide, by decide⟩⟩
theorem cw_K_lacksLeaf_K_isNothing_86 : sd_cwV Y_K_lacksLeaf Y_K_isNothing y_K_isNothing 86 3 "SettingsDesk$Check" := ⟨sd_goodV q197 q199 q200 q201 q198, ⟨_, rfl⟩, ⟨rfl, rfl, rfl, rfl⟩, ⟨rfl, by decide, by decide, by decide +kernel⟩, ⟨by decide, by decide⟩⟩
theorem cw_K_lacksLeaf_T_note_59 : sd_cwV Y_K_lacksLeaf Y_T_note y_T_note 59 4 "SettingsDesk$Trouble" := ⟨sd_goodV q188 q121 q122 q123 q120, ⟨_, rfl⟩, ⟨rfl, rfl, rfl, rfl⟩, ⟨rfl, by decide, by decide, by decide +kernel⟩, ⟨by decide, by decide⟩⟩
section
variable {l : Launch} {D : va_G} {dA : Nat → ClassId} {b n : Nat} {ad : Nat → Nat} {L : Nat → sdL} {sc : Option (Nat × Nat × (Nat → Int32))}
def k_K_lacksLeaf_61 (o : Nat) (se : Nat) (tr : Nat) (Q : Int32 → sdM → Prop) (k2 : sdM → Int32 → Int32 → Int32 → Prop) (M : sdM) (x1 : Int32) (x2 : Int32) (x3 : Int32) : Prop := k2 M x1 x2 (x3 + 1)
set_option maxHeartbeats 1000000 in
theorem t_K_lacksLeaf_61 {o : Nat} {se : Nat} {tr : Nat} (hA : sd_ad b n ad) (hT : l.stackTraces = false) (ho : isK n L dA o se tr) {Q : Int32 → sdM → Prop} {k2 : sdM → Int32 → Int32 → Int32 → Prop} (hk2 : ∀ (M : sdM) (x1 : Int32) (x2 : Int32) (x3 : Int32), k2 M x1 x2 x3 → sdW l (sdE0 sc) Y_K_lacksLeaf D (sd_tys dA) b n ad L ad (sd_H D (sdE0 sc).1 n ad L) (sd_qi Q) sd_xf 2 [(0, .ref o), (1, .int x1), (2, .int x2), (3, .int x3)] [] M 0 0) (M : sdM) (x1 : Int32) (x2 : Int32) (x3 : Int32) (hw : k_K_lacksLeaf_61 o se tr Q k2 M x1 x2 x3) : sdW l (sdE0 sc) Y_K_lacksLeaf D (sd_tys dA) b n ad L ad (sd_H D (sdE0 sc).1 n ad L) (sd_qi Q) sd_xf 61 [(0, .ref o), (1, .int x1), (2, .int x2), (3, .int x3)] [] M 0 0 := by
  unfold k_K_lacksLeaf_61 at hw
  refine x_iinc 3 3 [(3, .int (x3 + 1)), (0, .ref o), (1, .int x1), (2, .int x2)] d_K_lacksLeaf_61 rfl (congrArg (HAdd.hAdd x3) (show Int32.ofInt 1 = 1 by decide)) (by decide) rfl ?_
  refine x_goto 2 d_K_lacksLeaf_64 rfl ?_
  refine x_sub [1, 2, 3, 0] [(0, .ref o), (1, .int x1), (2, .int x2), (3, .int (x3 + 1))] rfl ?_
  exact hk2 M x1 x2 (x3 + 1) hw
def h_K_lacksLeaf_2 (o : Nat) (se : Nat) (tr : Nat) (Q : Int32 → sdM → Prop) : Nat → sdM → Int32 → Int32 → Int32 → Prop
  | 0, _, _, _, _ => False
  | N + 1, M, x1, x2, x3 => vp_in x1 4 ∧ ((M 2 x1.toNatClampNeg) ≤ x3 → sdB (0 : Int32) ∧ Q (0 : Int32) M) ∧ (¬ (M 2 x1.toNatClampNeg) ≤ x3 → w_C_leafAt M x1 x3 (fun t11 M10 => ((M10 t11 3) = 0 → k_K_lacksLeaf_61 o se tr Q (fun M x1 x2 x3 => h_K_lacksLeaf_2 o se tr Q N M x1 x2 x3) M10 x1 x2 x3) ∧ (¬ (M10 t11 3) = 0 → w_K_isNothing o se tr M10 x1 x2 x3 (fun r14 M13 => (r14 = 0 → k_K_lacksLeaf_61 o se tr Q (fun M x1 x2 x3 => h_K_lacksLeaf_2 o se tr Q N M x1 x2 x3) M13 x1 x2 x3) ∧ (¬ r14 = 0 → vp_in x2 48 ∧ w_T_note tr M13 (1 : Int32) x1 (M13 (se + 2) x2.toNatClampNeg) x3 (fun M16 => sdB (1 : Int32) ∧ Q (1 : Int32) M16))))))
set_option maxHeartbeats 1000000 in
theorem t_K_lacksLeaf_2 {o : Nat} {se : Nat} {tr : Nat} (hA : sd_ad b n ad) (hT : l.stackTraces = false) (ho : isK n L dA o se tr) {Q : Int32 → sdM → Prop} (N : Nat) : ∀ (M : sdM) (x1 : Int32) (x2 : Int32) (x3 : Int32), h_K_lacksLeaf_2 o se tr Q N M x1 x2 x3 → sdW l (sdE0 sc) Y_K_lacksLeaf D (sd_tys dA) b n ad L ad (sd_H D (sdE0 sc).1 n ad L) (sd_qi Q) sd_xf 2 [(0, .ref o), (1, .int x1), (2, .int x2), (3, .int x3)] [] M 0 0 := by
  induction N with
  | zero => intro M x1 x2 x3 hw; exact hw.elim
  | succ N ih =>
    intro M x1 x2 x3 hw
    rw [h_K_lacksLeaf_2] at hw
    refine x_iload_n 3 3 d_K_lacksLeaf_2 rfl rfl ?_
    refine x_aload_n 0 0 d_K_lacksLeaf_3 rfl rfl ?_
    refine x_getr 0 1 d_K_lacksLeaf_4 ho.1 ho.2.1 rfl rfl (by decide) lay_K (List.mem_cons_of_mem _ q179) rfl ?_
    refine x_getr 2 2 d_K_lacksLeaf_7 ho.schema.1 ho.schema.2.1 rfl rfl (by decide) lay_C (List.mem_cons_of_mem _ q194) rfl ?_
    refine x_iload_n 1 1 d_K_lacksLeaf_10 rfl rfl ?_
    obtain ⟨hi9, hw⟩ := hw
    refine x_iald d_K_lacksLeaf_11 ho.schema.leaves.1 ho.schema.leaves.2 rfl hi9 ?_
    refine x_icmp_ge 67 d_K_lacksLeaf_12 rfl (fun hc => ?_) (fun hc => ?_)
    · have hw := hw.1 hc
      refine x_iconst (v := 0) d_K_lacksLeaf_67 (by decide) ?_
      exact x_zret d_K_lacksLeaf_68 rfl (sdB_n hw.1) (fun _ h => h) ⟨_, rfl, hw.2⟩
    · have hw := hw.2 hc
      refine x_aload_n 0 0 d_K_lacksLeaf_15 rfl rfl ?_
      refine x_getr 0 1 d_K_lacksLeaf_16 ho.1 ho.2.1 rfl rfl (by decide) lay_K (List.mem_cons_of_mem _ q179) rfl ?_
      refine x_iload_n 1 1 d_K_lacksLeaf_19 rfl rfl ?_
      refine x_iload_n 3 3 d_K_lacksLeaf_20 rfl rfl ?_
      refine x_callVr (As := [.int x1, .int x3]) (t := 1) (rest := []) (rc := 0) (rs := 0) (c_C_leafAt hA hT ho.schema hw) cw_K_lacksLeaf_C_leafAt_65 ho.schema.1 ho.schema.2.1 rfl d_K_lacksLeaf_21 rfl rfl (Nat.le_of_ble_eq_true rfl) rfl (fun _ _ h => h.elim) (fun _ _ h => h) (fun t11 M10 ht12 hw => ?_)
      refine x_geti 3 d_K_lacksLeaf_24 ht12.1 ht12.2 rfl rfl (by decide) lay_F (List.mem_cons_of_mem _ q195) rfl ?_
      refine x_if_eq 61 d_K_lacksLeaf_27 rfl (fun hc => ?_) (fun hc => ?_)
      · have hw := hw.1 hc
        exact t_K_lacksLeaf_61 hA hT ho (fun M x1 x2 x3  hw => ih M x1 x2 x3 hw) M10 x1 x2 x3 hw
      · have hw := hw.2 hc
        refine x_aload_n 0 0 d_K_lacksLeaf_30 rfl rfl ?_
        refine x_iload_n 1 1 d_K_lacksLeaf_31 rfl rfl ?_
        refine x_iload_n 2 2 d_K_lacksLeaf_32 rfl rfl ?_
        refine x_iload_n 3 3 d_K_lacksLeaf_33 rfl rfl ?_
        refine x_callVi (As := [.int x1, .int x2, .int x3]) (t := o) (rest := []) (rc := 0) (rs := 0) (c_K_isNothing hA hT ho hw) cw_K_lacksLeaf_K_isNothing_86 ho.1 ho.2.1 rfl d_K_lacksLeaf_34 rfl rfl (Nat.le_of_ble_eq_true rfl) rfl (fun _ _ h => h.elim) (fun _ _ h => h) (fun r14 M13 hw => ?_)
        refine x_if_eq 61 d_K_lacksLeaf_37 rfl (fun hc => ?_) (fun hc => ?_)
        · have hw := hw.1 hc
          exact t_K_lacksLeaf_61 hA hT ho (fun M x1 x2 x3  hw => ih M x1 x2 x3 hw) M13 x1 x2 x3 hw
        · have hw := hw.2 hc
          refine x_aload_n 0 0 d_K_lacksLeaf_40 rfl rfl ?_
          refine x_getr 2 tr d_K_lacksLeaf_41 ho.1 ho.2.1 rfl rfl (by decide) lay_K (List.mem_cons_of_mem _ q181) rfl ?_
          refine x_iconst (v := 1) d_K_lacksLeaf_44 (by decide) ?_
          refine x_iload_n 1 1 d_K_lacksLeaf_45 rfl rfl ?_
          refine x_aload_n 0 0 d_K_lacksLeaf_46 rfl rfl ?_
          refine x_getr 1 se d_K_lacksLeaf_47 ho.1 ho.2.1 rfl rfl (by decide) lay_K (List.mem_cons_of_mem _ q180) rfl ?_
          refine x_getr 1 (se + 2) d_K_lacksLeaf_50 ho.settings.1 ho.settings.2.1 rfl rfl (by decide) lay_S (List.mem_cons_of_mem _ q196) rfl ?_
          refine x_iload_n 2 2 d_K_lacksLeaf_53 rfl rfl ?_
          obtain ⟨hi15, hw⟩ := hw
          refine x_iald d_K_lacksLeaf_54 ho.settings.keys.1 ho.settings.keys.2 rfl hi15 ?_
          refine x_iload_n 3 3 d_K_lacksLeaf_55 rfl rfl ?_
          refine x_callVv (As := [.int (1 : Int32), .int x1, .int (M13 (se + 2) x2.toNatClampNeg), .int x3]) (t := tr) (rest := []) (rc := 0) (rs := 0) (c_T_note hA hT ho.trouble hw) cw_K_lacksLeaf_T_note_59 ho.trouble.1 ho.trouble.2 rfl d_K_lacksLeaf_56 rfl rfl (Nat.le_of_ble_eq_true rfl) rfl (fun _ _ h => h.elim) (fun _ _ h => h) (fun M16 hw => ?_)
          refine x_iconst (v := 1) d_K_lacksLeaf_59 (by decide) ?_
          exact x_zret d_K_lacksLeaf_60 rfl (sdB_n hw.1) (fun _ h => h) ⟨_, rfl, hw.2⟩
def w_K_lacksLeaf (o : Nat) (se : Nat) (tr : Nat) (M : sdM) (a1 : Int32) (a2 : Int32) (Q : Int32 → sdM → Prop) : Prop := ∃ N9 : Nat, h_K_lacksLeaf_2 o se tr Q N9 M a1 a2 (0 : Int32)
set_option maxHeartbeats 1000000 in
theorem c_K_lacksLeaf {a1 : Int32} {a2 : Int32} {o : Nat} {se : Nat} {tr : Nat} (hA : sd_ad b n ad) (hT : l.stackTraces = false) (ho : isK n L dA o se tr) {Q : Int32 → sdM → Prop} {M : sdM} (hw : w_K_lacksLeaf o se tr M a1 a2 Q) : sd_Cn l (sdE0 sc) y_K_lacksLeaf Y_K_lacksLeaf.2.2.2.2.1 Y_K_lacksLeaf.2.2.2.2.2.1 0 0 D (sd_tys dA) b n ad L M [.ref o, .int a1, .int a2] (sd_qi Q) sd_xf := by
  refine sd_enter (Y := Y_K_lacksLeaf) rfl rfl rfl rfl (Nat.le_of_ble_eq_true rfl) ?_
  show sdW l (sdE0 sc) Y_K_lacksLeaf D (sd_tys dA) b n ad L ad (sd_H D (sdE0 sc).1 n ad L) (sd_qi Q) sd_xf 0 [(0, .ref o), (1, .int a1), (2, .int a2)] [] M 0 0
  unfold w_K_lacksLeaf at hw
  refine x_iconst (v := 0) d_K_lacksLeaf_0 (by decide) ?_
  refine x_istore_n 3 [(3, .int (0 : Int32)), (0, .ref o), (1, .int a1), (2, .int a2)] d_K_lacksLeaf_1 rfl (by decide) rfl ?_
  refine x_sub [1, 2, 3, 0] [(0, .ref o), (1, .int a1), (2, .int a2), (3, .int (0 : Int32))] rfl ?_
  obtain ⟨N9, hw⟩ := hw
  exact t_K_lacksLeaf_2 hA hT ho N9 M a1 a2 (0 : Int32) hw
end
theorem q202 : (.fieldLink "SettingsDesk$Check" 92 "SettingsDesk$Leaf" "isReference" "Z" : Cond) ∈ sdB0 := sd_tb1 48 rfl rfl
theorem q203 : (.fieldLink "SettingsDesk$Check" 98 "SettingsDesk$Leaf" "low" "I" : Cond) ∈ sdB0 := sd_tb1 51 rfl rfl
theorem q204 : (.methodLink "SettingsDesk$Check" 95 ⟨"SettingsDesk$Settings", "isGiven", "(II)Z"⟩ : Cond) ∈ sdB0 := sd_tb3 51 rfl rfl
theorem q205 : (.methodLink "SettingsDesk$Check" 101 ⟨"SettingsDesk$Settings", "valueAt", "(II)I"⟩ : Cond) ∈ sdB0 := sd_tb3 52 rfl rfl
theorem q206 : (.methodLink "SettingsDesk$Check" 105 ⟨"SettingsDesk$Settings", "rowOf", "(II)I"⟩ : Cond) ∈ sdB0 := sd_tb3 53 rfl rfl
abbrev y_K_pointsNowhere : MethodName := ⟨"SettingsDesk$Check", "pointsNowhere", "(II)Z"⟩
theorem d_K_pointsNowhere_0 : decode prog_2_method_7_code 0 = .ok (.iconst 0, 1) := by decide +kernel
theorem d_K_pointsNowhere_1 : decode prog_2_method_7_code 1 = .ok (.istore_n 3, 1) := by decide +kernel
theorem d_K_pointsNowhere_2 : decode prog_2_method_7_code 2 = .ok (.iload_n 3, 1) := by decide +kernel
theorem d_K_pointsNowhere_3 : decode prog_2_method_7_code 3 = .ok (.aload_n 0, 1) := by decide +kernel
theorem d_K_pointsNowhere_4 : decode prog_2_method_7_code 4 = .ok (.getfield 9, 3) := by decide +kernel
theorem d_K_pointsNowhere_7 : decode prog_2_method_7_code 7 = .ok (.getfield 77, 3) := by decide +kernel
theorem d_K_pointsNowhere_10 : decode prog_2_method_7_code 10 = .ok (.iload_n 1, 1) := by decide +kernel
theorem d_K_pointsNowhere_11 : decode prog_2_method_7_code 11 = .ok (.iaload, 1) := by decide +kernel
theorem d_K_pointsNowhere_12 : decode prog_2_method_7_code 12 = .ok (.if_icmp .ge (86), 3) := by decide +kernel
theorem d_K_pointsNowhere_15 : decode prog_2_method_7_code 15 = .ok (.aload_n 0, 1) := by decide +kernel
theorem d_K_pointsNowhere_16 : decode prog_2_method_7_code 16 = .ok (.getfield 9, 3) := by decide +kernel
theorem d_K_pointsNowhere_19 : decode prog_2_method_7_code 19 = .ok (.iload_n 1, 1) := by decide +kernel
theorem d_K_pointsNowhere_20 : decode prog_2_method_7_code 20 = .ok (.iload_n 3, 1) := by decide +kernel
theorem d_K_pointsNowhere_21 : decode prog_2_method_7_code 21 = .ok (.invokevirtual 65, 3) := by decide +kernel
theorem d_K_pointsNowhere_24 : decode prog_2_method_7_code 24 = .ok (.astore 4, 2) := by decide +kernel
theorem d_K_pointsNowhere_26 : decode prog_2_method_7_code 26 = .ok (.aload 4, 2) := by decide +kernel
theorem d_K_pointsNowhere_28 : decode prog_2_method_7_code 28 = .ok (.getfield 92, 3) := by decide +kernel
theorem d_K_pointsNowhere_31 : decode prog_2_method_7_code 31 = .ok (.ifCond .eq (61), 3) := by decide +kernel
theorem d_K_pointsNowhere_34 : decode prog_2_method_7_code 34 = .ok (.aload_n 0, 1) := by decide +kernel
theorem d_K_pointsNowhere_35 : decode prog_2_method_7_code 35 = .ok (.getfield 15, 3) := by decide +kernel
theorem d_K_pointsNowhere_38 : decode prog_2_method_7_code 38 = .ok (.iload_n 2, 1) := by decide +kernel
theorem d_K_pointsNowhere_39 : decode prog_2_method_7_code 39 = .ok (.iload_n 3, 1) := by decide +kernel
theorem d_K_pointsNowhere_40 : decode prog_2_method_7_code 40 = .ok (.invokevirtual 95, 3) := by decide +kernel
theorem d_K_pointsNowhere_43 : decode prog_2_method_7_code 43 = .ok (.ifCond .eq (49), 3) := by decide +kernel
theorem d_K_pointsNowhere_46 : decode prog_2_method_7_code 46 = .ok (.aload_n 0, 1) := by decide +kernel
theorem d_K_pointsNowhere_47 : decode prog_2_method_7_code 47 = .ok (.getfield 15, 3) := by decide +kernel
theorem d_K_pointsNowhere_50 : decode prog_2_method_7_code 50 = .ok (.aload 4, 2) := by decide +kernel
theorem d_K_pointsNowhere_52 : decode prog_2_method_7_code 52 = .ok (.getfield 98, 3) := by decide +kernel
theorem d_K_pointsNowhere_55 : decode prog_2_method_7_code 55 = .ok (.aload_n 0, 1) := by decide +kernel
theorem d_K_pointsNowhere_56 : decode prog_2_method_7_code 56 = .ok (.getfield 15, 3) := by decide +kernel
theorem d_K_pointsNowhere_59 : decode prog_2_method_7_code 59 = .ok (.iload_n 2, 1) := by decide +kernel
theorem d_K_pointsNowhere_60 : decode prog_2_method_7_code 60 = .ok (.iload_n 3, 1) := by decide +kernel
theorem d_K_pointsNowhere_61 : decode prog_2_method_7_code 61 = .ok (.invokevirtual 101, 3) := by decide +kernel
theorem d_K_pointsNowhere_64 : decode prog_2_method_7_code 64 = .ok (.invokevirtual 105, 3) := by decide +kernel
theorem d_K_pointsNowhere_67 : decode prog_2_method_7_code 67 = .ok (.iconst (-1), 1) := by decide +kernel
theorem d_K_pointsNowhere_68 : decode prog_2_method_7_code 68 = .ok (.if_icmp .ne (24), 3) := by decide +kernel
theorem d_K_pointsNowhere_71 : decode prog_2_method_7_code 71 = .ok (.aload_n 0, 1) := by decide +kernel
theorem d_K_pointsNowhere_72 : decode prog_2_method_7_code 72 = .ok (.getfield 19, 3) := by decide +kernel
theorem d_K_pointsNowhere_75 : decode prog_2_method_7_code 75 = .ok (.iconst 2, 1) := by decide +kernel
theorem d_K_pointsNowhere_76 : decode prog_2_method_7_code 76 = .ok (.iload_n 1, 1) := by decide +kernel
theorem d_K_pointsNowhere_77 : decode prog_2_method_7_code 77 = .ok (.aload_n 0, 1) := by decide +kernel
theorem d_K_pointsNowhere_78 : decode prog_2_method_7_code 78 = .ok (.getfield 15, 3) := by decide +kernel
theorem d_K_pointsNowhere_81 : decode prog_2_method_7_code 81 = .ok (.getfield 89, 3) := by decide +kernel
theorem d_K_pointsNowhere_84 : decode prog_2_method_7_code 84 = .ok (.iload_n 2, 1) := by decide +kernel
theorem d_K_pointsNowhere_85 : decode prog_2_method_7_code 85 = .ok (.iaload, 1) := by decide +kernel
theorem d_K_pointsNowhere_86 : decode prog_2_method_7_code 86 = .ok (.iload_n 3, 1) := by decide +kernel
theorem d_K_pointsNowhere_87 : decode prog_2_method_7_code 87 = .ok (.invokevirtual 59, 3) := by decide +kernel
theorem d_K_pointsNowhere_90 : decode prog_2_method_7_code 90 = .ok (.iconst 1, 1) := by decide +kernel
theorem d_K_pointsNowhere_91 : decode prog_2_method_7_code 91 = .ok (.ireturn, 1) := by decide +kernel
theorem d_K_pointsNowhere_92 : decode prog_2_method_7_code 92 = .ok (.iinc 3 (1), 3) := by decide +kernel
theorem d_K_pointsNowhere_95 : decode prog_2_method_7_code 95 = .ok (.goto (-93), 3) := by decide +kernel
theorem d_K_pointsNowhere_98 : decode prog_2_method_7_code 98 = .ok (.iconst 0, 1) := by decide +kernel
theorem d_K_pointsNowhere_99 : decode prog_2_method_7_code 99 = .ok (.ireturn, 1) := by decide +kernel
def Y_K_pointsNowhere : sdY := ("SettingsDesk$Check", prog_2_method_7_code, 5, (some .boolean), .code y_K_pointsNowhere prog_2_method_7_code 5 (some .boolean) :: sdB0, { frames := 2, cells := 0, slots := 0, locals := 44 }, 0, 0, [])
theorem cw_K_pointsNowhere_C_leafAt_65 : sd_cwV Y_K_pointsNowhere Y_C_leafAt y_C_leafAt 65 2 "SettingsDesk$Schema" := ⟨sd_goodV q189 q87 q88 q77 q86, ⟨_, rfl⟩, ⟨rfl, rfl, rfl, rfl⟩, ⟨rfl, by decide, by decide, by decide +kernel⟩, ⟨by decide, by decide⟩⟩
theorem cw_K_pointsNowhere_S_isGiven_95 : sd_cwV Y_K_pointsNowhere Y_S_isGiven y_S_isGiven 95 2 "SettingsDesk$Settings" := ⟨sd_goodV q204 q5 q6 q7 q4, ⟨_, rfl⟩, ⟨rfl, rfl, rfl, rfl⟩, ⟨rfl, by decide, by decide, by decide +kernel⟩, ⟨by decide, by decide⟩⟩
theorem cw_K_pointsNowhere_S_valueAt_101 : sd_cwV Y_K_pointsNowhere Y_S_valueAt y_S_valueAt 101 2 "SettingsDesk$Settings" := ⟨sd_goodV q205 q10 q11 q7 q9, ⟨_, rfl⟩, ⟨rfl, rfl, rfl, rfl⟩, ⟨rfl, by decide, by decide, by decide +kernel⟩, ⟨by decide, by decide⟩⟩
theorem cw_K_pointsNowhere_S_rowOf_105 : sd_cwV Y_K_pointsNowhere Y_S_rowOf y_S_rowOf 105 2 "SettingsDesk$Settings" := ⟨sd_goodV q206 q126 q127 q7 q125, ⟨_, rfl⟩, ⟨rfl, rfl, rfl, rfl⟩, ⟨rfl, by decide, by decide, by decide +kernel⟩, ⟨by decide, by decide⟩⟩
theorem cw_K_pointsNowhere_T_note_59 : sd_cwV Y_K_pointsNowhere Y_T_note y_T_note 59 4 "SettingsDesk$Trouble" := ⟨sd_goodV q188 q121 q122 q123 q120, ⟨_, rfl⟩, ⟨rfl, rfl, rfl, rfl⟩, ⟨rfl, by decide, by decide, by decide +kernel⟩, ⟨by decide, by decide⟩⟩
section
variable {l : Launch} {D : va_G} {dA : Nat → ClassId} {b n : Nat} {ad : Nat → Nat} {L : Nat → sdL} {sc : Option (Nat × Nat × (Nat → Int32))}
def k_K_pointsNowhere_92 (o : Nat) (se : Nat) (tr : Nat) (Q : Int32 → sdM → Prop) (k2 : sdM → Int32 → Int32 → Int32 → Prop) (M : sdM) (x1 : Int32) (x2 : Int32) (x3 : Int32) : Prop := k2 M x1 x2 (x3 + 1)
set_option maxHeartbeats 1000000 in
theorem t_K_pointsNowhere_92 {o : Nat} {se : Nat} {tr : Nat} (hA : sd_ad b n ad) (hT : l.stackTraces = false) (ho : isK n L dA o se tr) {Q : Int32 → sdM → Prop} {k2 : sdM → Int32 → Int32 → Int32 → Prop} (hk2 : ∀ (M : sdM) (x1 : Int32) (x2 : Int32) (x3 : Int32), k2 M x1 x2 x3 → sdW l (sdE0 sc) Y_K_pointsNowhere D (sd_tys dA) b n ad L ad (sd_H D (sdE0 sc).1 n ad L) (sd_qi Q) sd_xf 2 [(0, .ref o), (1, .int x1), (2, .int x2), (3, .int x3)] [] M 0 0) (M : sdM) (x1 : Int32) (x2 : Int32) (x3 : Int32) (hw : k_K_pointsNowhere_92 o se tr Q k2 M x1 x2 x3) : sdW l (sdE0 sc) Y_K_pointsNowhere D (sd_tys dA) b n ad L ad (sd_H D (sdE0 sc).1 n ad L) (sd_qi Q) sd_xf 92 [(0, .ref o), (1, .int x1), (2, .int x2), (3, .int x3)] [] M 0 0 := by
  unfold k_K_pointsNowhere_92 at hw
  refine x_iinc 3 3 [(3, .int (x3 + 1)), (0, .ref o), (1, .int x1), (2, .int x2)] d_K_pointsNowhere_92 rfl (congrArg (HAdd.hAdd x3) (show Int32.ofInt 1 = 1 by decide)) (by decide) rfl ?_
  refine x_goto 2 d_K_pointsNowhere_95 rfl ?_
  refine x_sub [1, 2, 3, 0] [(0, .ref o), (1, .int x1), (2, .int x2), (3, .int (x3 + 1))] rfl ?_
  exact hk2 M x1 x2 (x3 + 1) hw
def h_K_pointsNowhere_2 (o : Nat) (se : Nat) (tr : Nat) (Q : Int32 → sdM → Prop) : Nat → sdM → Int32 → Int32 → Int32 → Prop
  | 0, _, _, _, _ => False
  | N + 1, M, x1, x2, x3 => vp_in x1 4 ∧ ((M 2 x1.toNatClampNeg) ≤ x3 → sdB (0 : Int32) ∧ Q (0 : Int32) M) ∧ (¬ (M 2 x1.toNatClampNeg) ≤ x3 → w_C_leafAt M x1 x3 (fun t15 M14 => ((M14 t15 0) = 0 → k_K_pointsNowhere_92 o se tr Q (fun M x1 x2 x3 => h_K_pointsNowhere_2 o se tr Q N M x1 x2 x3) M14 x1 x2 x3) ∧ (¬ (M14 t15 0) = 0 → w_S_isGiven se M14 x2 x3 (fun r18 M17 => (r18 = 0 → k_K_pointsNowhere_92 o se tr Q (fun M x1 x2 x3 => h_K_pointsNowhere_2 o se tr Q N M x1 x2 x3) M17 x1 x2 x3) ∧ (¬ r18 = 0 → w_S_valueAt se M17 x2 x3 (fun r20 M19 => w_S_rowOf se M19 (M17 t15 1) r20 (fun r22 M21 => (¬ r22 = (-1 : Int32) → k_K_pointsNowhere_92 o se tr Q (fun M x1 x2 x3 => h_K_pointsNowhere_2 o se tr Q N M x1 x2 x3) M21 x1 x2 x3) ∧ (r22 = (-1 : Int32) → vp_in x2 48 ∧ w_T_note tr M21 (2 : Int32) x1 (M21 (se + 2) x2.toNatClampNeg) x3 (fun M24 => sdB (1 : Int32) ∧ Q (1 : Int32) M24)))))))))
set_option maxHeartbeats 1000000 in
theorem t_K_pointsNowhere_2 {o : Nat} {se : Nat} {tr : Nat} (hA : sd_ad b n ad) (hT : l.stackTraces = false) (ho : isK n L dA o se tr) {Q : Int32 → sdM → Prop} (N : Nat) : ∀ (M : sdM) (x1 : Int32) (x2 : Int32) (x3 : Int32), h_K_pointsNowhere_2 o se tr Q N M x1 x2 x3 → sdW l (sdE0 sc) Y_K_pointsNowhere D (sd_tys dA) b n ad L ad (sd_H D (sdE0 sc).1 n ad L) (sd_qi Q) sd_xf 2 [(0, .ref o), (1, .int x1), (2, .int x2), (3, .int x3)] [] M 0 0 := by
  induction N with
  | zero => intro M x1 x2 x3 hw; exact hw.elim
  | succ N ih =>
    intro M x1 x2 x3 hw
    rw [h_K_pointsNowhere_2] at hw
    refine x_iload_n 3 3 d_K_pointsNowhere_2 rfl rfl ?_
    refine x_aload_n 0 0 d_K_pointsNowhere_3 rfl rfl ?_
    refine x_getr 0 1 d_K_pointsNowhere_4 ho.1 ho.2.1 rfl rfl (by decide) lay_K (List.mem_cons_of_mem _ q179) rfl ?_
    refine x_getr 2 2 d_K_pointsNowhere_7 ho.schema.1 ho.schema.2.1 rfl rfl (by decide) lay_C (List.mem_cons_of_mem _ q194) rfl ?_
    refine x_iload_n 1 1 d_K_pointsNowhere_10 rfl rfl ?_
    obtain ⟨hi13, hw⟩ := hw
    refine x_iald d_K_pointsNowhere_11 ho.schema.leaves.1 ho.schema.leaves.2 rfl hi13 ?_
    refine x_icmp_ge 98 d_K_pointsNowhere_12 rfl (fun hc => ?_) (fun hc => ?_)
    · have hw := hw.1 hc
      refine x_iconst (v := 0) d_K_pointsNowhere_98 (by decide) ?_
      exact x_zret d_K_pointsNowhere_99 rfl (sdB_n hw.1) (fun _ h => h) ⟨_, rfl, hw.2⟩
    · have hw := hw.2 hc
      refine x_aload_n 0 0 d_K_pointsNowhere_15 rfl rfl ?_
      refine x_getr 0 1 d_K_pointsNowhere_16 ho.1 ho.2.1 rfl rfl (by decide) lay_K (List.mem_cons_of_mem _ q179) rfl ?_
      refine x_iload_n 1 1 d_K_pointsNowhere_19 rfl rfl ?_
      refine x_iload_n 3 3 d_K_pointsNowhere_20 rfl rfl ?_
      refine x_callVr (As := [.int x1, .int x3]) (t := 1) (rest := []) (rc := 0) (rs := 0) (c_C_leafAt hA hT ho.schema hw) cw_K_pointsNowhere_C_leafAt_65 ho.schema.1 ho.schema.2.1 rfl d_K_pointsNowhere_21 rfl rfl (Nat.le_of_ble_eq_true rfl) rfl (fun _ _ h => h.elim) (fun _ _ h => h) (fun t15 M14 ht16 hw => ?_)
      refine x_astore 4 [(4, .ref t15), (0, .ref o), (1, .int x1), (2, .int x2), (3, .int x3)] d_K_pointsNowhere_24 (by decide) rfl ?_
      refine x_aload 4 0 d_K_pointsNowhere_26 rfl ?_
      refine x_geti 0 d_K_pointsNowhere_28 ht16.1 ht16.2 rfl rfl (by decide) lay_F (List.mem_cons_of_mem _ q202) rfl ?_
      refine x_if_eq 92 d_K_pointsNowhere_31 rfl (fun hc => ?_) (fun hc => ?_)
      · have hw := hw.1 hc
        refine x_sub [1, 2, 3, 4] [(0, .ref o), (1, .int x1), (2, .int x2), (3, .int x3)] rfl ?_
        exact t_K_pointsNowhere_92 hA hT ho (fun M x1 x2 x3  hw => ih M x1 x2 x3 hw) M14 x1 x2 x3 hw
      · have hw := hw.2 hc
        refine x_aload_n 0 1 d_K_pointsNowhere_34 rfl rfl ?_
        refine x_getr 1 se d_K_pointsNowhere_35 ho.1 ho.2.1 rfl rfl (by decide) lay_K (List.mem_cons_of_mem _ q180) rfl ?_
        refine x_iload_n 2 3 d_K_pointsNowhere_38 rfl rfl ?_
        refine x_iload_n 3 4 d_K_pointsNowhere_39 rfl rfl ?_
        refine x_callVi (As := [.int x2, .int x3]) (t := se) (rest := []) (rc := 0) (rs := 0) (c_S_isGiven hA hT ho.settings hw) cw_K_pointsNowhere_S_isGiven_95 ho.settings.1 ho.settings.2.1 rfl d_K_pointsNowhere_40 rfl rfl (Nat.le_of_ble_eq_true rfl) rfl (fun _ _ h => h.elim) (fun _ _ h => h) (fun r18 M17 hw => ?_)
        refine x_if_eq 92 d_K_pointsNowhere_43 rfl (fun hc => ?_) (fun hc => ?_)
        · have hw := hw.1 hc
          refine x_sub [1, 2, 3, 4] [(0, .ref o), (1, .int x1), (2, .int x2), (3, .int x3)] rfl ?_
          exact t_K_pointsNowhere_92 hA hT ho (fun M x1 x2 x3  hw => ih M x1 x2 x3 hw) M17 x1 x2 x3 hw
        · have hw := hw.2 hc
          refine x_aload_n 0 1 d_K_pointsNowhere_46 rfl rfl ?_
          refine x_getr 1 se d_K_pointsNowhere_47 ho.1 ho.2.1 rfl rfl (by decide) lay_K (List.mem_cons_of_mem _ q180) rfl ?_
          refine x_aload 4 0 d_K_pointsNowhere_50 rfl ?_
          refine x_geti 1 d_K_pointsNowhere_52 ht16.1 ht16.2 rfl rfl (by decide) lay_F (List.mem_cons_of_mem _ q203) rfl ?_
          refine x_aload_n 0 1 d_K_pointsNowhere_55 rfl rfl ?_
          refine x_getr 1 se d_K_pointsNowhere_56 ho.1 ho.2.1 rfl rfl (by decide) lay_K (List.mem_cons_of_mem _ q180) rfl ?_
          refine x_iload_n 2 3 d_K_pointsNowhere_59 rfl rfl ?_
          refine x_iload_n 3 4 d_K_pointsNowhere_60 rfl rfl ?_
          refine x_callVi (As := [.int x2, .int x3]) (t := se) (rest := [.int (M17 t15 1), .ref se]) (rc := 0) (rs := 0) (c_S_valueAt hA hT ho.settings hw) cw_K_pointsNowhere_S_valueAt_101 ho.settings.1 ho.settings.2.1 rfl d_K_pointsNowhere_61 rfl rfl (Nat.le_of_ble_eq_true rfl) rfl (fun _ _ h => h.elim) (fun _ _ h => h) (fun r20 M19 hw => ?_)
          refine x_callVi (As := [.int (M17 t15 1), .int r20]) (t := se) (rest := []) (rc := 0) (rs := 0) (c_S_rowOf hA hT ho.settings hw) cw_K_pointsNowhere_S_rowOf_105 ho.settings.1 ho.settings.2.1 rfl d_K_pointsNowhere_64 rfl rfl (Nat.le_of_ble_eq_true rfl) rfl (fun _ _ h => h.elim) (fun _ _ h => h) (fun r22 M21 hw => ?_)
          refine x_iconst (v := (-1)) d_K_pointsNowhere_67 (by decide) ?_
          refine x_icmp_ne 92 d_K_pointsNowhere_68 rfl (fun hc => ?_) (fun hc => ?_)
          · have hw := hw.1 hc
            refine x_sub [1, 2, 3, 4] [(0, .ref o), (1, .int x1), (2, .int x2), (3, .int x3)] rfl ?_
            exact t_K_pointsNowhere_92 hA hT ho (fun M x1 x2 x3  hw => ih M x1 x2 x3 hw) M21 x1 x2 x3 hw
          · have hw := hw.2 hc
            refine x_aload_n 0 1 d_K_pointsNowhere_71 rfl rfl ?_
            refine x_getr 2 tr d_K_pointsNowhere_72 ho.1 ho.2.1 rfl rfl (by decide) lay_K (List.mem_cons_of_mem _ q181) rfl ?_
            refine x_iconst (v := 2) d_K_pointsNowhere_75 (by decide) ?_
            refine x_iload_n 1 2 d_K_pointsNowhere_76 rfl rfl ?_
            refine x_aload_n 0 1 d_K_pointsNowhere_77 rfl rfl ?_
            refine x_getr 1 se d_K_pointsNowhere_78 ho.1 ho.2.1 rfl rfl (by decide) lay_K (List.mem_cons_of_mem _ q180) rfl ?_
            refine x_getr 1 (se + 2) d_K_pointsNowhere_81 ho.settings.1 ho.settings.2.1 rfl rfl (by decide) lay_S (List.mem_cons_of_mem _ q196) rfl ?_
            refine x_iload_n 2 3 d_K_pointsNowhere_84 rfl rfl ?_
            obtain ⟨hi23, hw⟩ := hw
            refine x_iald d_K_pointsNowhere_85 ho.settings.keys.1 ho.settings.keys.2 rfl hi23 ?_
            refine x_iload_n 3 4 d_K_pointsNowhere_86 rfl rfl ?_
            refine x_callVv (As := [.int (2 : Int32), .int x1, .int (M21 (se + 2) x2.toNatClampNeg), .int x3]) (t := tr) (rest := []) (rc := 0) (rs := 0) (c_T_note hA hT ho.trouble hw) cw_K_pointsNowhere_T_note_59 ho.trouble.1 ho.trouble.2 rfl d_K_pointsNowhere_87 rfl rfl (Nat.le_of_ble_eq_true rfl) rfl (fun _ _ h => h.elim) (fun _ _ h => h) (fun M24 hw => ?_)
            refine x_iconst (v := 1) d_K_pointsNowhere_90 (by decide) ?_
            exact x_zret d_K_pointsNowhere_91 rfl (sdB_n hw.1) (fun _ h => h) ⟨_, rfl, hw.2⟩
def w_K_pointsNowhere (o : Nat) (se : Nat) (tr : Nat) (M : sdM) (a1 : Int32) (a2 : Int32) (Q : Int32 → sdM → Prop) : Prop := ∃ N9 : Nat, h_K_pointsNowhere_2 o se tr Q N9 M a1 a2 (0 : Int32)
set_option maxHeartbeats 1000000 in
theorem c_K_pointsNowhere {a1 : Int32} {a2 : Int32} {o : Nat} {se : Nat} {tr : Nat} (hA : sd_ad b n ad) (hT : l.stackTraces = false) (ho : isK n L dA o se tr) {Q : Int32 → sdM → Prop} {M : sdM} (hw : w_K_pointsNowhere o se tr M a1 a2 Q) : sd_Cn l (sdE0 sc) y_K_pointsNowhere Y_K_pointsNowhere.2.2.2.2.1 Y_K_pointsNowhere.2.2.2.2.2.1 0 0 D (sd_tys dA) b n ad L M [.ref o, .int a1, .int a2] (sd_qi Q) sd_xf := by
  refine sd_enter (Y := Y_K_pointsNowhere) rfl rfl rfl rfl (Nat.le_of_ble_eq_true rfl) ?_
  show sdW l (sdE0 sc) Y_K_pointsNowhere D (sd_tys dA) b n ad L ad (sd_H D (sdE0 sc).1 n ad L) (sd_qi Q) sd_xf 0 [(0, .ref o), (1, .int a1), (2, .int a2)] [] M 0 0
  unfold w_K_pointsNowhere at hw
  refine x_iconst (v := 0) d_K_pointsNowhere_0 (by decide) ?_
  refine x_istore_n 3 [(3, .int (0 : Int32)), (0, .ref o), (1, .int a1), (2, .int a2)] d_K_pointsNowhere_1 rfl (by decide) rfl ?_
  refine x_sub [1, 2, 3, 0] [(0, .ref o), (1, .int a1), (2, .int a2), (3, .int (0 : Int32))] rfl ?_
  obtain ⟨N9, hw⟩ := hw
  exact t_K_pointsNowhere_2 hA hT ho N9 M a1 a2 (0 : Int32) hw
end
theorem q207 : (.methodLink "SettingsDesk$Check" 73 ⟨"SettingsDesk$Settings", "whatIs", "(IILSettingsDesk$Leaf;)I"⟩ : Cond) ∈ sdB0 := sd_tb3 69 rfl rfl
theorem q208 : (.code ⟨"SettingsDesk$Settings", "whatIs", "(IILSettingsDesk$Leaf;)I"⟩ prog_9_method_19_code 4 (some .int) : Cond) ∈ sdB0 := sd_tb3 72 rfl rfl
theorem q209 : (.instanceMethod ⟨"SettingsDesk$Settings", "whatIs", "(IILSettingsDesk$Leaf;)I"⟩ : Cond) ∈ sdB0 := sd_tb3 70 rfl rfl
theorem q210 : (.selects "SettingsDesk$Settings" ⟨"SettingsDesk$Settings", "whatIs", "(IILSettingsDesk$Leaf;)I"⟩ ⟨"SettingsDesk$Settings", "whatIs", "(IILSettingsDesk$Leaf;)I"⟩ : Cond) ∈ sdB0 := sd_tb3 71 rfl rfl
abbrev y_K_whatIs : MethodName := ⟨"SettingsDesk$Check", "whatIs", "(III)I"⟩
theorem d_K_whatIs_0 : decode prog_2_method_5_code 0 = .ok (.aload_n 0, 1) := by decide +kernel
theorem d_K_whatIs_1 : decode prog_2_method_5_code 1 = .ok (.getfield 15, 3) := by decide +kernel
theorem d_K_whatIs_4 : decode prog_2_method_5_code 4 = .ok (.iload_n 2, 1) := by decide +kernel
theorem d_K_whatIs_5 : decode prog_2_method_5_code 5 = .ok (.iload_n 3, 1) := by decide +kernel
theorem d_K_whatIs_6 : decode prog_2_method_5_code 6 = .ok (.aload_n 0, 1) := by decide +kernel
theorem d_K_whatIs_7 : decode prog_2_method_5_code 7 = .ok (.getfield 9, 3) := by decide +kernel
theorem d_K_whatIs_10 : decode prog_2_method_5_code 10 = .ok (.iload_n 1, 1) := by decide +kernel
theorem d_K_whatIs_11 : decode prog_2_method_5_code 11 = .ok (.iload_n 3, 1) := by decide +kernel
theorem d_K_whatIs_12 : decode prog_2_method_5_code 12 = .ok (.invokevirtual 65, 3) := by decide +kernel
theorem d_K_whatIs_15 : decode prog_2_method_5_code 15 = .ok (.invokevirtual 73, 3) := by decide +kernel
theorem d_K_whatIs_18 : decode prog_2_method_5_code 18 = .ok (.ireturn, 1) := by decide +kernel
def Y_K_whatIs : sdY := ("SettingsDesk$Check", prog_2_method_5_code, 4, (some .int), .code y_K_whatIs prog_2_method_5_code 4 (some .int) :: sdB0, { frames := 2, cells := 0, slots := 0, locals := 45 }, 0, 0, [])
theorem cw_K_whatIs_C_leafAt_65 : sd_cwV Y_K_whatIs Y_C_leafAt y_C_leafAt 65 2 "SettingsDesk$Schema" := ⟨sd_goodV q189 q87 q88 q77 q86, ⟨_, rfl⟩, ⟨rfl, rfl, rfl, rfl⟩, ⟨rfl, by decide, by decide, by decide +kernel⟩, ⟨by decide, by decide⟩⟩
theorem cw_K_whatIs_S_whatIs_73 : sd_cwV Y_K_whatIs Y_S_whatIs y_S_whatIs 73 3 "SettingsDesk$Settings" := ⟨sd_goodV q207 q209 q210 q7 q208, ⟨_, rfl⟩, ⟨rfl, rfl, rfl, rfl⟩, ⟨rfl, by decide, by decide, by decide +kernel⟩, ⟨by decide, by decide⟩⟩
section
variable {l : Launch} {D : va_G} {dA : Nat → ClassId} {b n : Nat} {ad : Nat → Nat} {L : Nat → sdL} {sc : Option (Nat × Nat × (Nat → Int32))}
def w_K_whatIs (o : Nat) (se : Nat) (tr : Nat) (M : sdM) (a1 : Int32) (a2 : Int32) (a3 : Int32) (Q : Int32 → sdM → Prop) : Prop := w_C_leafAt M a1 a3 (fun t7 M6 => w_S_whatIs se M6 a2 a3 t7 (fun r10 M9 => Q r10 M9))
set_option maxHeartbeats 1000000 in
theorem c_K_whatIs {a1 : Int32} {a2 : Int32} {a3 : Int32} {o : Nat} {se : Nat} {tr : Nat} (hA : sd_ad b n ad) (hT : l.stackTraces = false) (ho : isK n L dA o se tr) {Q : Int32 → sdM → Prop} {M : sdM} (hw : w_K_whatIs o se tr M a1 a2 a3 Q) : sd_Cn l (sdE0 sc) y_K_whatIs Y_K_whatIs.2.2.2.2.1 Y_K_whatIs.2.2.2.2.2.1 0 0 D (sd_tys dA) b n ad L M [.ref o, .int a1, .int a2, .int a3] (sd_qi Q) sd_xf := by
  refine sd_enter (Y := Y_K_whatIs) rfl rfl rfl rfl (Nat.le_of_ble_eq_true rfl) ?_
  show sdW l (sdE0 sc) Y_K_whatIs D (sd_tys dA) b n ad L ad (sd_H D (sdE0 sc).1 n ad L) (sd_qi Q) sd_xf 0 [(0, .ref o), (1, .int a1), (2, .int a2), (3, .int a3)] [] M 0 0
  unfold w_K_whatIs at hw
  refine x_aload_n 0 0 d_K_whatIs_0 rfl rfl ?_
  refine x_getr 1 se d_K_whatIs_1 ho.1 ho.2.1 rfl rfl (by decide) lay_K (List.mem_cons_of_mem _ q180) rfl ?_
  refine x_iload_n 2 2 d_K_whatIs_4 rfl rfl ?_
  refine x_iload_n 3 3 d_K_whatIs_5 rfl rfl ?_
  refine x_aload_n 0 0 d_K_whatIs_6 rfl rfl ?_
  refine x_getr 0 1 d_K_whatIs_7 ho.1 ho.2.1 rfl rfl (by decide) lay_K (List.mem_cons_of_mem _ q179) rfl ?_
  refine x_iload_n 1 1 d_K_whatIs_10 rfl rfl ?_
  refine x_iload_n 3 3 d_K_whatIs_11 rfl rfl ?_
  refine x_callVr (As := [.int a1, .int a3]) (t := 1) (rest := [.int a3, .int a2, .ref se]) (rc := 0) (rs := 0) (c_C_leafAt hA hT ho.schema hw) cw_K_whatIs_C_leafAt_65 ho.schema.1 ho.schema.2.1 rfl d_K_whatIs_12 rfl rfl (Nat.le_of_ble_eq_true rfl) rfl (fun _ _ h => h.elim) (fun _ _ h => h) (fun t7 M6 ht8 hw => ?_)
  refine x_callVi (As := [.int a2, .int a3, .ref t7]) (t := se) (rest := []) (rc := 0) (rs := 0) (c_S_whatIs hA hT ho.settings ht8 hw) cw_K_whatIs_S_whatIs_73 ho.settings.1 ho.settings.2.1 rfl d_K_whatIs_15 rfl rfl (Nat.le_of_ble_eq_true rfl) rfl (fun _ _ h => h.elim) (fun _ _ h => h) (fun r10 M9 hw => ?_)
  exact x_iret d_K_whatIs_18 rfl (fun _ h => h) ⟨_, rfl, hw⟩
end
theorem q211 : (.methodLink "SettingsDesk$Check" 114 ⟨"SettingsDesk$Check", "whatIs", "(III)I"⟩ : Cond) ∈ sdB0 := sd_tb3 65 rfl rfl
theorem q212 : (.code ⟨"SettingsDesk$Check", "whatIs", "(III)I"⟩ prog_2_method_5_code 4 (some .int) : Cond) ∈ sdB0 := sd_tb3 68 rfl rfl
theorem q213 : (.instanceMethod ⟨"SettingsDesk$Check", "whatIs", "(III)I"⟩ : Cond) ∈ sdB0 := sd_tb3 66 rfl rfl
theorem q214 : (.selects "SettingsDesk$Check" ⟨"SettingsDesk$Check", "whatIs", "(III)I"⟩ ⟨"SettingsDesk$Check", "whatIs", "(III)I"⟩ : Cond) ∈ sdB0 := sd_tb3 67 rfl rfl
theorem q215 : (.methodLink "SettingsDesk$Check" 33 ⟨"SettingsDesk$Settings", "firstRow", "(I)I"⟩ : Cond) ∈ sdB0 := sd_tb3 32 rfl rfl
abbrev y_K_isBefore : MethodName := ⟨"SettingsDesk$Check", "isBefore", "(III)Z"⟩
theorem d_K_isBefore_0 : decode prog_2_method_9_code 0 = .ok (.aload_n 0, 1) := by decide +kernel
theorem d_K_isBefore_1 : decode prog_2_method_9_code 1 = .ok (.iload_n 1, 1) := by decide +kernel
theorem d_K_isBefore_2 : decode prog_2_method_9_code 2 = .ok (.iload_n 2, 1) := by decide +kernel
theorem d_K_isBefore_3 : decode prog_2_method_9_code 3 = .ok (.iload_n 3, 1) := by decide +kernel
theorem d_K_isBefore_4 : decode prog_2_method_9_code 4 = .ok (.invokevirtual 86, 3) := by decide +kernel
theorem d_K_isBefore_7 : decode prog_2_method_9_code 7 = .ok (.ifCond .eq (5), 3) := by decide +kernel
theorem d_K_isBefore_10 : decode prog_2_method_9_code 10 = .ok (.iconst 0, 1) := by decide +kernel
theorem d_K_isBefore_11 : decode prog_2_method_9_code 11 = .ok (.ireturn, 1) := by decide +kernel
theorem d_K_isBefore_12 : decode prog_2_method_9_code 12 = .ok (.aload_n 0, 1) := by decide +kernel
theorem d_K_isBefore_13 : decode prog_2_method_9_code 13 = .ok (.iload_n 1, 1) := by decide +kernel
theorem d_K_isBefore_14 : decode prog_2_method_9_code 14 = .ok (.iload_n 2, 1) := by decide +kernel
theorem d_K_isBefore_15 : decode prog_2_method_9_code 15 = .ok (.iload_n 3, 1) := by decide +kernel
theorem d_K_isBefore_16 : decode prog_2_method_9_code 16 = .ok (.invokevirtual 114, 3) := by decide +kernel
theorem d_K_isBefore_19 : decode prog_2_method_9_code 19 = .ok (.istore 4, 2) := by decide +kernel
theorem d_K_isBefore_21 : decode prog_2_method_9_code 21 = .ok (.aload_n 0, 1) := by decide +kernel
theorem d_K_isBefore_22 : decode prog_2_method_9_code 22 = .ok (.getfield 15, 3) := by decide +kernel
theorem d_K_isBefore_25 : decode prog_2_method_9_code 25 = .ok (.iload_n 1, 1) := by decide +kernel
theorem d_K_isBefore_26 : decode prog_2_method_9_code 26 = .ok (.invokevirtual 33, 3) := by decide +kernel
theorem d_K_isBefore_29 : decode prog_2_method_9_code 29 = .ok (.istore 5, 2) := by decide +kernel
theorem d_K_isBefore_31 : decode prog_2_method_9_code 31 = .ok (.iload 5, 2) := by decide +kernel
theorem d_K_isBefore_33 : decode prog_2_method_9_code 33 = .ok (.iload_n 2, 1) := by decide +kernel
theorem d_K_isBefore_34 : decode prog_2_method_9_code 34 = .ok (.if_icmp .ge (35), 3) := by decide +kernel
theorem d_K_isBefore_37 : decode prog_2_method_9_code 37 = .ok (.aload_n 0, 1) := by decide +kernel
theorem d_K_isBefore_38 : decode prog_2_method_9_code 38 = .ok (.iload_n 1, 1) := by decide +kernel
theorem d_K_isBefore_39 : decode prog_2_method_9_code 39 = .ok (.iload 5, 2) := by decide +kernel
theorem d_K_isBefore_41 : decode prog_2_method_9_code 41 = .ok (.iload_n 3, 1) := by decide +kernel
theorem d_K_isBefore_42 : decode prog_2_method_9_code 42 = .ok (.invokevirtual 86, 3) := by decide +kernel
theorem d_K_isBefore_45 : decode prog_2_method_9_code 45 = .ok (.ifCond .ne (18), 3) := by decide +kernel
theorem d_K_isBefore_48 : decode prog_2_method_9_code 48 = .ok (.aload_n 0, 1) := by decide +kernel
theorem d_K_isBefore_49 : decode prog_2_method_9_code 49 = .ok (.iload_n 1, 1) := by decide +kernel
theorem d_K_isBefore_50 : decode prog_2_method_9_code 50 = .ok (.iload 5, 2) := by decide +kernel
theorem d_K_isBefore_52 : decode prog_2_method_9_code 52 = .ok (.iload_n 3, 1) := by decide +kernel
theorem d_K_isBefore_53 : decode prog_2_method_9_code 53 = .ok (.invokevirtual 114, 3) := by decide +kernel
theorem d_K_isBefore_56 : decode prog_2_method_9_code 56 = .ok (.iload 4, 2) := by decide +kernel
theorem d_K_isBefore_58 : decode prog_2_method_9_code 58 = .ok (.if_icmp .ne (5), 3) := by decide +kernel
theorem d_K_isBefore_61 : decode prog_2_method_9_code 61 = .ok (.iconst 1, 1) := by decide +kernel
theorem d_K_isBefore_62 : decode prog_2_method_9_code 62 = .ok (.ireturn, 1) := by decide +kernel
theorem d_K_isBefore_63 : decode prog_2_method_9_code 63 = .ok (.iinc 5 (1), 3) := by decide +kernel
theorem d_K_isBefore_66 : decode prog_2_method_9_code 66 = .ok (.goto (-35), 3) := by decide +kernel
theorem d_K_isBefore_69 : decode prog_2_method_9_code 69 = .ok (.iconst 0, 1) := by decide +kernel
theorem d_K_isBefore_70 : decode prog_2_method_9_code 70 = .ok (.ireturn, 1) := by decide +kernel
def Y_K_isBefore : sdY := ("SettingsDesk$Check", prog_2_method_9_code, 6, (some .boolean), .code y_K_isBefore prog_2_method_9_code 6 (some .boolean) :: sdB0, { frames := 3, cells := 0, slots := 0, locals := 68 }, 0, 0, [])
theorem cw_K_isBefore_K_isNothing_86 : sd_cwV Y_K_isBefore Y_K_isNothing y_K_isNothing 86 3 "SettingsDesk$Check" := ⟨sd_goodV q197 q199 q200 q201 q198, ⟨_, rfl⟩, ⟨rfl, rfl, rfl, rfl⟩, ⟨rfl, by decide, by decide, by decide +kernel⟩, ⟨by decide, by decide⟩⟩
theorem cw_K_isBefore_K_whatIs_114 : sd_cwV Y_K_isBefore Y_K_whatIs y_K_whatIs 114 3 "SettingsDesk$Check" := ⟨sd_goodV q211 q213 q214 q201 q212, ⟨_, rfl⟩, ⟨rfl, rfl, rfl, rfl⟩, ⟨rfl, by decide, by decide, by decide +kernel⟩, ⟨by decide, by decide⟩⟩
theorem cw_K_isBefore_S_firstRow_33 : sd_cwV Y_K_isBefore Y_S_firstRow y_S_firstRow 33 1 "SettingsDesk$Settings" := ⟨sd_goodV q215 q19 q20 q7 q18, ⟨_, rfl⟩, ⟨rfl, rfl, rfl, rfl⟩, ⟨rfl, by decide, by decide, by decide +kernel⟩, ⟨by decide, by decide⟩⟩
section
variable {l : Launch} {D : va_G} {dA : Nat → ClassId} {b n : Nat} {ad : Nat → Nat} {L : Nat → sdL} {sc : Option (Nat × Nat × (Nat → Int32))}
def k_K_isBefore_63 (o : Nat) (se : Nat) (tr : Nat) (Q : Int32 → sdM → Prop) (k31 : sdM → Int32 → Int32 → Int32 → Int32 → Int32 → Prop) (M : sdM) (x1 : Int32) (x2 : Int32) (x3 : Int32) (x4 : Int32) (x5 : Int32) : Prop := k31 M x1 x2 x3 x4 (x5 + 1)
set_option maxHeartbeats 1000000 in
theorem t_K_isBefore_63 {o : Nat} {se : Nat} {tr : Nat} (hA : sd_ad b n ad) (hT : l.stackTraces = false) (ho : isK n L dA o se tr) {Q : Int32 → sdM → Prop} {k31 : sdM → Int32 → Int32 → Int32 → Int32 → Int32 → Prop} (hk31 : ∀ (M : sdM) (x1 : Int32) (x2 : Int32) (x3 : Int32) (x4 : Int32) (x5 : Int32), k31 M x1 x2 x3 x4 x5 → sdW l (sdE0 sc) Y_K_isBefore D (sd_tys dA) b n ad L ad (sd_H D (sdE0 sc).1 n ad L) (sd_qi Q) sd_xf 31 [(0, .ref o), (1, .int x1), (2, .int x2), (3, .int x3), (4, .int x4), (5, .int x5)] [] M 0 0) (M : sdM) (x1 : Int32) (x2 : Int32) (x3 : Int32) (x4 : Int32) (x5 : Int32) (hw : k_K_isBefore_63 o se tr Q k31 M x1 x2 x3 x4 x5) : sdW l (sdE0 sc) Y_K_isBefore D (sd_tys dA) b n ad L ad (sd_H D (sdE0 sc).1 n ad L) (sd_qi Q) sd_xf 63 [(0, .ref o), (1, .int x1), (2, .int x2), (3, .int x3), (4, .int x4), (5, .int x5)] [] M 0 0 := by
  unfold k_K_isBefore_63 at hw
  refine x_iinc 5 5 [(5, .int (x5 + 1)), (0, .ref o), (1, .int x1), (2, .int x2), (3, .int x3), (4, .int x4)] d_K_isBefore_63 rfl (congrArg (HAdd.hAdd x5) (show Int32.ofInt 1 = 1 by decide)) (by decide) rfl ?_
  refine x_goto 31 d_K_isBefore_66 rfl ?_
  refine x_sub [1, 2, 3, 4, 5, 0] [(0, .ref o), (1, .int x1), (2, .int x2), (3, .int x3), (4, .int x4), (5, .int (x5 + 1))] rfl ?_
  exact hk31 M x1 x2 x3 x4 (x5 + 1) hw
def h_K_isBefore_31 (o : Nat) (se : Nat) (tr : Nat) (Q : Int32 → sdM → Prop) : Nat → sdM → Int32 → Int32 → Int32 → Int32 → Int32 → Prop
  | 0, _, _, _, _, _, _ => False
  | N + 1, M, x1, x2, x3, x4, x5 => (x2 ≤ x5 → sdB (0 : Int32) ∧ Q (0 : Int32) M) ∧ (¬ x2 ≤ x5 → w_K_isNothing o se tr M x1 x5 x3 (fun r12 M11 => (¬ r12 = 0 → k_K_isBefore_63 o se tr Q (fun M x1 x2 x3 x4 x5 => h_K_isBefore_31 o se tr Q N M x1 x2 x3 x4 x5) M11 x1 x2 x3 x4 x5) ∧ (r12 = 0 → w_K_whatIs o se tr M11 x1 x5 x3 (fun r14 M13 => (¬ r14 = x4 → k_K_isBefore_63 o se tr Q (fun M x1 x2 x3 x4 x5 => h_K_isBefore_31 o se tr Q N M x1 x2 x3 x4 x5) M13 x1 x2 x3 x4 x5) ∧ (r14 = x4 → sdB (1 : Int32) ∧ Q (1 : Int32) M13)))))
set_option maxHeartbeats 1000000 in
theorem t_K_isBefore_31 {o : Nat} {se : Nat} {tr : Nat} (hA : sd_ad b n ad) (hT : l.stackTraces = false) (ho : isK n L dA o se tr) {Q : Int32 → sdM → Prop} (N : Nat) : ∀ (M : sdM) (x1 : Int32) (x2 : Int32) (x3 : Int32) (x4 : Int32) (x5 : Int32), h_K_isBefore_31 o se tr Q N M x1 x2 x3 x4 x5 → sdW l (sdE0 sc) Y_K_isBefore D (sd_tys dA) b n ad L ad (sd_H D (sdE0 sc).1 n ad L) (sd_qi Q) sd_xf 31 [(0, .ref o), (1, .int x1), (2, .int x2), (3, .int x3), (4, .int x4), (5, .int x5)] [] M 0 0 := by
  induction N with
  | zero => intro M x1 x2 x3 x4 x5 hw; exact hw.elim
  | succ N ih =>
    intro M x1 x2 x3 x4 x5 hw
    rw [h_K_isBefore_31] at hw
    refine x_iload 5 5 d_K_isBefore_31 rfl ?_
    refine x_iload_n 2 2 d_K_isBefore_33 rfl rfl ?_
    refine x_icmp_ge 69 d_K_isBefore_34 rfl (fun hc => ?_) (fun hc => ?_)
    · have hw := hw.1 hc
      refine x_iconst (v := 0) d_K_isBefore_69 (by decide) ?_
      exact x_zret d_K_isBefore_70 rfl (sdB_n hw.1) (fun _ h => h) ⟨_, rfl, hw.2⟩
    · have hw := hw.2 hc
      refine x_aload_n 0 0 d_K_isBefore_37 rfl rfl ?_
      refine x_iload_n 1 1 d_K_isBefore_38 rfl rfl ?_
      refine x_iload 5 5 d_K_isBefore_39 rfl ?_
      refine x_iload_n 3 3 d_K_isBefore_41 rfl rfl ?_
      refine x_callVi (As := [.int x1, .int x5, .int x3]) (t := o) (rest := []) (rc := 0) (rs := 0) (c_K_isNothing hA hT ho hw) cw_K_isBefore_K_isNothing_86 ho.1 ho.2.1 rfl d_K_isBefore_42 rfl rfl (Nat.le_of_ble_eq_true rfl) rfl (fun _ _ h => h.elim) (fun _ _ h => h) (fun r12 M11 hw => ?_)
      refine x_if_ne 63 d_K_isBefore_45 rfl (fun hc => ?_) (fun hc => ?_)
      · have hw := hw.1 hc
        exact t_K_isBefore_63 hA hT ho (fun M x1 x2 x3 x4 x5  hw => ih M x1 x2 x3 x4 x5 hw) M11 x1 x2 x3 x4 x5 hw
      · have hw := hw.2 hc
        refine x_aload_n 0 0 d_K_isBefore_48 rfl rfl ?_
        refine x_iload_n 1 1 d_K_isBefore_49 rfl rfl ?_
        refine x_iload 5 5 d_K_isBefore_50 rfl ?_
        refine x_iload_n 3 3 d_K_isBefore_52 rfl rfl ?_
        refine x_callVi (As := [.int x1, .int x5, .int x3]) (t := o) (rest := []) (rc := 0) (rs := 0) (c_K_whatIs hA hT ho hw) cw_K_isBefore_K_whatIs_114 ho.1 ho.2.1 rfl d_K_isBefore_53 rfl rfl (Nat.le_of_ble_eq_true rfl) rfl (fun _ _ h => h.elim) (fun _ _ h => h) (fun r14 M13 hw => ?_)
        refine x_iload 4 4 d_K_isBefore_56 rfl ?_
        refine x_icmp_ne 63 d_K_isBefore_58 rfl (fun hc => ?_) (fun hc => ?_)
        · have hw := hw.1 hc
          exact t_K_isBefore_63 hA hT ho (fun M x1 x2 x3 x4 x5  hw => ih M x1 x2 x3 x4 x5 hw) M13 x1 x2 x3 x4 x5 hw
        · have hw := hw.2 hc
          refine x_iconst (v := 1) d_K_isBefore_61 (by decide) ?_
          exact x_zret d_K_isBefore_62 rfl (sdB_n hw.1) (fun _ h => h) ⟨_, rfl, hw.2⟩
def w_K_isBefore (o : Nat) (se : Nat) (tr : Nat) (M : sdM) (a1 : Int32) (a2 : Int32) (a3 : Int32) (Q : Int32 → sdM → Prop) : Prop := w_K_isNothing o se tr M a1 a2 a3 (fun r16 M15 => (r16 = 0 → w_K_whatIs o se tr M15 a1 a2 a3 (fun r18 M17 => w_S_firstRow se M17 a1 (fun r20 M19 => ∃ N9 : Nat, h_K_isBefore_31 o se tr Q N9 M19 a1 a2 a3 r18 r20))) ∧ (¬ r16 = 0 → sdB (0 : Int32) ∧ Q (0 : Int32) M15))
set_option maxHeartbeats 1000000 in
theorem c_K_isBefore {a1 : Int32} {a2 : Int32} {a3 : Int32} {o : Nat} {se : Nat} {tr : Nat} (hA : sd_ad b n ad) (hT : l.stackTraces = false) (ho : isK n L dA o se tr) {Q : Int32 → sdM → Prop} {M : sdM} (hw : w_K_isBefore o se tr M a1 a2 a3 Q) : sd_Cn l (sdE0 sc) y_K_isBefore Y_K_isBefore.2.2.2.2.1 Y_K_isBefore.2.2.2.2.2.1 0 0 D (sd_tys dA) b n ad L M [.ref o, .int a1, .int a2, .int a3] (sd_qi Q) sd_xf := by
  refine sd_enter (Y := Y_K_isBefore) rfl rfl rfl rfl (Nat.le_of_ble_eq_true rfl) ?_
  show sdW l (sdE0 sc) Y_K_isBefore D (sd_tys dA) b n ad L ad (sd_H D (sdE0 sc).1 n ad L) (sd_qi Q) sd_xf 0 [(0, .ref o), (1, .int a1), (2, .int a2), (3, .int a3)] [] M 0 0
  unfold w_K_isBefore at hw
  refine x_aload_n 0 0 d_K_isBefore_0 rfl rfl ?_
  refine x_iload_n 1 1 d_K_isBefore_1 rfl rfl ?_
  refine x_iload_n 2 2 d_K_isBefore_2 rfl rfl ?_
  refine x_iload_n 3 3 d_K_isBefore_3 rfl rfl ?_
  refine x_callVi (As := [.int a1, .int a2, .int a3]) (t := o) (rest := []) (rc := 0) (rs := 0) (c_K_isNothing hA hT ho hw) cw_K_isBefore_K_isNothing_86 ho.1 ho.2.1 rfl d_K_isBefore_4 rfl rfl (Nat.le_of_ble_eq_true rfl) rfl (fun _ _ h => h.elim) (fun _ _ h => h) (fun r16 M15 hw => ?_)
  refine x_if_eq 12 d_K_isBefore_7 rfl (fun hc => ?_) (fun hc => ?_)
  · have hw := hw.1 hc
    refine x_aload_n 0 0 d_K_isBefore_12 rfl rfl ?_
    refine x_iload_n 1 1 d_K_isBefore_13 rfl rfl ?_
    refine x_iload_n 2 2 d_K_isBefore_14 rfl rfl ?_
    refine x_iload_n 3 3 d_K_isBefore_15 rfl rfl ?_
    refine x_callVi (As := [.int a1, .int a2, .int a3]) (t := o) (rest := []) (rc := 0) (rs := 0) (c_K_whatIs hA hT ho hw) cw_K_isBefore_K_whatIs_114 ho.1 ho.2.1 rfl d_K_isBefore_16 rfl rfl (Nat.le_of_ble_eq_true rfl) rfl (fun _ _ h => h.elim) (fun _ _ h => h) (fun r18 M17 hw => ?_)
    refine x_istore 4 [(4, .int r18), (0, .ref o), (1, .int a1), (2, .int a2), (3, .int a3)] d_K_isBefore_19 (by decide) rfl ?_
    refine x_aload_n 0 1 d_K_isBefore_21 rfl rfl ?_
    refine x_getr 1 se d_K_isBefore_22 ho.1 ho.2.1 rfl rfl (by decide) lay_K (List.mem_cons_of_mem _ q180) rfl ?_
    refine x_iload_n 1 2 d_K_isBefore_25 rfl rfl ?_
    refine x_callVi (As := [.int a1]) (t := se) (rest := []) (rc := 0) (rs := 0) (c_S_firstRow hA hT ho.settings hw) cw_K_isBefore_S_firstRow_33 ho.settings.1 ho.settings.2.1 rfl d_K_isBefore_26 rfl rfl (Nat.le_of_ble_eq_true rfl) rfl (fun _ _ h => h.elim) (fun _ _ h => h) (fun r20 M19 hw => ?_)
    refine x_istore 5 [(5, .int r20), (4, .int r18), (0, .ref o), (1, .int a1), (2, .int a2), (3, .int a3)] d_K_isBefore_29 (by decide) rfl ?_
    refine x_sub [2, 3, 4, 5, 1, 0] [(0, .ref o), (1, .int a1), (2, .int a2), (3, .int a3), (4, .int r18), (5, .int r20)] rfl ?_
    obtain ⟨N9, hw⟩ := hw
    exact t_K_isBefore_31 hA hT ho N9 M19 a1 a2 a3 r18 r20 hw
  · have hw := hw.2 hc
    refine x_iconst (v := 0) d_K_isBefore_10 (by decide) ?_
    exact x_zret d_K_isBefore_11 rfl (sdB_n hw.1) (fun _ h => h) ⟨_, rfl, hw.2⟩
end
theorem q216 : (.fieldLink "SettingsDesk$Check" 108 "SettingsDesk$Leaf" "unique" "Z" : Cond) ∈ sdB0 := sd_tb1 57 rfl rfl
theorem q217 : (.methodLink "SettingsDesk$Check" 111 ⟨"SettingsDesk$Check", "isBefore", "(III)Z"⟩ : Cond) ∈ sdB0 := sd_tb3 61 rfl rfl
theorem q218 : (.code ⟨"SettingsDesk$Check", "isBefore", "(III)Z"⟩ prog_2_method_9_code 6 (some .boolean) : Cond) ∈ sdB0 := sd_tb3 64 rfl rfl
theorem q219 : (.instanceMethod ⟨"SettingsDesk$Check", "isBefore", "(III)Z"⟩ : Cond) ∈ sdB0 := sd_tb3 62 rfl rfl
theorem q220 : (.selects "SettingsDesk$Check" ⟨"SettingsDesk$Check", "isBefore", "(III)Z"⟩ ⟨"SettingsDesk$Check", "isBefore", "(III)Z"⟩ : Cond) ∈ sdB0 := sd_tb3 63 rfl rfl
abbrev y_K_repeatsLeaf : MethodName := ⟨"SettingsDesk$Check", "repeatsLeaf", "(II)Z"⟩
theorem d_K_repeatsLeaf_0 : decode prog_2_method_8_code 0 = .ok (.iconst 0, 1) := by decide +kernel
theorem d_K_repeatsLeaf_1 : decode prog_2_method_8_code 1 = .ok (.istore_n 3, 1) := by decide +kernel
theorem d_K_repeatsLeaf_2 : decode prog_2_method_8_code 2 = .ok (.iload_n 3, 1) := by decide +kernel
theorem d_K_repeatsLeaf_3 : decode prog_2_method_8_code 3 = .ok (.aload_n 0, 1) := by decide +kernel
theorem d_K_repeatsLeaf_4 : decode prog_2_method_8_code 4 = .ok (.getfield 9, 3) := by decide +kernel
theorem d_K_repeatsLeaf_7 : decode prog_2_method_8_code 7 = .ok (.getfield 77, 3) := by decide +kernel
theorem d_K_repeatsLeaf_10 : decode prog_2_method_8_code 10 = .ok (.iload_n 1, 1) := by decide +kernel
theorem d_K_repeatsLeaf_11 : decode prog_2_method_8_code 11 = .ok (.iaload, 1) := by decide +kernel
theorem d_K_repeatsLeaf_12 : decode prog_2_method_8_code 12 = .ok (.if_icmp .ge (55), 3) := by decide +kernel
theorem d_K_repeatsLeaf_15 : decode prog_2_method_8_code 15 = .ok (.aload_n 0, 1) := by decide +kernel
theorem d_K_repeatsLeaf_16 : decode prog_2_method_8_code 16 = .ok (.getfield 9, 3) := by decide +kernel
theorem d_K_repeatsLeaf_19 : decode prog_2_method_8_code 19 = .ok (.iload_n 1, 1) := by decide +kernel
theorem d_K_repeatsLeaf_20 : decode prog_2_method_8_code 20 = .ok (.iload_n 3, 1) := by decide +kernel
theorem d_K_repeatsLeaf_21 : decode prog_2_method_8_code 21 = .ok (.invokevirtual 65, 3) := by decide +kernel
theorem d_K_repeatsLeaf_24 : decode prog_2_method_8_code 24 = .ok (.getfield 108, 3) := by decide +kernel
theorem d_K_repeatsLeaf_27 : decode prog_2_method_8_code 27 = .ok (.ifCond .eq (34), 3) := by decide +kernel
theorem d_K_repeatsLeaf_30 : decode prog_2_method_8_code 30 = .ok (.aload_n 0, 1) := by decide +kernel
theorem d_K_repeatsLeaf_31 : decode prog_2_method_8_code 31 = .ok (.iload_n 1, 1) := by decide +kernel
theorem d_K_repeatsLeaf_32 : decode prog_2_method_8_code 32 = .ok (.iload_n 2, 1) := by decide +kernel
theorem d_K_repeatsLeaf_33 : decode prog_2_method_8_code 33 = .ok (.iload_n 3, 1) := by decide +kernel
theorem d_K_repeatsLeaf_34 : decode prog_2_method_8_code 34 = .ok (.invokevirtual 111, 3) := by decide +kernel
theorem d_K_repeatsLeaf_37 : decode prog_2_method_8_code 37 = .ok (.ifCond .eq (24), 3) := by decide +kernel
theorem d_K_repeatsLeaf_40 : decode prog_2_method_8_code 40 = .ok (.aload_n 0, 1) := by decide +kernel
theorem d_K_repeatsLeaf_41 : decode prog_2_method_8_code 41 = .ok (.getfield 19, 3) := by decide +kernel
theorem d_K_repeatsLeaf_44 : decode prog_2_method_8_code 44 = .ok (.iconst 3, 1) := by decide +kernel
theorem d_K_repeatsLeaf_45 : decode prog_2_method_8_code 45 = .ok (.iload_n 1, 1) := by decide +kernel
theorem d_K_repeatsLeaf_46 : decode prog_2_method_8_code 46 = .ok (.aload_n 0, 1) := by decide +kernel
theorem d_K_repeatsLeaf_47 : decode prog_2_method_8_code 47 = .ok (.getfield 15, 3) := by decide +kernel
theorem d_K_repeatsLeaf_50 : decode prog_2_method_8_code 50 = .ok (.getfield 89, 3) := by decide +kernel
theorem d_K_repeatsLeaf_53 : decode prog_2_method_8_code 53 = .ok (.iload_n 2, 1) := by decide +kernel
theorem d_K_repeatsLeaf_54 : decode prog_2_method_8_code 54 = .ok (.iaload, 1) := by decide +kernel
theorem d_K_repeatsLeaf_55 : decode prog_2_method_8_code 55 = .ok (.iload_n 3, 1) := by decide +kernel
theorem d_K_repeatsLeaf_56 : decode prog_2_method_8_code 56 = .ok (.invokevirtual 59, 3) := by decide +kernel
theorem d_K_repeatsLeaf_59 : decode prog_2_method_8_code 59 = .ok (.iconst 1, 1) := by decide +kernel
theorem d_K_repeatsLeaf_60 : decode prog_2_method_8_code 60 = .ok (.ireturn, 1) := by decide +kernel
theorem d_K_repeatsLeaf_61 : decode prog_2_method_8_code 61 = .ok (.iinc 3 (1), 3) := by decide +kernel
theorem d_K_repeatsLeaf_64 : decode prog_2_method_8_code 64 = .ok (.goto (-62), 3) := by decide +kernel
theorem d_K_repeatsLeaf_67 : decode prog_2_method_8_code 67 = .ok (.iconst 0, 1) := by decide +kernel
theorem d_K_repeatsLeaf_68 : decode prog_2_method_8_code 68 = .ok (.ireturn, 1) := by decide +kernel
def Y_K_repeatsLeaf : sdY := ("SettingsDesk$Check", prog_2_method_8_code, 4, (some .boolean), .code y_K_repeatsLeaf prog_2_method_8_code 4 (some .boolean) :: sdB0, { frames := 4, cells := 0, slots := 0, locals := 93 }, 0, 0, [])
theorem cw_K_repeatsLeaf_C_leafAt_65 : sd_cwV Y_K_repeatsLeaf Y_C_leafAt y_C_leafAt 65 2 "SettingsDesk$Schema" := ⟨sd_goodV q189 q87 q88 q77 q86, ⟨_, rfl⟩, ⟨rfl, rfl, rfl, rfl⟩, ⟨rfl, by decide, by decide, by decide +kernel⟩, ⟨by decide, by decide⟩⟩
theorem cw_K_repeatsLeaf_K_isBefore_111 : sd_cwV Y_K_repeatsLeaf Y_K_isBefore y_K_isBefore 111 3 "SettingsDesk$Check" := ⟨sd_goodV q217 q219 q220 q201 q218, ⟨_, rfl⟩, ⟨rfl, rfl, rfl, rfl⟩, ⟨rfl, by decide, by decide, by decide +kernel⟩, ⟨by decide, by decide⟩⟩
theorem cw_K_repeatsLeaf_T_note_59 : sd_cwV Y_K_repeatsLeaf Y_T_note y_T_note 59 4 "SettingsDesk$Trouble" := ⟨sd_goodV q188 q121 q122 q123 q120, ⟨_, rfl⟩, ⟨rfl, rfl, rfl, rfl⟩, ⟨rfl, by decide, by decide, by decide +kernel⟩, ⟨by decide, by decide⟩⟩
section
variable {l : Launch} {D : va_G} {dA : Nat → ClassId} {b n : Nat} {ad : Nat → Nat} {L : Nat → sdL} {sc : Option (Nat × Nat × (Nat → Int32))}
def k_K_repeatsLeaf_61 (o : Nat) (se : Nat) (tr : Nat) (Q : Int32 → sdM → Prop) (k2 : sdM → Int32 → Int32 → Int32 → Prop) (M : sdM) (x1 : Int32) (x2 : Int32) (x3 : Int32) : Prop := k2 M x1 x2 (x3 + 1)
set_option maxHeartbeats 1000000 in
theorem t_K_repeatsLeaf_61 {o : Nat} {se : Nat} {tr : Nat} (hA : sd_ad b n ad) (hT : l.stackTraces = false) (ho : isK n L dA o se tr) {Q : Int32 → sdM → Prop} {k2 : sdM → Int32 → Int32 → Int32 → Prop} (hk2 : ∀ (M : sdM) (x1 : Int32) (x2 : Int32) (x3 : Int32), k2 M x1 x2 x3 → sdW l (sdE0 sc) Y_K_repeatsLeaf D (sd_tys dA) b n ad L ad (sd_H D (sdE0 sc).1 n ad L) (sd_qi Q) sd_xf 2 [(0, .ref o), (1, .int x1), (2, .int x2), (3, .int x3)] [] M 0 0) (M : sdM) (x1 : Int32) (x2 : Int32) (x3 : Int32) (hw : k_K_repeatsLeaf_61 o se tr Q k2 M x1 x2 x3) : sdW l (sdE0 sc) Y_K_repeatsLeaf D (sd_tys dA) b n ad L ad (sd_H D (sdE0 sc).1 n ad L) (sd_qi Q) sd_xf 61 [(0, .ref o), (1, .int x1), (2, .int x2), (3, .int x3)] [] M 0 0 := by
  unfold k_K_repeatsLeaf_61 at hw
  refine x_iinc 3 3 [(3, .int (x3 + 1)), (0, .ref o), (1, .int x1), (2, .int x2)] d_K_repeatsLeaf_61 rfl (congrArg (HAdd.hAdd x3) (show Int32.ofInt 1 = 1 by decide)) (by decide) rfl ?_
  refine x_goto 2 d_K_repeatsLeaf_64 rfl ?_
  refine x_sub [1, 2, 3, 0] [(0, .ref o), (1, .int x1), (2, .int x2), (3, .int (x3 + 1))] rfl ?_
  exact hk2 M x1 x2 (x3 + 1) hw
def h_K_repeatsLeaf_2 (o : Nat) (se : Nat) (tr : Nat) (Q : Int32 → sdM → Prop) : Nat → sdM → Int32 → Int32 → Int32 → Prop
  | 0, _, _, _, _ => False
  | N + 1, M, x1, x2, x3 => vp_in x1 4 ∧ ((M 2 x1.toNatClampNeg) ≤ x3 → sdB (0 : Int32) ∧ Q (0 : Int32) M) ∧ (¬ (M 2 x1.toNatClampNeg) ≤ x3 → w_C_leafAt M x1 x3 (fun t11 M10 => ((M10 t11 4) = 0 → k_K_repeatsLeaf_61 o se tr Q (fun M x1 x2 x3 => h_K_repeatsLeaf_2 o se tr Q N M x1 x2 x3) M10 x1 x2 x3) ∧ (¬ (M10 t11 4) = 0 → w_K_isBefore o se tr M10 x1 x2 x3 (fun r14 M13 => (r14 = 0 → k_K_repeatsLeaf_61 o se tr Q (fun M x1 x2 x3 => h_K_repeatsLeaf_2 o se tr Q N M x1 x2 x3) M13 x1 x2 x3) ∧ (¬ r14 = 0 → vp_in x2 48 ∧ w_T_note tr M13 (3 : Int32) x1 (M13 (se + 2) x2.toNatClampNeg) x3 (fun M16 => sdB (1 : Int32) ∧ Q (1 : Int32) M16))))))
set_option maxHeartbeats 1000000 in
theorem t_K_repeatsLeaf_2 {o : Nat} {se : Nat} {tr : Nat} (hA : sd_ad b n ad) (hT : l.stackTraces = false) (ho : isK n L dA o se tr) {Q : Int32 → sdM → Prop} (N : Nat) : ∀ (M : sdM) (x1 : Int32) (x2 : Int32) (x3 : Int32), h_K_repeatsLeaf_2 o se tr Q N M x1 x2 x3 → sdW l (sdE0 sc) Y_K_repeatsLeaf D (sd_tys dA) b n ad L ad (sd_H D (sdE0 sc).1 n ad L) (sd_qi Q) sd_xf 2 [(0, .ref o), (1, .int x1), (2, .int x2), (3, .int x3)] [] M 0 0 := by
  induction N with
  | zero => intro M x1 x2 x3 hw; exact hw.elim
  | succ N ih =>
    intro M x1 x2 x3 hw
    rw [h_K_repeatsLeaf_2] at hw
    refine x_iload_n 3 3 d_K_repeatsLeaf_2 rfl rfl ?_
    refine x_aload_n 0 0 d_K_repeatsLeaf_3 rfl rfl ?_
    refine x_getr 0 1 d_K_repeatsLeaf_4 ho.1 ho.2.1 rfl rfl (by decide) lay_K (List.mem_cons_of_mem _ q179) rfl ?_
    refine x_getr 2 2 d_K_repeatsLeaf_7 ho.schema.1 ho.schema.2.1 rfl rfl (by decide) lay_C (List.mem_cons_of_mem _ q194) rfl ?_
    refine x_iload_n 1 1 d_K_repeatsLeaf_10 rfl rfl ?_
    obtain ⟨hi9, hw⟩ := hw
    refine x_iald d_K_repeatsLeaf_11 ho.schema.leaves.1 ho.schema.leaves.2 rfl hi9 ?_
    refine x_icmp_ge 67 d_K_repeatsLeaf_12 rfl (fun hc => ?_) (fun hc => ?_)
    · have hw := hw.1 hc
      refine x_iconst (v := 0) d_K_repeatsLeaf_67 (by decide) ?_
      exact x_zret d_K_repeatsLeaf_68 rfl (sdB_n hw.1) (fun _ h => h) ⟨_, rfl, hw.2⟩
    · have hw := hw.2 hc
      refine x_aload_n 0 0 d_K_repeatsLeaf_15 rfl rfl ?_
      refine x_getr 0 1 d_K_repeatsLeaf_16 ho.1 ho.2.1 rfl rfl (by decide) lay_K (List.mem_cons_of_mem _ q179) rfl ?_
      refine x_iload_n 1 1 d_K_repeatsLeaf_19 rfl rfl ?_
      refine x_iload_n 3 3 d_K_repeatsLeaf_20 rfl rfl ?_
      refine x_callVr (As := [.int x1, .int x3]) (t := 1) (rest := []) (rc := 0) (rs := 0) (c_C_leafAt hA hT ho.schema hw) cw_K_repeatsLeaf_C_leafAt_65 ho.schema.1 ho.schema.2.1 rfl d_K_repeatsLeaf_21 rfl rfl (Nat.le_of_ble_eq_true rfl) rfl (fun _ _ h => h.elim) (fun _ _ h => h) (fun t11 M10 ht12 hw => ?_)
      refine x_geti 4 d_K_repeatsLeaf_24 ht12.1 ht12.2 rfl rfl (by decide) lay_F (List.mem_cons_of_mem _ q216) rfl ?_
      refine x_if_eq 61 d_K_repeatsLeaf_27 rfl (fun hc => ?_) (fun hc => ?_)
      · have hw := hw.1 hc
        exact t_K_repeatsLeaf_61 hA hT ho (fun M x1 x2 x3  hw => ih M x1 x2 x3 hw) M10 x1 x2 x3 hw
      · have hw := hw.2 hc
        refine x_aload_n 0 0 d_K_repeatsLeaf_30 rfl rfl ?_
        refine x_iload_n 1 1 d_K_repeatsLeaf_31 rfl rfl ?_
        refine x_iload_n 2 2 d_K_repeatsLeaf_32 rfl rfl ?_
        refine x_iload_n 3 3 d_K_repeatsLeaf_33 rfl rfl ?_
        refine x_callVi (As := [.int x1, .int x2, .int x3]) (t := o) (rest := []) (rc := 0) (rs := 0) (c_K_isBefore hA hT ho hw) cw_K_repeatsLeaf_K_isBefore_111 ho.1 ho.2.1 rfl d_K_repeatsLeaf_34 rfl rfl (Nat.le_of_ble_eq_true rfl) rfl (fun _ _ h => h.elim) (fun _ _ h => h) (fun r14 M13 hw => ?_)
        refine x_if_eq 61 d_K_repeatsLeaf_37 rfl (fun hc => ?_) (fun hc => ?_)
        · have hw := hw.1 hc
          exact t_K_repeatsLeaf_61 hA hT ho (fun M x1 x2 x3  hw => ih M x1 x2 x3 hw) M13 x1 x2 x3 hw
        · have hw := hw.2 hc
          refine x_aload_n 0 0 d_K_repeatsLeaf_40 rfl rfl ?_
          refine x_getr 2 tr d_K_repeatsLeaf_41 ho.1 ho.2.1 rfl rfl (by decide) lay_K (List.mem_cons_of_mem _ q181) rfl ?_
          refine x_iconst (v := 3) d_K_repeatsLeaf_44 (by decide) ?_
          refine x_iload_n 1 1 d_K_repeatsLeaf_45 rfl rfl ?_
          refine x_aload_n 0 0 d_K_repeatsLeaf_46 rfl rfl ?_
          refine x_getr 1 se d_K_repeatsLeaf_47 ho.1 ho.2.1 rfl rfl (by decide) lay_K (List.mem_cons_of_mem _ q180) rfl ?_
          refine x_getr 1 (se + 2) d_K_repeatsLeaf_50 ho.settings.1 ho.settings.2.1 rfl rfl (by decide) lay_S (List.mem_cons_of_mem _ q196) rfl ?_
          refine x_iload_n 2 2 d_K_repeatsLeaf_53 rfl rfl ?_
          obtain ⟨hi15, hw⟩ := hw
          refine x_iald d_K_repeatsLeaf_54 ho.settings.keys.1 ho.settings.keys.2 rfl hi15 ?_
          refine x_iload_n 3 3 d_K_repeatsLeaf_55 rfl rfl ?_
          refine x_callVv (As := [.int (3 : Int32), .int x1, .int (M13 (se + 2) x2.toNatClampNeg), .int x3]) (t := tr) (rest := []) (rc := 0) (rs := 0) (c_T_note hA hT ho.trouble hw) cw_K_repeatsLeaf_T_note_59 ho.trouble.1 ho.trouble.2 rfl d_K_repeatsLeaf_56 rfl rfl (Nat.le_of_ble_eq_true rfl) rfl (fun _ _ h => h.elim) (fun _ _ h => h) (fun M16 hw => ?_)
          refine x_iconst (v := 1) d_K_repeatsLeaf_59 (by decide) ?_
          exact x_zret d_K_repeatsLeaf_60 rfl (sdB_n hw.1) (fun _ h => h) ⟨_, rfl, hw.2⟩
def w_K_repeatsLeaf (o : Nat) (se : Nat) (tr : Nat) (M : sdM) (a1 : Int32) (a2 : Int32) (Q : Int32 → sdM → Prop) : Prop := ∃ N9 : Nat, h_K_repeatsLeaf_2 o se tr Q N9 M a1 a2 (0 : Int32)
set_option maxHeartbeats 1000000 in
theorem c_K_repeatsLeaf {a1 : Int32} {a2 : Int32} {o : Nat} {se : Nat} {tr : Nat} (hA : sd_ad b n ad) (hT : l.stackTraces = false) (ho : isK n L dA o se tr) {Q : Int32 → sdM → Prop} {M : sdM} (hw : w_K_repeatsLeaf o se tr M a1 a2 Q) : sd_Cn l (sdE0 sc) y_K_repeatsLeaf Y_K_repeatsLeaf.2.2.2.2.1 Y_K_repeatsLeaf.2.2.2.2.2.1 0 0 D (sd_tys dA) b n ad L M [.ref o, .int a1, .int a2] (sd_qi Q) sd_xf := by
  refine sd_enter (Y := Y_K_repeatsLeaf) rfl rfl rfl rfl (Nat.le_of_ble_eq_true rfl) ?_
  show sdW l (sdE0 sc) Y_K_repeatsLeaf D (sd_tys dA) b n ad L ad (sd_H D (sdE0 sc).1 n ad L) (sd_qi Q) sd_xf 0 [(0, .ref o), (1, .int a1), (2, .int a2)] [] M 0 0
  unfold w_K_repeatsLeaf at hw
  refine x_iconst (v := 0) d_K_repeatsLeaf_0 (by decide) ?_
  refine x_istore_n 3 [(3, .int (0 : Int32)), (0, .ref o), (1, .int a1), (2, .int a2)] d_K_repeatsLeaf_1 rfl (by decide) rfl ?_
  refine x_sub [1, 2, 3, 0] [(0, .ref o), (1, .int a1), (2, .int a2), (3, .int (0 : Int32))] rfl ?_
  obtain ⟨N9, hw⟩ := hw
  exact t_K_repeatsLeaf_2 hA hT ho N9 M a1 a2 (0 : Int32) hw
end
theorem q221 : (.fieldLink "SettingsDesk$Check" 124 "SettingsDesk$Rule" "ofList" "I" : Cond) ∈ sdB0 := sd_tb1 84 rfl rfl
theorem q222 : (.fieldLink "SettingsDesk$Check" 133 "SettingsDesk$Rule" "a" "I" : Cond) ∈ sdB0 := sd_tb1 86 rfl rfl
theorem q223 : (.fieldLink "SettingsDesk$Check" 136 "SettingsDesk$Rule" "value" "I" : Cond) ∈ sdB0 := sd_tb1 88 rfl rfl
theorem q224 : (.fieldLink "SettingsDesk$Check" 139 "SettingsDesk$Rule" "b" "I" : Cond) ∈ sdB0 := sd_tb1 90 rfl rfl
theorem q225 : (.fieldLink "SettingsDesk$Check" 142 "SettingsDesk$Rule" "there" "Z" : Cond) ∈ sdB0 := sd_tb1 92 rfl rfl
abbrev y_K_isBroken : MethodName := ⟨"SettingsDesk$Check", "isBroken", "(LSettingsDesk$Rule;I)Z"⟩
theorem d_K_isBroken_0 : decode prog_2_method_11_code 0 = .ok (.aload_n 0, 1) := by decide +kernel
theorem d_K_isBroken_1 : decode prog_2_method_11_code 1 = .ok (.aload_n 1, 1) := by decide +kernel
theorem d_K_isBroken_2 : decode prog_2_method_11_code 2 = .ok (.getfield 124, 3) := by decide +kernel
theorem d_K_isBroken_5 : decode prog_2_method_11_code 5 = .ok (.iload_n 2, 1) := by decide +kernel
theorem d_K_isBroken_6 : decode prog_2_method_11_code 6 = .ok (.aload_n 1, 1) := by decide +kernel
theorem d_K_isBroken_7 : decode prog_2_method_11_code 7 = .ok (.getfield 133, 3) := by decide +kernel
theorem d_K_isBroken_10 : decode prog_2_method_11_code 10 = .ok (.invokevirtual 86, 3) := by decide +kernel
theorem d_K_isBroken_13 : decode prog_2_method_11_code 13 = .ok (.ifCond .ne (47), 3) := by decide +kernel
theorem d_K_isBroken_16 : decode prog_2_method_11_code 16 = .ok (.aload_n 0, 1) := by decide +kernel
theorem d_K_isBroken_17 : decode prog_2_method_11_code 17 = .ok (.aload_n 1, 1) := by decide +kernel
theorem d_K_isBroken_18 : decode prog_2_method_11_code 18 = .ok (.getfield 124, 3) := by decide +kernel
theorem d_K_isBroken_21 : decode prog_2_method_11_code 21 = .ok (.iload_n 2, 1) := by decide +kernel
theorem d_K_isBroken_22 : decode prog_2_method_11_code 22 = .ok (.aload_n 1, 1) := by decide +kernel
theorem d_K_isBroken_23 : decode prog_2_method_11_code 23 = .ok (.getfield 133, 3) := by decide +kernel
theorem d_K_isBroken_26 : decode prog_2_method_11_code 26 = .ok (.invokevirtual 114, 3) := by decide +kernel
theorem d_K_isBroken_29 : decode prog_2_method_11_code 29 = .ok (.aload_n 1, 1) := by decide +kernel
theorem d_K_isBroken_30 : decode prog_2_method_11_code 30 = .ok (.getfield 136, 3) := by decide +kernel
theorem d_K_isBroken_33 : decode prog_2_method_11_code 33 = .ok (.if_icmp .ne (27), 3) := by decide +kernel
theorem d_K_isBroken_36 : decode prog_2_method_11_code 36 = .ok (.aload_n 0, 1) := by decide +kernel
theorem d_K_isBroken_37 : decode prog_2_method_11_code 37 = .ok (.aload_n 1, 1) := by decide +kernel
theorem d_K_isBroken_38 : decode prog_2_method_11_code 38 = .ok (.getfield 124, 3) := by decide +kernel
theorem d_K_isBroken_41 : decode prog_2_method_11_code 41 = .ok (.iload_n 2, 1) := by decide +kernel
theorem d_K_isBroken_42 : decode prog_2_method_11_code 42 = .ok (.aload_n 1, 1) := by decide +kernel
theorem d_K_isBroken_43 : decode prog_2_method_11_code 43 = .ok (.getfield 139, 3) := by decide +kernel
theorem d_K_isBroken_46 : decode prog_2_method_11_code 46 = .ok (.invokevirtual 86, 3) := by decide +kernel
theorem d_K_isBroken_49 : decode prog_2_method_11_code 49 = .ok (.aload_n 1, 1) := by decide +kernel
theorem d_K_isBroken_50 : decode prog_2_method_11_code 50 = .ok (.getfield 142, 3) := by decide +kernel
theorem d_K_isBroken_53 : decode prog_2_method_11_code 53 = .ok (.if_icmp .ne (7), 3) := by decide +kernel
theorem d_K_isBroken_56 : decode prog_2_method_11_code 56 = .ok (.iconst 1, 1) := by decide +kernel
theorem d_K_isBroken_57 : decode prog_2_method_11_code 57 = .ok (.goto (4), 3) := by decide +kernel
theorem d_K_isBroken_60 : decode prog_2_method_11_code 60 = .ok (.iconst 0, 1) := by decide +kernel
theorem d_K_isBroken_61 : decode prog_2_method_11_code 61 = .ok (.ireturn, 1) := by decide +kernel
def Y_K_isBroken : sdY := ("SettingsDesk$Check", prog_2_method_11_code, 3, (some .boolean), .code y_K_isBroken prog_2_method_11_code 3 (some .boolean) :: sdB0, { frames := 3, cells := 0, slots := 0, locals := 68 }, 0, 0, [])
theorem cw_K_isBroken_K_isNothing_86 : sd_cwV Y_K_isBroken Y_K_isNothing y_K_isNothing 86 3 "SettingsDesk$Check" := ⟨sd_goodV q197 q199 q200 q201 q198, ⟨_, rfl⟩, ⟨rfl, rfl, rfl, rfl⟩, ⟨rfl, by decide, by decide, by decide +kernel⟩, ⟨by decide, by decide⟩⟩
theorem cw_K_isBroken_K_whatIs_114 : sd_cwV Y_K_isBroken Y_K_whatIs y_K_whatIs 114 3 "SettingsDesk$Check" := ⟨sd_goodV q211 q213 q214 q201 q212, ⟨_, rfl⟩, ⟨rfl, rfl, rfl, rfl⟩, ⟨rfl, by decide, by decide, by decide +kernel⟩, ⟨by decide, by decide⟩⟩
section
variable {l : Launch} {D : va_G} {dA : Nat → ClassId} {b n : Nat} {ad : Nat → Nat} {L : Nat → sdL} {sc : Option (Nat × Nat × (Nat → Int32))}
def k_K_isBroken_61 (o : Nat) (se : Nat) (tr : Nat) (Q : Int32 → sdM → Prop) (M : sdM) (s0 : Int32) : Prop := sdB s0 ∧ Q s0 M
set_option maxHeartbeats 1000000 in
theorem t_K_isBroken_61 {o : Nat} {se : Nat} {tr : Nat} (hA : sd_ad b n ad) (hT : l.stackTraces = false) (ho : isK n L dA o se tr) {Q : Int32 → sdM → Prop} (M : sdM) (s0 : Int32) (hw : k_K_isBroken_61 o se tr Q M s0) : sdW l (sdE0 sc) Y_K_isBroken D (sd_tys dA) b n ad L ad (sd_H D (sdE0 sc).1 n ad L) (sd_qi Q) sd_xf 61 [] [.int s0] M 0 0 := by
  unfold k_K_isBroken_61 at hw
  exact x_zret d_K_isBroken_61 rfl (sdB_n hw.1) (fun _ h => h) ⟨_, rfl, hw.2⟩
def k_K_isBroken_60 (o : Nat) (se : Nat) (tr : Nat) (Q : Int32 → sdM → Prop) (M : sdM) : Prop := k_K_isBroken_61 o se tr Q M (0 : Int32)
set_option maxHeartbeats 1000000 in
theorem t_K_isBroken_60 {o : Nat} {se : Nat} {tr : Nat} (hA : sd_ad b n ad) (hT : l.stackTraces = false) (ho : isK n L dA o se tr) {Q : Int32 → sdM → Prop} (M : sdM) (hw : k_K_isBroken_60 o se tr Q M ) : sdW l (sdE0 sc) Y_K_isBroken D (sd_tys dA) b n ad L ad (sd_H D (sdE0 sc).1 n ad L) (sd_qi Q) sd_xf 60 [] [] M 0 0 := by
  unfold k_K_isBroken_60 at hw
  refine x_iconst (v := 0) d_K_isBroken_60 (by decide) ?_
  exact t_K_isBroken_61 hA hT ho M (0 : Int32) hw
def w_K_isBroken (o : Nat) (se : Nat) (tr : Nat) (M : sdM) (p1 : Nat) (a2 : Int32) (Q : Int32 → sdM → Prop) : Prop := w_K_isNothing o se tr M (M p1 0) a2 (M p1 1) (fun r8 M7 => (¬ r8 = 0 → k_K_isBroken_60 o se tr Q M7) ∧ (r8 = 0 → w_K_whatIs o se tr M7 (M7 p1 0) a2 (M7 p1 1) (fun r10 M9 => (¬ r10 = (M9 p1 2) → k_K_isBroken_60 o se tr Q M9) ∧ (r10 = (M9 p1 2) → w_K_isNothing o se tr M9 (M9 p1 0) a2 (M9 p1 3) (fun r12 M11 => (¬ r12 = (M11 p1 4) → k_K_isBroken_60 o se tr Q M11) ∧ (r12 = (M11 p1 4) → k_K_isBroken_61 o se tr Q M11 (1 : Int32)))))))
set_option maxHeartbeats 1000000 in
theorem c_K_isBroken {p1 : Nat} {a2 : Int32} {o : Nat} {se : Nat} {tr : Nat} (hA : sd_ad b n ad) (hT : l.stackTraces = false) (ho : isK n L dA o se tr) (hp1 : isR n L p1) {Q : Int32 → sdM → Prop} {M : sdM} (hw : w_K_isBroken o se tr M p1 a2 Q) : sd_Cn l (sdE0 sc) y_K_isBroken Y_K_isBroken.2.2.2.2.1 Y_K_isBroken.2.2.2.2.2.1 0 0 D (sd_tys dA) b n ad L M [.ref o, .ref p1, .int a2] (sd_qi Q) sd_xf := by
  refine sd_enter (Y := Y_K_isBroken) rfl rfl rfl rfl (Nat.le_of_ble_eq_true rfl) ?_
  show sdW l (sdE0 sc) Y_K_isBroken D (sd_tys dA) b n ad L ad (sd_H D (sdE0 sc).1 n ad L) (sd_qi Q) sd_xf 0 [(0, .ref o), (1, .ref p1), (2, .int a2)] [] M 0 0
  unfold w_K_isBroken at hw
  refine x_aload_n 0 0 d_K_isBroken_0 rfl rfl ?_
  refine x_aload_n 1 1 d_K_isBroken_1 rfl rfl ?_
  refine x_geti 0 d_K_isBroken_2 hp1.1 hp1.2 rfl rfl (by decide) lay_R (List.mem_cons_of_mem _ q221) rfl ?_
  refine x_iload_n 2 2 d_K_isBroken_5 rfl rfl ?_
  refine x_aload_n 1 1 d_K_isBroken_6 rfl rfl ?_
  refine x_geti 1 d_K_isBroken_7 hp1.1 hp1.2 rfl rfl (by decide) lay_R (List.mem_cons_of_mem _ q222) rfl ?_
  refine x_callVi (As := [.int (M p1 0), .int a2, .int (M p1 1)]) (t := o) (rest := []) (rc := 0) (rs := 0) (c_K_isNothing hA hT ho hw) cw_K_isBroken_K_isNothing_86 ho.1 ho.2.1 rfl d_K_isBroken_10 rfl rfl (Nat.le_of_ble_eq_true rfl) rfl (fun _ _ h => h.elim) (fun _ _ h => h) (fun r8 M7 hw => ?_)
  refine x_if_ne 60 d_K_isBroken_13 rfl (fun hc => ?_) (fun hc => ?_)
  · have hw := hw.1 hc
    refine x_sub [] [] rfl ?_
    exact t_K_isBroken_60 hA hT ho M7 hw
  · have hw := hw.2 hc
    refine x_aload_n 0 0 d_K_isBroken_16 rfl rfl ?_
    refine x_aload_n 1 1 d_K_isBroken_17 rfl rfl ?_
    refine x_geti 0 d_K_isBroken_18 hp1.1 hp1.2 rfl rfl (by decide) lay_R (List.mem_cons_of_mem _ q221) rfl ?_
    refine x_iload_n 2 2 d_K_isBroken_21 rfl rfl ?_
    refine x_aload_n 1 1 d_K_isBroken_22 rfl rfl ?_
    refine x_geti 1 d_K_isBroken_23 hp1.1 hp1.2 rfl rfl (by decide) lay_R (List.mem_cons_of_mem _ q222) rfl ?_
    refine x_callVi (As := [.int (M7 p1 0), .int a2, .int (M7 p1 1)]) (t := o) (rest := []) (rc := 0) (rs := 0) (c_K_whatIs hA hT ho hw) cw_K_isBroken_K_whatIs_114 ho.1 ho.2.1 rfl d_K_isBroken_26 rfl rfl (Nat.le_of_ble_eq_true rfl) rfl (fun _ _ h => h.elim) (fun _ _ h => h) (fun r10 M9 hw => ?_)
    refine x_aload_n 1 1 d_K_isBroken_29 rfl rfl ?_
    refine x_geti 2 d_K_isBroken_30 hp1.1 hp1.2 rfl rfl (by decide) lay_R (List.mem_cons_of_mem _ q223) rfl ?_
    refine x_icmp_ne 60 d_K_isBroken_33 rfl (fun hc => ?_) (fun hc => ?_)
    · have hw := hw.1 hc
      refine x_sub [] [] rfl ?_
      exact t_K_isBroken_60 hA hT ho M9 hw
    · have hw := hw.2 hc
      refine x_aload_n 0 0 d_K_isBroken_36 rfl rfl ?_
      refine x_aload_n 1 1 d_K_isBroken_37 rfl rfl ?_
      refine x_geti 0 d_K_isBroken_38 hp1.1 hp1.2 rfl rfl (by decide) lay_R (List.mem_cons_of_mem _ q221) rfl ?_
      refine x_iload_n 2 2 d_K_isBroken_41 rfl rfl ?_
      refine x_aload_n 1 1 d_K_isBroken_42 rfl rfl ?_
      refine x_geti 3 d_K_isBroken_43 hp1.1 hp1.2 rfl rfl (by decide) lay_R (List.mem_cons_of_mem _ q224) rfl ?_
      refine x_callVi (As := [.int (M9 p1 0), .int a2, .int (M9 p1 3)]) (t := o) (rest := []) (rc := 0) (rs := 0) (c_K_isNothing hA hT ho hw) cw_K_isBroken_K_isNothing_86 ho.1 ho.2.1 rfl d_K_isBroken_46 rfl rfl (Nat.le_of_ble_eq_true rfl) rfl (fun _ _ h => h.elim) (fun _ _ h => h) (fun r12 M11 hw => ?_)
      refine x_aload_n 1 1 d_K_isBroken_49 rfl rfl ?_
      refine x_geti 4 d_K_isBroken_50 hp1.1 hp1.2 rfl rfl (by decide) lay_R (List.mem_cons_of_mem _ q225) rfl ?_
      refine x_icmp_ne 60 d_K_isBroken_53 rfl (fun hc => ?_) (fun hc => ?_)
      · have hw := hw.1 hc
        refine x_sub [] [] rfl ?_
        exact t_K_isBroken_60 hA hT ho M11 hw
      · have hw := hw.2 hc
        refine x_iconst (v := 1) d_K_isBroken_56 (by decide) ?_
        refine x_goto 61 d_K_isBroken_57 rfl ?_
        refine x_sub [] [] rfl ?_
        exact t_K_isBroken_61 hA hT ho M11 (1 : Int32) hw
end
theorem q226 : (.fieldLink "SettingsDesk$Check" 117 "SettingsDesk$Schema" "ruleCount" "I" : Cond) ∈ sdB0 := sd_tb1 115 rfl rfl
theorem q227 : (.fieldLink "SettingsDesk$Check" 120 "SettingsDesk$Schema" "rules" "[LSettingsDesk$Rule;" : Cond) ∈ sdB0 := sd_tb1 117 rfl rfl
theorem q228 : (.methodLink "SettingsDesk$Check" 129 ⟨"SettingsDesk$Check", "isBroken", "(LSettingsDesk$Rule;I)Z"⟩ : Cond) ∈ sdB0 := sd_tb3 77 rfl rfl
theorem q229 : (.code ⟨"SettingsDesk$Check", "isBroken", "(LSettingsDesk$Rule;I)Z"⟩ prog_2_method_11_code 3 (some .boolean) : Cond) ∈ sdB0 := sd_tb3 80 rfl rfl
theorem q230 : (.instanceMethod ⟨"SettingsDesk$Check", "isBroken", "(LSettingsDesk$Rule;I)Z"⟩ : Cond) ∈ sdB0 := sd_tb3 78 rfl rfl
theorem q231 : (.selects "SettingsDesk$Check" ⟨"SettingsDesk$Check", "isBroken", "(LSettingsDesk$Rule;I)Z"⟩ ⟨"SettingsDesk$Check", "isBroken", "(LSettingsDesk$Rule;I)Z"⟩ : Cond) ∈ sdB0 := sd_tb3 79 rfl rfl
abbrev y_K_breaksRule : MethodName := ⟨"SettingsDesk$Check", "breaksRule", "(II)Z"⟩
theorem d_K_breaksRule_0 : decode prog_2_method_10_code 0 = .ok (.iconst 0, 1) := by decide +kernel
theorem d_K_breaksRule_1 : decode prog_2_method_10_code 1 = .ok (.istore_n 3, 1) := by decide +kernel
theorem d_K_breaksRule_2 : decode prog_2_method_10_code 2 = .ok (.iload_n 3, 1) := by decide +kernel
theorem d_K_breaksRule_3 : decode prog_2_method_10_code 3 = .ok (.aload_n 0, 1) := by decide +kernel
theorem d_K_breaksRule_4 : decode prog_2_method_10_code 4 = .ok (.getfield 9, 3) := by decide +kernel
theorem d_K_breaksRule_7 : decode prog_2_method_10_code 7 = .ok (.getfield 117, 3) := by decide +kernel
theorem d_K_breaksRule_10 : decode prog_2_method_10_code 10 = .ok (.if_icmp .ge (60), 3) := by decide +kernel
theorem d_K_breaksRule_13 : decode prog_2_method_10_code 13 = .ok (.aload_n 0, 1) := by decide +kernel
theorem d_K_breaksRule_14 : decode prog_2_method_10_code 14 = .ok (.getfield 9, 3) := by decide +kernel
theorem d_K_breaksRule_17 : decode prog_2_method_10_code 17 = .ok (.getfield 120, 3) := by decide +kernel
theorem d_K_breaksRule_20 : decode prog_2_method_10_code 20 = .ok (.iload_n 3, 1) := by decide +kernel
theorem d_K_breaksRule_21 : decode prog_2_method_10_code 21 = .ok (.aaload, 1) := by decide +kernel
theorem d_K_breaksRule_22 : decode prog_2_method_10_code 22 = .ok (.astore 4, 2) := by decide +kernel
theorem d_K_breaksRule_24 : decode prog_2_method_10_code 24 = .ok (.aload 4, 2) := by decide +kernel
theorem d_K_breaksRule_26 : decode prog_2_method_10_code 26 = .ok (.getfield 124, 3) := by decide +kernel
theorem d_K_breaksRule_29 : decode prog_2_method_10_code 29 = .ok (.iload_n 1, 1) := by decide +kernel
theorem d_K_breaksRule_30 : decode prog_2_method_10_code 30 = .ok (.if_icmp .ne (34), 3) := by decide +kernel
theorem d_K_breaksRule_33 : decode prog_2_method_10_code 33 = .ok (.aload_n 0, 1) := by decide +kernel
theorem d_K_breaksRule_34 : decode prog_2_method_10_code 34 = .ok (.aload 4, 2) := by decide +kernel
theorem d_K_breaksRule_36 : decode prog_2_method_10_code 36 = .ok (.iload_n 2, 1) := by decide +kernel
theorem d_K_breaksRule_37 : decode prog_2_method_10_code 37 = .ok (.invokevirtual 129, 3) := by decide +kernel
theorem d_K_breaksRule_40 : decode prog_2_method_10_code 40 = .ok (.ifCond .eq (24), 3) := by decide +kernel
theorem d_K_breaksRule_43 : decode prog_2_method_10_code 43 = .ok (.aload_n 0, 1) := by decide +kernel
theorem d_K_breaksRule_44 : decode prog_2_method_10_code 44 = .ok (.getfield 19, 3) := by decide +kernel
theorem d_K_breaksRule_47 : decode prog_2_method_10_code 47 = .ok (.iconst 4, 1) := by decide +kernel
theorem d_K_breaksRule_48 : decode prog_2_method_10_code 48 = .ok (.iload_n 1, 1) := by decide +kernel
theorem d_K_breaksRule_49 : decode prog_2_method_10_code 49 = .ok (.aload_n 0, 1) := by decide +kernel
theorem d_K_breaksRule_50 : decode prog_2_method_10_code 50 = .ok (.getfield 15, 3) := by decide +kernel
theorem d_K_breaksRule_53 : decode prog_2_method_10_code 53 = .ok (.getfield 89, 3) := by decide +kernel
theorem d_K_breaksRule_56 : decode prog_2_method_10_code 56 = .ok (.iload_n 2, 1) := by decide +kernel
theorem d_K_breaksRule_57 : decode prog_2_method_10_code 57 = .ok (.iaload, 1) := by decide +kernel
theorem d_K_breaksRule_58 : decode prog_2_method_10_code 58 = .ok (.iload_n 3, 1) := by decide +kernel
theorem d_K_breaksRule_59 : decode prog_2_method_10_code 59 = .ok (.invokevirtual 59, 3) := by decide +kernel
theorem d_K_breaksRule_62 : decode prog_2_method_10_code 62 = .ok (.iconst 1, 1) := by decide +kernel
theorem d_K_breaksRule_63 : decode prog_2_method_10_code 63 = .ok (.ireturn, 1) := by decide +kernel
theorem d_K_breaksRule_64 : decode prog_2_method_10_code 64 = .ok (.iinc 3 (1), 3) := by decide +kernel
theorem d_K_breaksRule_67 : decode prog_2_method_10_code 67 = .ok (.goto (-65), 3) := by decide +kernel
theorem d_K_breaksRule_70 : decode prog_2_method_10_code 70 = .ok (.iconst 0, 1) := by decide +kernel
theorem d_K_breaksRule_71 : decode prog_2_method_10_code 71 = .ok (.ireturn, 1) := by decide +kernel
def Y_K_breaksRule : sdY := ("SettingsDesk$Check", prog_2_method_10_code, 5, (some .boolean), .code y_K_breaksRule prog_2_method_10_code 5 (some .boolean) :: sdB0, { frames := 4, cells := 0, slots := 0, locals := 90 }, 0, 0, [])
theorem cw_K_breaksRule_K_isBroken_129 : sd_cwV Y_K_breaksRule Y_K_isBroken y_K_isBroken 129 2 "SettingsDesk$Check" := ⟨sd_goodV q228 q230 q231 q201 q229, ⟨_, rfl⟩, ⟨rfl, rfl, rfl, rfl⟩, ⟨rfl, by decide, by decide, by decide +kernel⟩, ⟨by decide, by decide⟩⟩
theorem cw_K_breaksRule_T_note_59 : sd_cwV Y_K_breaksRule Y_T_note y_T_note 59 4 "SettingsDesk$Trouble" := ⟨sd_goodV q188 q121 q122 q123 q120, ⟨_, rfl⟩, ⟨rfl, rfl, rfl, rfl⟩, ⟨rfl, by decide, by decide, by decide +kernel⟩, ⟨by decide, by decide⟩⟩
section
variable {l : Launch} {D : va_G} {dA : Nat → ClassId} {b n : Nat} {ad : Nat → Nat} {L : Nat → sdL} {sc : Option (Nat × Nat × (Nat → Int32))}
def k_K_breaksRule_64 (o : Nat) (se : Nat) (tr : Nat) (Q : Int32 → sdM → Prop) (k2 : sdM → Int32 → Int32 → Int32 → Prop) (M : sdM) (x1 : Int32) (x2 : Int32) (x3 : Int32) : Prop := k2 M x1 x2 (x3 + 1)
set_option maxHeartbeats 1000000 in
theorem t_K_breaksRule_64 {o : Nat} {se : Nat} {tr : Nat} (hA : sd_ad b n ad) (hT : l.stackTraces = false) (ho : isK n L dA o se tr) {Q : Int32 → sdM → Prop} {k2 : sdM → Int32 → Int32 → Int32 → Prop} (hk2 : ∀ (M : sdM) (x1 : Int32) (x2 : Int32) (x3 : Int32), k2 M x1 x2 x3 → sdW l (sdE0 sc) Y_K_breaksRule D (sd_tys dA) b n ad L ad (sd_H D (sdE0 sc).1 n ad L) (sd_qi Q) sd_xf 2 [(0, .ref o), (1, .int x1), (2, .int x2), (3, .int x3)] [] M 0 0) (M : sdM) (x1 : Int32) (x2 : Int32) (x3 : Int32) (hw : k_K_breaksRule_64 o se tr Q k2 M x1 x2 x3) : sdW l (sdE0 sc) Y_K_breaksRule D (sd_tys dA) b n ad L ad (sd_H D (sdE0 sc).1 n ad L) (sd_qi Q) sd_xf 64 [(0, .ref o), (1, .int x1), (2, .int x2), (3, .int x3)] [] M 0 0 := by
  unfold k_K_breaksRule_64 at hw
  refine x_iinc 3 3 [(3, .int (x3 + 1)), (0, .ref o), (1, .int x1), (2, .int x2)] d_K_breaksRule_64 rfl (congrArg (HAdd.hAdd x3) (show Int32.ofInt 1 = 1 by decide)) (by decide) rfl ?_
  refine x_goto 2 d_K_breaksRule_67 rfl ?_
  refine x_sub [1, 2, 3, 0] [(0, .ref o), (1, .int x1), (2, .int x2), (3, .int (x3 + 1))] rfl ?_
  exact hk2 M x1 x2 (x3 + 1) hw
def h_K_breaksRule_2 (o : Nat) (se : Nat) (tr : Nat) (Q : Int32 → sdM → Prop) : Nat → sdM → Int32 → Int32 → Int32 → Prop
  | 0, _, _, _, _ => False
  | N + 1, M, x1, x2, x3 => ((M 1 4) ≤ x3 → sdB (0 : Int32) ∧ Q (0 : Int32) M) ∧ (¬ (M 1 4) ≤ x3 → vp_in x3 4 ∧ (¬ (M (21 + x3.toNatClampNeg) 0) = x1 → k_K_breaksRule_64 o se tr Q (fun M x1 x2 x3 => h_K_breaksRule_2 o se tr Q N M x1 x2 x3) M x1 x2 x3) ∧ ((M (21 + x3.toNatClampNeg) 0) = x1 → w_K_isBroken o se tr M (21 + x3.toNatClampNeg) x2 (fun r8 M7 => (r8 = 0 → k_K_breaksRule_64 o se tr Q (fun M x1 x2 x3 => h_K_breaksRule_2 o se tr Q N M x1 x2 x3) M7 x1 x2 x3) ∧ (¬ r8 = 0 → vp_in x2 48 ∧ w_T_note tr M7 (4 : Int32) x1 (M7 (se + 2) x2.toNatClampNeg) x3 (fun M10 => sdB (1 : Int32) ∧ Q (1 : Int32) M10)))))
set_option maxHeartbeats 1000000 in
theorem t_K_breaksRule_2 {o : Nat} {se : Nat} {tr : Nat} (hA : sd_ad b n ad) (hT : l.stackTraces = false) (ho : isK n L dA o se tr) {Q : Int32 → sdM → Prop} (N : Nat) : ∀ (M : sdM) (x1 : Int32) (x2 : Int32) (x3 : Int32), h_K_breaksRule_2 o se tr Q N M x1 x2 x3 → sdW l (sdE0 sc) Y_K_breaksRule D (sd_tys dA) b n ad L ad (sd_H D (sdE0 sc).1 n ad L) (sd_qi Q) sd_xf 2 [(0, .ref o), (1, .int x1), (2, .int x2), (3, .int x3)] [] M 0 0 := by
  induction N with
  | zero => intro M x1 x2 x3 hw; exact hw.elim
  | succ N ih =>
    intro M x1 x2 x3 hw
    rw [h_K_breaksRule_2] at hw
    refine x_iload_n 3 3 d_K_breaksRule_2 rfl rfl ?_
    refine x_aload_n 0 0 d_K_breaksRule_3 rfl rfl ?_
    refine x_getr 0 1 d_K_breaksRule_4 ho.1 ho.2.1 rfl rfl (by decide) lay_K (List.mem_cons_of_mem _ q179) rfl ?_
    refine x_geti 4 d_K_breaksRule_7 ho.schema.1 ho.schema.2.1 rfl rfl (by decide) lay_C (List.mem_cons_of_mem _ q226) rfl ?_
    refine x_icmp_ge 70 d_K_breaksRule_10 rfl (fun hc => ?_) (fun hc => ?_)
    · have hw := hw.1 hc
      refine x_iconst (v := 0) d_K_breaksRule_70 (by decide) ?_
      exact x_zret d_K_breaksRule_71 rfl (sdB_n hw.1) (fun _ h => h) ⟨_, rfl, hw.2⟩
    · have hw := hw.2 hc
      refine x_aload_n 0 0 d_K_breaksRule_13 rfl rfl ?_
      refine x_getr 0 1 d_K_breaksRule_14 ho.1 ho.2.1 rfl rfl (by decide) lay_K (List.mem_cons_of_mem _ q179) rfl ?_
      refine x_getr 5 4 d_K_breaksRule_17 ho.schema.1 ho.schema.2.1 rfl rfl (by decide) lay_C (List.mem_cons_of_mem _ q227) rfl ?_
      refine x_iload_n 3 3 d_K_breaksRule_20 rfl rfl ?_
      obtain ⟨hi6, hw⟩ := hw
      refine x_aald (21 + x3.toNatClampNeg) d_K_breaksRule_21 ho.schema.rules.1 ho.schema.rules.2 (t0 := 4) rfl hi6 rfl ?_
      refine x_astore 4 [(4, .ref (21 + x3.toNatClampNeg)), (0, .ref o), (1, .int x1), (2, .int x2), (3, .int x3)] d_K_breaksRule_22 (by decide) rfl ?_
      refine x_aload 4 0 d_K_breaksRule_24 rfl ?_
      refine x_geti 0 d_K_breaksRule_26 (ho.schema.rulesAt hi6).1 (ho.schema.rulesAt hi6).2 rfl rfl (by decide) lay_R (List.mem_cons_of_mem _ q221) rfl ?_
      refine x_iload_n 1 2 d_K_breaksRule_29 rfl rfl ?_
      refine x_icmp_ne 64 d_K_breaksRule_30 rfl (fun hc => ?_) (fun hc => ?_)
      · have hw := hw.1 hc
        refine x_sub [1, 2, 3, 4] [(0, .ref o), (1, .int x1), (2, .int x2), (3, .int x3)] rfl ?_
        exact t_K_breaksRule_64 hA hT ho (fun M x1 x2 x3  hw => ih M x1 x2 x3 hw) M x1 x2 x3 hw
      · have hw := hw.2 hc
        refine x_aload_n 0 1 d_K_breaksRule_33 rfl rfl ?_
        refine x_aload 4 0 d_K_breaksRule_34 rfl ?_
        refine x_iload_n 2 3 d_K_breaksRule_36 rfl rfl ?_
        refine x_callVi (As := [.ref (21 + x3.toNatClampNeg), .int x2]) (t := o) (rest := []) (rc := 0) (rs := 0) (c_K_isBroken hA hT ho (ho.schema.rulesAt hi6) hw) cw_K_breaksRule_K_isBroken_129 ho.1 ho.2.1 rfl d_K_breaksRule_37 rfl rfl (Nat.le_of_ble_eq_true rfl) rfl (fun _ _ h => h.elim) (fun _ _ h => h) (fun r8 M7 hw => ?_)
        refine x_if_eq 64 d_K_breaksRule_40 rfl (fun hc => ?_) (fun hc => ?_)
        · have hw := hw.1 hc
          refine x_sub [1, 2, 3, 4] [(0, .ref o), (1, .int x1), (2, .int x2), (3, .int x3)] rfl ?_
          exact t_K_breaksRule_64 hA hT ho (fun M x1 x2 x3  hw => ih M x1 x2 x3 hw) M7 x1 x2 x3 hw
        · have hw := hw.2 hc
          refine x_aload_n 0 1 d_K_breaksRule_43 rfl rfl ?_
          refine x_getr 2 tr d_K_breaksRule_44 ho.1 ho.2.1 rfl rfl (by decide) lay_K (List.mem_cons_of_mem _ q181) rfl ?_
          refine x_iconst (v := 4) d_K_breaksRule_47 (by decide) ?_
          refine x_iload_n 1 2 d_K_breaksRule_48 rfl rfl ?_
          refine x_aload_n 0 1 d_K_breaksRule_49 rfl rfl ?_
          refine x_getr 1 se d_K_breaksRule_50 ho.1 ho.2.1 rfl rfl (by decide) lay_K (List.mem_cons_of_mem _ q180) rfl ?_
          refine x_getr 1 (se + 2) d_K_breaksRule_53 ho.settings.1 ho.settings.2.1 rfl rfl (by decide) lay_S (List.mem_cons_of_mem _ q196) rfl ?_
          refine x_iload_n 2 3 d_K_breaksRule_56 rfl rfl ?_
          obtain ⟨hi9, hw⟩ := hw
          refine x_iald d_K_breaksRule_57 ho.settings.keys.1 ho.settings.keys.2 rfl hi9 ?_
          refine x_iload_n 3 4 d_K_breaksRule_58 rfl rfl ?_
          refine x_callVv (As := [.int (4 : Int32), .int x1, .int (M7 (se + 2) x2.toNatClampNeg), .int x3]) (t := tr) (rest := []) (rc := 0) (rs := 0) (c_T_note hA hT ho.trouble hw) cw_K_breaksRule_T_note_59 ho.trouble.1 ho.trouble.2 rfl d_K_breaksRule_59 rfl rfl (Nat.le_of_ble_eq_true rfl) rfl (fun _ _ h => h.elim) (fun _ _ h => h) (fun M10 hw => ?_)
          refine x_iconst (v := 1) d_K_breaksRule_62 (by decide) ?_
          exact x_zret d_K_breaksRule_63 rfl (sdB_n hw.1) (fun _ h => h) ⟨_, rfl, hw.2⟩
def w_K_breaksRule (o : Nat) (se : Nat) (tr : Nat) (M : sdM) (a1 : Int32) (a2 : Int32) (Q : Int32 → sdM → Prop) : Prop := ∃ N9 : Nat, h_K_breaksRule_2 o se tr Q N9 M a1 a2 (0 : Int32)
set_option maxHeartbeats 1000000 in
theorem c_K_breaksRule {a1 : Int32} {a2 : Int32} {o : Nat} {se : Nat} {tr : Nat} (hA : sd_ad b n ad) (hT : l.stackTraces = false) (ho : isK n L dA o se tr) {Q : Int32 → sdM → Prop} {M : sdM} (hw : w_K_breaksRule o se tr M a1 a2 Q) : sd_Cn l (sdE0 sc) y_K_breaksRule Y_K_breaksRule.2.2.2.2.1 Y_K_breaksRule.2.2.2.2.2.1 0 0 D (sd_tys dA) b n ad L M [.ref o, .int a1, .int a2] (sd_qi Q) sd_xf := by
  refine sd_enter (Y := Y_K_breaksRule) rfl rfl rfl rfl (Nat.le_of_ble_eq_true rfl) ?_
  show sdW l (sdE0 sc) Y_K_breaksRule D (sd_tys dA) b n ad L ad (sd_H D (sdE0 sc).1 n ad L) (sd_qi Q) sd_xf 0 [(0, .ref o), (1, .int a1), (2, .int a2)] [] M 0 0
  unfold w_K_breaksRule at hw
  refine x_iconst (v := 0) d_K_breaksRule_0 (by decide) ?_
  refine x_istore_n 3 [(3, .int (0 : Int32)), (0, .ref o), (1, .int a1), (2, .int a2)] d_K_breaksRule_1 rfl (by decide) rfl ?_
  refine x_sub [1, 2, 3, 0] [(0, .ref o), (1, .int a1), (2, .int a2), (3, .int (0 : Int32))] rfl ?_
  obtain ⟨N9, hw⟩ := hw
  exact t_K_breaksRule_2 hA hT ho N9 M a1 a2 (0 : Int32) hw
end
theorem q232 : (.methodLink "SettingsDesk$Check" 23 ⟨"SettingsDesk$Check", "isCrowded", "()Z"⟩ : Cond) ∈ sdB0 := sd_tb3 24 rfl rfl
theorem q233 : (.code ⟨"SettingsDesk$Check", "isCrowded", "()Z"⟩ prog_2_method_3_code 2 (some .boolean) : Cond) ∈ sdB0 := sd_tb3 27 rfl rfl
theorem q234 : (.instanceMethod ⟨"SettingsDesk$Check", "isCrowded", "()Z"⟩ : Cond) ∈ sdB0 := sd_tb3 25 rfl rfl
theorem q235 : (.selects "SettingsDesk$Check" ⟨"SettingsDesk$Check", "isCrowded", "()Z"⟩ ⟨"SettingsDesk$Check", "isCrowded", "()Z"⟩ : Cond) ∈ sdB0 := sd_tb3 26 rfl rfl
theorem q236 : (.methodLink "SettingsDesk$Check" 39 ⟨"SettingsDesk$Settings", "endRow", "(I)I"⟩ : Cond) ∈ sdB0 := sd_tb3 33 rfl rfl
theorem q237 : (.methodLink "SettingsDesk$Check" 42 ⟨"SettingsDesk$Check", "lacksLeaf", "(II)Z"⟩ : Cond) ∈ sdB0 := sd_tb3 34 rfl rfl
theorem q238 : (.code ⟨"SettingsDesk$Check", "lacksLeaf", "(II)Z"⟩ prog_2_method_6_code 4 (some .boolean) : Cond) ∈ sdB0 := sd_tb3 37 rfl rfl
theorem q239 : (.instanceMethod ⟨"SettingsDesk$Check", "lacksLeaf", "(II)Z"⟩ : Cond) ∈ sdB0 := sd_tb3 35 rfl rfl
theorem q240 : (.selects "SettingsDesk$Check" ⟨"SettingsDesk$Check", "lacksLeaf", "(II)Z"⟩ ⟨"SettingsDesk$Check", "lacksLeaf", "(II)Z"⟩ : Cond) ∈ sdB0 := sd_tb3 36 rfl rfl
theorem q241 : (.methodLink "SettingsDesk$Check" 46 ⟨"SettingsDesk$Check", "pointsNowhere", "(II)Z"⟩ : Cond) ∈ sdB0 := sd_tb3 47 rfl rfl
theorem q242 : (.code ⟨"SettingsDesk$Check", "pointsNowhere", "(II)Z"⟩ prog_2_method_7_code 5 (some .boolean) : Cond) ∈ sdB0 := sd_tb3 50 rfl rfl
theorem q243 : (.instanceMethod ⟨"SettingsDesk$Check", "pointsNowhere", "(II)Z"⟩ : Cond) ∈ sdB0 := sd_tb3 48 rfl rfl
theorem q244 : (.selects "SettingsDesk$Check" ⟨"SettingsDesk$Check", "pointsNowhere", "(II)Z"⟩ ⟨"SettingsDesk$Check", "pointsNowhere", "(II)Z"⟩ : Cond) ∈ sdB0 := sd_tb3 49 rfl rfl
theorem q245 : (.methodLink "SettingsDesk$Check" 49 ⟨"SettingsDesk$Check", "repeatsLeaf", "(II)Z"⟩ : Cond) ∈ sdB0 := sd_tb3 57 rfl rfl
theorem q246 : (.code ⟨"SettingsDesk$Check", "repeatsLeaf", "(II)Z"⟩ prog_2_method_8_code 4 (some .boolean) : Cond) ∈ sdB0 := sd_tb3 60 rfl rfl
theorem q247 : (.instanceMethod ⟨"SettingsDesk$Check", "repeatsLeaf", "(II)Z"⟩ : Cond) ∈ sdB0 := sd_tb3 58 rfl rfl
theorem q248 : (.selects "SettingsDesk$Check" ⟨"SettingsDesk$Check", "repeatsLeaf", "(II)Z"⟩ ⟨"SettingsDesk$Check", "repeatsLeaf", "(II)Z"⟩ : Cond) ∈ sdB0 := sd_tb3 59 rfl rfl
theorem q249 : (.methodLink "SettingsDesk$Check" 52 ⟨"SettingsDesk$Check", "breaksRule", "(II)Z"⟩ : Cond) ∈ sdB0 := sd_tb3 73 rfl rfl
theorem q250 : (.code ⟨"SettingsDesk$Check", "breaksRule", "(II)Z"⟩ prog_2_method_10_code 5 (some .boolean) : Cond) ∈ sdB0 := sd_tb3 76 rfl rfl
theorem q251 : (.instanceMethod ⟨"SettingsDesk$Check", "breaksRule", "(II)Z"⟩ : Cond) ∈ sdB0 := sd_tb3 74 rfl rfl
theorem q252 : (.selects "SettingsDesk$Check" ⟨"SettingsDesk$Check", "breaksRule", "(II)Z"⟩ ⟨"SettingsDesk$Check", "breaksRule", "(II)Z"⟩ : Cond) ∈ sdB0 := sd_tb3 75 rfl rfl
abbrev y_K_passes : MethodName := ⟨"SettingsDesk$Check", "passes", "()Z"⟩
theorem d_K_passes_0 : decode prog_2_method_2_code 0 = .ok (.aload_n 0, 1) := by decide +kernel
theorem d_K_passes_1 : decode prog_2_method_2_code 1 = .ok (.invokevirtual 23, 3) := by decide +kernel
theorem d_K_passes_4 : decode prog_2_method_2_code 4 = .ok (.ifCond .eq (5), 3) := by decide +kernel
theorem d_K_passes_7 : decode prog_2_method_2_code 7 = .ok (.iconst 0, 1) := by decide +kernel
theorem d_K_passes_8 : decode prog_2_method_2_code 8 = .ok (.ireturn, 1) := by decide +kernel
theorem d_K_passes_9 : decode prog_2_method_2_code 9 = .ok (.iconst 0, 1) := by decide +kernel
theorem d_K_passes_10 : decode prog_2_method_2_code 10 = .ok (.istore_n 1, 1) := by decide +kernel
theorem d_K_passes_11 : decode prog_2_method_2_code 11 = .ok (.iload_n 1, 1) := by decide +kernel
theorem d_K_passes_12 : decode prog_2_method_2_code 12 = .ok (.aload_n 0, 1) := by decide +kernel
theorem d_K_passes_13 : decode prog_2_method_2_code 13 = .ok (.getfield 9, 3) := by decide +kernel
theorem d_K_passes_16 : decode prog_2_method_2_code 16 = .ok (.getfield 27, 3) := by decide +kernel
theorem d_K_passes_19 : decode prog_2_method_2_code 19 = .ok (.if_icmp .ge (74), 3) := by decide +kernel
theorem d_K_passes_22 : decode prog_2_method_2_code 22 = .ok (.aload_n 0, 1) := by decide +kernel
theorem d_K_passes_23 : decode prog_2_method_2_code 23 = .ok (.getfield 15, 3) := by decide +kernel
theorem d_K_passes_26 : decode prog_2_method_2_code 26 = .ok (.iload_n 1, 1) := by decide +kernel
theorem d_K_passes_27 : decode prog_2_method_2_code 27 = .ok (.invokevirtual 33, 3) := by decide +kernel
theorem d_K_passes_30 : decode prog_2_method_2_code 30 = .ok (.istore_n 2, 1) := by decide +kernel
theorem d_K_passes_31 : decode prog_2_method_2_code 31 = .ok (.iload_n 2, 1) := by decide +kernel
theorem d_K_passes_32 : decode prog_2_method_2_code 32 = .ok (.aload_n 0, 1) := by decide +kernel
theorem d_K_passes_33 : decode prog_2_method_2_code 33 = .ok (.getfield 15, 3) := by decide +kernel
theorem d_K_passes_36 : decode prog_2_method_2_code 36 = .ok (.iload_n 1, 1) := by decide +kernel
theorem d_K_passes_37 : decode prog_2_method_2_code 37 = .ok (.invokevirtual 39, 3) := by decide +kernel
theorem d_K_passes_40 : decode prog_2_method_2_code 40 = .ok (.if_icmp .ge (47), 3) := by decide +kernel
theorem d_K_passes_43 : decode prog_2_method_2_code 43 = .ok (.aload_n 0, 1) := by decide +kernel
theorem d_K_passes_44 : decode prog_2_method_2_code 44 = .ok (.iload_n 1, 1) := by decide +kernel
theorem d_K_passes_45 : decode prog_2_method_2_code 45 = .ok (.iload_n 2, 1) := by decide +kernel
theorem d_K_passes_46 : decode prog_2_method_2_code 46 = .ok (.invokevirtual 42, 3) := by decide +kernel
theorem d_K_passes_49 : decode prog_2_method_2_code 49 = .ok (.ifCond .ne (30), 3) := by decide +kernel
theorem d_K_passes_52 : decode prog_2_method_2_code 52 = .ok (.aload_n 0, 1) := by decide +kernel
theorem d_K_passes_53 : decode prog_2_method_2_code 53 = .ok (.iload_n 1, 1) := by decide +kernel
theorem d_K_passes_54 : decode prog_2_method_2_code 54 = .ok (.iload_n 2, 1) := by decide +kernel
theorem d_K_passes_55 : decode prog_2_method_2_code 55 = .ok (.invokevirtual 46, 3) := by decide +kernel
theorem d_K_passes_58 : decode prog_2_method_2_code 58 = .ok (.ifCond .ne (21), 3) := by decide +kernel
theorem d_K_passes_61 : decode prog_2_method_2_code 61 = .ok (.aload_n 0, 1) := by decide +kernel
theorem d_K_passes_62 : decode prog_2_method_2_code 62 = .ok (.iload_n 1, 1) := by decide +kernel
theorem d_K_passes_63 : decode prog_2_method_2_code 63 = .ok (.iload_n 2, 1) := by decide +kernel
theorem d_K_passes_64 : decode prog_2_method_2_code 64 = .ok (.invokevirtual 49, 3) := by decide +kernel
theorem d_K_passes_67 : decode prog_2_method_2_code 67 = .ok (.ifCond .ne (12), 3) := by decide +kernel
theorem d_K_passes_70 : decode prog_2_method_2_code 70 = .ok (.aload_n 0, 1) := by decide +kernel
theorem d_K_passes_71 : decode prog_2_method_2_code 71 = .ok (.iload_n 1, 1) := by decide +kernel
theorem d_K_passes_72 : decode prog_2_method_2_code 72 = .ok (.iload_n 2, 1) := by decide +kernel
theorem d_K_passes_73 : decode prog_2_method_2_code 73 = .ok (.invokevirtual 52, 3) := by decide +kernel
theorem d_K_passes_76 : decode prog_2_method_2_code 76 = .ok (.ifCond .eq (5), 3) := by decide +kernel
theorem d_K_passes_79 : decode prog_2_method_2_code 79 = .ok (.iconst 0, 1) := by decide +kernel
theorem d_K_passes_80 : decode prog_2_method_2_code 80 = .ok (.ireturn, 1) := by decide +kernel
theorem d_K_passes_81 : decode prog_2_method_2_code 81 = .ok (.iinc 2 (1), 3) := by decide +kernel
theorem d_K_passes_84 : decode prog_2_method_2_code 84 = .ok (.goto (-53), 3) := by decide +kernel
theorem d_K_passes_87 : decode prog_2_method_2_code 87 = .ok (.iinc 1 (1), 3) := by decide +kernel
theorem d_K_passes_90 : decode prog_2_method_2_code 90 = .ok (.goto (-79), 3) := by decide +kernel
theorem d_K_passes_93 : decode prog_2_method_2_code 93 = .ok (.iconst 1, 1) := by decide +kernel
theorem d_K_passes_94 : decode prog_2_method_2_code 94 = .ok (.ireturn, 1) := by decide +kernel
def Y_K_passes : sdY := ("SettingsDesk$Check", prog_2_method_2_code, 3, (some .boolean), .code y_K_passes prog_2_method_2_code 3 (some .boolean) :: sdB0, { frames := 5, cells := 0, slots := 0, locals := 116 }, 0, 0, [])
theorem cw_K_passes_K_isCrowded_23 : sd_cwV Y_K_passes Y_K_isCrowded y_K_isCrowded 23 0 "SettingsDesk$Check" := ⟨sd_goodV q232 q234 q235 q201 q233, ⟨_, rfl⟩, ⟨rfl, rfl, rfl, rfl⟩, ⟨rfl, by decide, by decide, by decide +kernel⟩, ⟨by decide, by decide⟩⟩
theorem cw_K_passes_S_firstRow_33 : sd_cwV Y_K_passes Y_S_firstRow y_S_firstRow 33 1 "SettingsDesk$Settings" := ⟨sd_goodV q215 q19 q20 q7 q18, ⟨_, rfl⟩, ⟨rfl, rfl, rfl, rfl⟩, ⟨rfl, by decide, by decide, by decide +kernel⟩, ⟨by decide, by decide⟩⟩
theorem cw_K_passes_S_endRow_39 : sd_cwV Y_K_passes Y_S_endRow y_S_endRow 39 1 "SettingsDesk$Settings" := ⟨sd_goodV q236 q23 q24 q7 q22, ⟨_, rfl⟩, ⟨rfl, rfl, rfl, rfl⟩, ⟨rfl, by decide, by decide, by decide +kernel⟩, ⟨by decide, by decide⟩⟩
theorem cw_K_passes_K_lacksLeaf_42 : sd_cwV Y_K_passes Y_K_lacksLeaf y_K_lacksLeaf 42 2 "SettingsDesk$Check" := ⟨sd_goodV q237 q239 q240 q201 q238, ⟨_, rfl⟩, ⟨rfl, rfl, rfl, rfl⟩, ⟨rfl, by decide, by decide, by decide +kernel⟩, ⟨by decide, by decide⟩⟩
theorem cw_K_passes_K_pointsNowhere_46 : sd_cwV Y_K_passes Y_K_pointsNowhere y_K_pointsNowhere 46 2 "SettingsDesk$Check" := ⟨sd_goodV q241 q243 q244 q201 q242, ⟨_, rfl⟩, ⟨rfl, rfl, rfl, rfl⟩, ⟨rfl, by decide, by decide, by decide +kernel⟩, ⟨by decide, by decide⟩⟩
theorem cw_K_passes_K_repeatsLeaf_49 : sd_cwV Y_K_passes Y_K_repeatsLeaf y_K_repeatsLeaf 49 2 "SettingsDesk$Check" := ⟨sd_goodV q245 q247 q248 q201 q246, ⟨_, rfl⟩, ⟨rfl, rfl, rfl, rfl⟩, ⟨rfl, by decide, by decide, by decide +kernel⟩, ⟨by decide, by decide⟩⟩
theorem cw_K_passes_K_breaksRule_52 : sd_cwV Y_K_passes Y_K_breaksRule y_K_breaksRule 52 2 "SettingsDesk$Check" := ⟨sd_goodV q249 q251 q252 q201 q250, ⟨_, rfl⟩, ⟨rfl, rfl, rfl, rfl⟩, ⟨rfl, by decide, by decide, by decide +kernel⟩, ⟨by decide, by decide⟩⟩
section
variable {l : Launch} {D : va_G} {dA : Nat → ClassId} {b n : Nat} {ad : Nat → Nat} {L : Nat → sdL} {sc : Option (Nat × Nat × (Nat → Int32))}
def k_K_passes_79 (o : Nat) (se : Nat) (tr : Nat) (Q : Int32 → sdM → Prop) (M : sdM) : Prop := sdB (0 : Int32) ∧ Q (0 : Int32) M
set_option maxHeartbeats 1000000 in
theorem t_K_passes_79 {o : Nat} {se : Nat} {tr : Nat} (hA : sd_ad b n ad) (hT : l.stackTraces = false) (ho : isK n L dA o se tr) {Q : Int32 → sdM → Prop} (M : sdM) (hw : k_K_passes_79 o se tr Q M ) : sdW l (sdE0 sc) Y_K_passes D (sd_tys dA) b n ad L ad (sd_H D (sdE0 sc).1 n ad L) (sd_qi Q) sd_xf 79 [] [] M 0 0 := by
  unfold k_K_passes_79 at hw
  refine x_iconst (v := 0) d_K_passes_79 (by decide) ?_
  exact x_zret d_K_passes_80 rfl (sdB_n hw.1) (fun _ h => h) ⟨_, rfl, hw.2⟩
def h_K_passes_31 (o : Nat) (se : Nat) (tr : Nat) (Q : Int32 → sdM → Prop) (k11 : sdM → Int32 → Prop) : Nat → sdM → Int32 → Int32 → Prop
  | 0, _, _, _ => False
  | N + 1, M, x1, x2 => w_S_endRow se M x1 (fun r16 M15 => (r16 ≤ x2 → k11 M15 (x1 + 1)) ∧ (¬ r16 ≤ x2 → w_K_lacksLeaf o se tr M15 x1 x2 (fun r18 M17 => (¬ r18 = 0 → k_K_passes_79 o se tr Q M17) ∧ (r18 = 0 → w_K_pointsNowhere o se tr M17 x1 x2 (fun r20 M19 => (¬ r20 = 0 → k_K_passes_79 o se tr Q M19) ∧ (r20 = 0 → w_K_repeatsLeaf o se tr M19 x1 x2 (fun r22 M21 => (¬ r22 = 0 → k_K_passes_79 o se tr Q M21) ∧ (r22 = 0 → w_K_breaksRule o se tr M21 x1 x2 (fun r24 M23 => (r24 = 0 → h_K_passes_31 o se tr Q k11 N M23 x1 (x2 + 1)) ∧ (¬ r24 = 0 → k_K_passes_79 o se tr Q M23))))))))))
set_option maxHeartbeats 1000000 in
theorem t_K_passes_31 {o : Nat} {se : Nat} {tr : Nat} (hA : sd_ad b n ad) (hT : l.stackTraces = false) (ho : isK n L dA o se tr) {Q : Int32 → sdM → Prop} {k11 : sdM → Int32 → Prop} (hk11 : ∀ (M : sdM) (x1 : Int32), k11 M x1 → sdW l (sdE0 sc) Y_K_passes D (sd_tys dA) b n ad L ad (sd_H D (sdE0 sc).1 n ad L) (sd_qi Q) sd_xf 11 [(0, .ref o), (1, .int x1)] [] M 0 0) (N : Nat) : ∀ (M : sdM) (x1 : Int32) (x2 : Int32), h_K_passes_31 o se tr Q k11 N M x1 x2 → sdW l (sdE0 sc) Y_K_passes D (sd_tys dA) b n ad L ad (sd_H D (sdE0 sc).1 n ad L) (sd_qi Q) sd_xf 31 [(0, .ref o), (1, .int x1), (2, .int x2)] [] M 0 0 := by
  induction N with
  | zero => intro M x1 x2 hw; exact hw.elim
  | succ N ih =>
    intro M x1 x2 hw
    rw [h_K_passes_31] at hw
    refine x_iload_n 2 2 d_K_passes_31 rfl rfl ?_
    refine x_aload_n 0 0 d_K_passes_32 rfl rfl ?_
    refine x_getr 1 se d_K_passes_33 ho.1 ho.2.1 rfl rfl (by decide) lay_K (List.mem_cons_of_mem _ q180) rfl ?_
    refine x_iload_n 1 1 d_K_passes_36 rfl rfl ?_
    refine x_callVi (As := [.int x1]) (t := se) (rest := [.int x2]) (rc := 0) (rs := 0) (c_S_endRow hA hT ho.settings hw) cw_K_passes_S_endRow_39 ho.settings.1 ho.settings.2.1 rfl d_K_passes_37 rfl rfl (Nat.le_of_ble_eq_true rfl) rfl (fun _ _ h => h.elim) (fun _ _ h => h) (fun r16 M15 hw => ?_)
    refine x_icmp_ge 87 d_K_passes_40 rfl (fun hc => ?_) (fun hc => ?_)
    · have hw := hw.1 hc
      refine x_iinc 1 1 [(1, .int (x1 + 1)), (0, .ref o), (2, .int x2)] d_K_passes_87 rfl (congrArg (HAdd.hAdd x1) (show Int32.ofInt 1 = 1 by decide)) (by decide) rfl ?_
      refine x_goto 11 d_K_passes_90 rfl ?_
      refine x_sub [1, 0] [(0, .ref o), (1, .int (x1 + 1))] rfl ?_
      exact hk11 M15 (x1 + 1) hw
    · have hw := hw.2 hc
      refine x_aload_n 0 0 d_K_passes_43 rfl rfl ?_
      refine x_iload_n 1 1 d_K_passes_44 rfl rfl ?_
      refine x_iload_n 2 2 d_K_passes_45 rfl rfl ?_
      refine x_callVi (As := [.int x1, .int x2]) (t := o) (rest := []) (rc := 0) (rs := 0) (c_K_lacksLeaf hA hT ho hw) cw_K_passes_K_lacksLeaf_42 ho.1 ho.2.1 rfl d_K_passes_46 rfl rfl (Nat.le_of_ble_eq_true rfl) rfl (fun _ _ h => h.elim) (fun _ _ h => h) (fun r18 M17 hw => ?_)
      refine x_if_ne 79 d_K_passes_49 rfl (fun hc => ?_) (fun hc => ?_)
      · have hw := hw.1 hc
        refine x_sub [] [] rfl ?_
        exact t_K_passes_79 hA hT ho M17 hw
      · have hw := hw.2 hc
        refine x_aload_n 0 0 d_K_passes_52 rfl rfl ?_
        refine x_iload_n 1 1 d_K_passes_53 rfl rfl ?_
        refine x_iload_n 2 2 d_K_passes_54 rfl rfl ?_
        refine x_callVi (As := [.int x1, .int x2]) (t := o) (rest := []) (rc := 0) (rs := 0) (c_K_pointsNowhere hA hT ho hw) cw_K_passes_K_pointsNowhere_46 ho.1 ho.2.1 rfl d_K_passes_55 rfl rfl (Nat.le_of_ble_eq_true rfl) rfl (fun _ _ h => h.elim) (fun _ _ h => h) (fun r20 M19 hw => ?_)
        refine x_if_ne 79 d_K_passes_58 rfl (fun hc => ?_) (fun hc => ?_)
        · have hw := hw.1 hc
          refine x_sub [] [] rfl ?_
          exact t_K_passes_79 hA hT ho M19 hw
        · have hw := hw.2 hc
          refine x_aload_n 0 0 d_K_passes_61 rfl rfl ?_
          refine x_iload_n 1 1 d_K_passes_62 rfl rfl ?_
          refine x_iload_n 2 2 d_K_passes_63 rfl rfl ?_
          refine x_callVi (As := [.int x1, .int x2]) (t := o) (rest := []) (rc := 0) (rs := 0) (c_K_repeatsLeaf hA hT ho hw) cw_K_passes_K_repeatsLeaf_49 ho.1 ho.2.1 rfl d_K_passes_64 rfl rfl (Nat.le_of_ble_eq_true rfl) rfl (fun _ _ h => h.elim) (fun _ _ h => h) (fun r22 M21 hw => ?_)
          refine x_if_ne 79 d_K_passes_67 rfl (fun hc => ?_) (fun hc => ?_)
          · have hw := hw.1 hc
            refine x_sub [] [] rfl ?_
            exact t_K_passes_79 hA hT ho M21 hw
          · have hw := hw.2 hc
            refine x_aload_n 0 0 d_K_passes_70 rfl rfl ?_
            refine x_iload_n 1 1 d_K_passes_71 rfl rfl ?_
            refine x_iload_n 2 2 d_K_passes_72 rfl rfl ?_
            refine x_callVi (As := [.int x1, .int x2]) (t := o) (rest := []) (rc := 0) (rs := 0) (c_K_breaksRule hA hT ho hw) cw_K_passes_K_breaksRule_52 ho.1 ho.2.1 rfl d_K_passes_73 rfl rfl (Nat.le_of_ble_eq_true rfl) rfl (fun _ _ h => h.elim) (fun _ _ h => h) (fun r24 M23 hw => ?_)
            refine x_if_eq 81 d_K_passes_76 rfl (fun hc => ?_) (fun hc => ?_)
            · have hw := hw.1 hc
              refine x_iinc 2 2 [(2, .int (x2 + 1)), (0, .ref o), (1, .int x1)] d_K_passes_81 rfl (congrArg (HAdd.hAdd x2) (show Int32.ofInt 1 = 1 by decide)) (by decide) rfl ?_
              refine x_goto 31 d_K_passes_84 rfl ?_
              refine x_sub [1, 2, 0] [(0, .ref o), (1, .int x1), (2, .int (x2 + 1))] rfl ?_
              exact ih M23 x1 (x2 + 1) hw
            · have hw := hw.2 hc
              refine x_sub [] [] rfl ?_
              exact t_K_passes_79 hA hT ho M23 hw
def h_K_passes_11 (o : Nat) (se : Nat) (tr : Nat) (Q : Int32 → sdM → Prop) : Nat → sdM → Int32 → Prop
  | 0, _, _ => False
  | N + 1, M, x1 => ((M 1 1) ≤ x1 → sdB (1 : Int32) ∧ Q (1 : Int32) M) ∧ (¬ (M 1 1) ≤ x1 → w_S_firstRow se M x1 (fun r26 M25 => ∃ N9 : Nat, h_K_passes_31 o se tr Q (fun M x1 => h_K_passes_11 o se tr Q N M x1) N9 M25 x1 r26))
set_option maxHeartbeats 1000000 in
theorem t_K_passes_11 {o : Nat} {se : Nat} {tr : Nat} (hA : sd_ad b n ad) (hT : l.stackTraces = false) (ho : isK n L dA o se tr) {Q : Int32 → sdM → Prop} (N : Nat) : ∀ (M : sdM) (x1 : Int32), h_K_passes_11 o se tr Q N M x1 → sdW l (sdE0 sc) Y_K_passes D (sd_tys dA) b n ad L ad (sd_H D (sdE0 sc).1 n ad L) (sd_qi Q) sd_xf 11 [(0, .ref o), (1, .int x1)] [] M 0 0 := by
  induction N with
  | zero => intro M x1 hw; exact hw.elim
  | succ N ih =>
    intro M x1 hw
    rw [h_K_passes_11] at hw
    refine x_iload_n 1 1 d_K_passes_11 rfl rfl ?_
    refine x_aload_n 0 0 d_K_passes_12 rfl rfl ?_
    refine x_getr 0 1 d_K_passes_13 ho.1 ho.2.1 rfl rfl (by decide) lay_K (List.mem_cons_of_mem _ q179) rfl ?_
    refine x_geti 1 d_K_passes_16 ho.schema.1 ho.schema.2.1 rfl rfl (by decide) lay_C (List.mem_cons_of_mem _ q186) rfl ?_
    refine x_icmp_ge 93 d_K_passes_19 rfl (fun hc => ?_) (fun hc => ?_)
    · have hw := hw.1 hc
      refine x_iconst (v := 1) d_K_passes_93 (by decide) ?_
      exact x_zret d_K_passes_94 rfl (sdB_n hw.1) (fun _ h => h) ⟨_, rfl, hw.2⟩
    · have hw := hw.2 hc
      refine x_aload_n 0 0 d_K_passes_22 rfl rfl ?_
      refine x_getr 1 se d_K_passes_23 ho.1 ho.2.1 rfl rfl (by decide) lay_K (List.mem_cons_of_mem _ q180) rfl ?_
      refine x_iload_n 1 1 d_K_passes_26 rfl rfl ?_
      refine x_callVi (As := [.int x1]) (t := se) (rest := []) (rc := 0) (rs := 0) (c_S_firstRow hA hT ho.settings hw) cw_K_passes_S_firstRow_33 ho.settings.1 ho.settings.2.1 rfl d_K_passes_27 rfl rfl (Nat.le_of_ble_eq_true rfl) rfl (fun _ _ h => h.elim) (fun _ _ h => h) (fun r26 M25 hw => ?_)
      refine x_istore_n 2 [(2, .int r26), (0, .ref o), (1, .int x1)] d_K_passes_30 rfl (by decide) rfl ?_
      refine x_sub [1, 2, 0] [(0, .ref o), (1, .int x1), (2, .int r26)] rfl ?_
      obtain ⟨N9, hw⟩ := hw
      exact t_K_passes_31 hA hT ho (fun M x1  hw => ih M x1 hw) N9 M25 x1 r26 hw
def w_K_passes (o : Nat) (se : Nat) (tr : Nat) (M : sdM) (Q : Int32 → sdM → Prop) : Prop := w_K_isCrowded o se tr M (fun r28 M27 => (r28 = 0 → ∃ N9 : Nat, h_K_passes_11 o se tr Q N9 M27 (0 : Int32)) ∧ (¬ r28 = 0 → sdB (0 : Int32) ∧ Q (0 : Int32) M27))
set_option maxHeartbeats 1000000 in
theorem c_K_passes {o : Nat} {se : Nat} {tr : Nat} (hA : sd_ad b n ad) (hT : l.stackTraces = false) (ho : isK n L dA o se tr) {Q : Int32 → sdM → Prop} {M : sdM} (hw : w_K_passes o se tr M Q) : sd_Cn l (sdE0 sc) y_K_passes Y_K_passes.2.2.2.2.1 Y_K_passes.2.2.2.2.2.1 0 0 D (sd_tys dA) b n ad L M [.ref o] (sd_qi Q) sd_xf := by
  refine sd_enter (Y := Y_K_passes) rfl rfl rfl rfl (Nat.le_of_ble_eq_true rfl) ?_
  show sdW l (sdE0 sc) Y_K_passes D (sd_tys dA) b n ad L ad (sd_H D (sdE0 sc).1 n ad L) (sd_qi Q) sd_xf 0 [(0, .ref o)] [] M 0 0
  unfold w_K_passes at hw
  refine x_aload_n 0 0 d_K_passes_0 rfl rfl ?_
  refine x_callVi (As := []) (t := o) (rest := []) (rc := 0) (rs := 0) (c_K_isCrowded hA hT ho hw) cw_K_passes_K_isCrowded_23 ho.1 ho.2.1 rfl d_K_passes_1 rfl rfl (Nat.le_of_ble_eq_true rfl) rfl (fun _ _ h => h.elim) (fun _ _ h => h) (fun r28 M27 hw => ?_)
  refine x_if_eq 9 d_K_passes_4 rfl (fun hc => ?_) (fun hc => ?_)
  · have hw := hw.1 hc
    refine x_iconst (v := 0) d_K_passes_9 (by decide) ?_
    refine x_istore_n 1 [(1, .int (0 : Int32)), (0, .ref o)] d_K_passes_10 rfl (by decide) rfl ?_
    refine x_sub [1, 0] [(0, .ref o), (1, .int (0 : Int32))] rfl ?_
    obtain ⟨N9, hw⟩ := hw
    exact t_K_passes_11 hA hT ho N9 M27 (0 : Int32) hw
  · have hw := hw.2 hc
    refine x_iconst (v := 0) d_K_passes_7 (by decide) ?_
    exact x_zret d_K_passes_8 rfl (sdB_n hw.1) (fun _ h => h) ⟨_, rfl, hw.2⟩
end
