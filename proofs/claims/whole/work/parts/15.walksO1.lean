theorem q446 : (.fieldLink "SettingsDeskModel" 69 "SettingsDeskModel" "thrown" "I" : Cond) ∈ sdB0 := sd_tb4 159 rfl rfl
abbrev y_O_thrown : MethodName := ⟨"SettingsDeskModel", "thrown", "()I"⟩
theorem d_O_thrown_0 : decode prog_12_method_2_code 0 = .ok (.aload_n 0, 1) := by decide +kernel
theorem d_O_thrown_1 : decode prog_12_method_2_code 1 = .ok (.getfield 69, 3) := by decide +kernel
theorem d_O_thrown_4 : decode prog_12_method_2_code 4 = .ok (.ireturn, 1) := by decide +kernel
def Y_O_thrown : sdY := ("SettingsDeskModel", prog_12_method_2_code, 1, (some .int), .code y_O_thrown prog_12_method_2_code 1 (some .int) :: sdB0, { frames := 0, cells := 0, slots := 0, locals := 0 }, 0, 0, [])
section
variable {l : Launch} {D : va_G} {dA : Nat → ClassId} {b n : Nat} {ad : Nat → Nat} {L : Nat → sdL} {sc : Option (Nat × Nat × (Nat → Int32))}
def w_O_thrown (M : sdM) (Q : Int32 → sdM → Prop) : Prop := Q (M 116 0) M
set_option maxHeartbeats 1000000 in
theorem c_O_thrown (hA : sd_ad b n ad) (hT : l.stackTraces = false) (hO : isO n L dA) {Q : Int32 → sdM → Prop} {M : sdM} (hw : w_O_thrown M Q) : sd_Cn l (sdE0 sc) y_O_thrown Y_O_thrown.2.2.2.2.1 Y_O_thrown.2.2.2.2.2.1 0 0 D (sd_tys dA) b n ad L M [.ref 116] (sd_qi Q) sd_xf := by
  refine sd_enter (Y := Y_O_thrown) rfl rfl rfl rfl (Nat.le_of_ble_eq_true rfl) ?_
  show sdW l (sdE0 sc) Y_O_thrown D (sd_tys dA) b n ad L ad (sd_H D (sdE0 sc).1 n ad L) (sd_qi Q) sd_xf 0 [(0, .ref 116)] [] M 0 0
  unfold w_O_thrown at hw
  refine x_aload_n 0 0 d_O_thrown_0 rfl rfl ?_
  refine x_geti 0 d_O_thrown_1 hO.1 hO.2.1 rfl rfl (by decide) lay_O (List.mem_cons_of_mem _ q446) rfl ?_
  exact x_iret d_O_thrown_4 rfl (fun _ h => h) ⟨_, rfl, hw⟩
end
theorem q447 : (.fieldLink "SettingsDeskModel" 76 "SettingsDeskModel" "off" "Z" : Cond) ∈ sdB0 := sd_tb4 184 rfl rfl
theorem q448 : (.fieldLink "SettingsDeskModel" 80 "SettingsDeskModel" "ready" "Z" : Cond) ∈ sdB0 := sd_tb4 160 rfl rfl
theorem q449 : (.fieldLink "SettingsDeskModel" 7 "SettingsDeskModel" "lists" "I" : Cond) ∈ sdB0 := sd_tb4 161 rfl rfl
abbrev y_O_list : MethodName := ⟨"SettingsDeskModel", "list", "()I"⟩
theorem d_O_list_0 : decode prog_12_method_6_code 0 = .ok (.aload_n 0, 1) := by decide +kernel
theorem d_O_list_1 : decode prog_12_method_6_code 1 = .ok (.aload_n 0, 1) := by decide +kernel
theorem d_O_list_2 : decode prog_12_method_6_code 2 = .ok (.getfield 76, 3) := by decide +kernel
theorem d_O_list_5 : decode prog_12_method_6_code 5 = .ok (.ifCond .ne (18), 3) := by decide +kernel
theorem d_O_list_8 : decode prog_12_method_6_code 8 = .ok (.aload_n 0, 1) := by decide +kernel
theorem d_O_list_9 : decode prog_12_method_6_code 9 = .ok (.getfield 80, 3) := by decide +kernel
theorem d_O_list_12 : decode prog_12_method_6_code 12 = .ok (.ifCond .ne (11), 3) := by decide +kernel
theorem d_O_list_15 : decode prog_12_method_6_code 15 = .ok (.aload_n 0, 1) := by decide +kernel
theorem d_O_list_16 : decode prog_12_method_6_code 16 = .ok (.getfield 7, 3) := by decide +kernel
theorem d_O_list_19 : decode prog_12_method_6_code 19 = .ok (.iconst 4, 1) := by decide +kernel
theorem d_O_list_20 : decode prog_12_method_6_code 20 = .ok (.if_icmp .ne (7), 3) := by decide +kernel
theorem d_O_list_23 : decode prog_12_method_6_code 23 = .ok (.iconst 1, 1) := by decide +kernel
theorem d_O_list_24 : decode prog_12_method_6_code 24 = .ok (.goto (4), 3) := by decide +kernel
theorem d_O_list_27 : decode prog_12_method_6_code 27 = .ok (.iconst 0, 1) := by decide +kernel
theorem d_O_list_28 : decode prog_12_method_6_code 28 = .ok (.putfield 69, 3) := by decide +kernel
theorem d_O_list_31 : decode prog_12_method_6_code 31 = .ok (.aload_n 0, 1) := by decide +kernel
theorem d_O_list_32 : decode prog_12_method_6_code 32 = .ok (.getfield 69, 3) := by decide +kernel
theorem d_O_list_35 : decode prog_12_method_6_code 35 = .ok (.ifCond .le (5), 3) := by decide +kernel
theorem d_O_list_38 : decode prog_12_method_6_code 38 = .ok (.iconst 0, 1) := by decide +kernel
theorem d_O_list_39 : decode prog_12_method_6_code 39 = .ok (.ireturn, 1) := by decide +kernel
theorem d_O_list_40 : decode prog_12_method_6_code 40 = .ok (.aload_n 0, 1) := by decide +kernel
theorem d_O_list_41 : decode prog_12_method_6_code 41 = .ok (.dup, 1) := by decide +kernel
theorem d_O_list_42 : decode prog_12_method_6_code 42 = .ok (.getfield 7, 3) := by decide +kernel
theorem d_O_list_45 : decode prog_12_method_6_code 45 = .ok (.iconst 1, 1) := by decide +kernel
theorem d_O_list_46 : decode prog_12_method_6_code 46 = .ok (.iadd, 1) := by decide +kernel
theorem d_O_list_47 : decode prog_12_method_6_code 47 = .ok (.putfield 7, 3) := by decide +kernel
theorem d_O_list_50 : decode prog_12_method_6_code 50 = .ok (.aload_n 0, 1) := by decide +kernel
theorem d_O_list_51 : decode prog_12_method_6_code 51 = .ok (.getfield 7, 3) := by decide +kernel
theorem d_O_list_54 : decode prog_12_method_6_code 54 = .ok (.iconst 1, 1) := by decide +kernel
theorem d_O_list_55 : decode prog_12_method_6_code 55 = .ok (.isub, 1) := by decide +kernel
theorem d_O_list_56 : decode prog_12_method_6_code 56 = .ok (.ireturn, 1) := by decide +kernel
def Y_O_list : sdY := ("SettingsDeskModel", prog_12_method_6_code, 1, (some .int), .code y_O_list prog_12_method_6_code 1 (some .int) :: sdB0, { frames := 0, cells := 0, slots := 0, locals := 0 }, 0, 0, [])
section
variable {l : Launch} {D : va_G} {dA : Nat → ClassId} {b n : Nat} {ad : Nat → Nat} {L : Nat → sdL} {sc : Option (Nat × Nat × (Nat → Int32))}
def k_O_list_28 (Q : Int32 → sdM → Prop) (M : sdM) (s1 : Int32) : Prop := ∀ M5 : sdM, M5 = sd_s M 116 0 s1 → ((M5 116 0) ≤ 0 → ∀ M7 : sdM, M7 = sd_s M5 116 2 ((M5 116 2) + (1 : Int32)) → Q ((M7 116 2) - (1 : Int32)) M7) ∧ (¬ (M5 116 0) ≤ 0 → Q (0 : Int32) M5)
set_option maxHeartbeats 1000000 in
theorem t_O_list_28 (hA : sd_ad b n ad) (hT : l.stackTraces = false) (hO : isO n L dA) {Q : Int32 → sdM → Prop} (M : sdM) (s1 : Int32) (hw : k_O_list_28 Q M s1) : sdW l (sdE0 sc) Y_O_list D (sd_tys dA) b n ad L ad (sd_H D (sdE0 sc).1 n ad L) (sd_qi Q) sd_xf 28 [(0, .ref 116)] [.int s1, .ref 116] M 0 0 := by
  unfold k_O_list_28 at hw
  refine x_puti 0 (ty := .int) hA d_O_list_28 hO.1 hO.2.1 rfl rfl (by decide) lay_O (List.mem_cons_of_mem _ q446) rfl ty_O ty_O_ok nm_O rfl (by decide +kernel) rfl rfl (fun M5 e6 => ?_)
  have hw := hw M5 e6
  clear e6
  refine x_aload_n 0 0 d_O_list_31 rfl rfl ?_
  refine x_geti 0 d_O_list_32 hO.1 hO.2.1 rfl rfl (by decide) lay_O (List.mem_cons_of_mem _ q446) rfl ?_
  refine x_if_le 40 d_O_list_35 rfl (fun hc => ?_) (fun hc => ?_)
  · have hw := hw.1 hc
    refine x_aload_n 0 0 d_O_list_40 rfl rfl ?_
    refine x_dup d_O_list_41 rfl ?_
    refine x_geti 2 d_O_list_42 hO.1 hO.2.1 rfl rfl (by decide) lay_O (List.mem_cons_of_mem _ q449) rfl ?_
    refine x_iconst (v := 1) d_O_list_45 (by decide) ?_
    refine x_iadd d_O_list_46 ?_
    refine x_puti 2 (ty := .int) hA d_O_list_47 hO.1 hO.2.1 rfl rfl (by decide) lay_O (List.mem_cons_of_mem _ q449) rfl ty_O ty_O_ok nm_O rfl (by decide +kernel) rfl rfl (fun M7 e8 => ?_)
    have hw := hw M7 e8
    clear e8
    refine x_aload_n 0 0 d_O_list_50 rfl rfl ?_
    refine x_geti 2 d_O_list_51 hO.1 hO.2.1 rfl rfl (by decide) lay_O (List.mem_cons_of_mem _ q449) rfl ?_
    refine x_iconst (v := 1) d_O_list_54 (by decide) ?_
    refine x_isub d_O_list_55 ?_
    exact x_iret d_O_list_56 rfl (fun _ h => h) ⟨_, rfl, hw⟩
  · have hw := hw.2 hc
    refine x_iconst (v := 0) d_O_list_38 (by decide) ?_
    exact x_iret d_O_list_39 rfl (fun _ h => h) ⟨_, rfl, hw⟩
def k_O_list_23 (Q : Int32 → sdM → Prop) (M : sdM) : Prop := k_O_list_28 Q M (1 : Int32)
set_option maxHeartbeats 1000000 in
theorem t_O_list_23 (hA : sd_ad b n ad) (hT : l.stackTraces = false) (hO : isO n L dA) {Q : Int32 → sdM → Prop} (M : sdM) (hw : k_O_list_23 Q M ) : sdW l (sdE0 sc) Y_O_list D (sd_tys dA) b n ad L ad (sd_H D (sdE0 sc).1 n ad L) (sd_qi Q) sd_xf 23 [(0, .ref 116)] [.ref 116] M 0 0 := by
  unfold k_O_list_23 at hw
  refine x_iconst (v := 1) d_O_list_23 (by decide) ?_
  refine x_goto 28 d_O_list_24 rfl ?_
  exact t_O_list_28 hA hT hO M (1 : Int32) hw
def w_O_list (M : sdM) (Q : Int32 → sdM → Prop) : Prop := (¬ (M 116 25) = 0 → k_O_list_23 Q M) ∧ ((M 116 25) = 0 → (¬ (M 116 1) = 0 → k_O_list_23 Q M) ∧ ((M 116 1) = 0 → (¬ (M 116 2) = (4 : Int32) → k_O_list_28 Q M (0 : Int32)) ∧ ((M 116 2) = (4 : Int32) → k_O_list_23 Q M)))
set_option maxHeartbeats 1000000 in
theorem c_O_list (hA : sd_ad b n ad) (hT : l.stackTraces = false) (hO : isO n L dA) {Q : Int32 → sdM → Prop} {M : sdM} (hw : w_O_list M Q) : sd_Cn l (sdE0 sc) y_O_list Y_O_list.2.2.2.2.1 Y_O_list.2.2.2.2.2.1 0 0 D (sd_tys dA) b n ad L M [.ref 116] (sd_qi Q) sd_xf := by
  refine sd_enter (Y := Y_O_list) rfl rfl rfl rfl (Nat.le_of_ble_eq_true rfl) ?_
  show sdW l (sdE0 sc) Y_O_list D (sd_tys dA) b n ad L ad (sd_H D (sdE0 sc).1 n ad L) (sd_qi Q) sd_xf 0 [(0, .ref 116)] [] M 0 0
  unfold w_O_list at hw
  refine x_aload_n 0 0 d_O_list_0 rfl rfl ?_
  refine x_aload_n 0 0 d_O_list_1 rfl rfl ?_
  refine x_geti 25 d_O_list_2 hO.1 hO.2.1 rfl rfl (by decide) lay_O (List.mem_cons_of_mem _ q447) rfl ?_
  refine x_if_ne 23 d_O_list_5 rfl (fun hc => ?_) (fun hc => ?_)
  · have hw := hw.1 hc
    exact t_O_list_23 hA hT hO M hw
  · have hw := hw.2 hc
    refine x_aload_n 0 0 d_O_list_8 rfl rfl ?_
    refine x_geti 1 d_O_list_9 hO.1 hO.2.1 rfl rfl (by decide) lay_O (List.mem_cons_of_mem _ q448) rfl ?_
    refine x_if_ne 23 d_O_list_12 rfl (fun hc => ?_) (fun hc => ?_)
    · have hw := hw.1 hc
      exact t_O_list_23 hA hT hO M hw
    · have hw := hw.2 hc
      refine x_aload_n 0 0 d_O_list_15 rfl rfl ?_
      refine x_geti 2 d_O_list_16 hO.1 hO.2.1 rfl rfl (by decide) lay_O (List.mem_cons_of_mem _ q449) rfl ?_
      refine x_iconst (v := 4) d_O_list_19 (by decide) ?_
      refine x_icmp_ne 27 d_O_list_20 rfl (fun hc => ?_) (fun hc => ?_)
      · have hw := hw.1 hc
        refine x_iconst (v := 0) d_O_list_27 (by decide) ?_
        exact t_O_list_28 hA hT hO M (0 : Int32) hw
      · have hw := hw.2 hc
        exact t_O_list_23 hA hT hO M hw
end
abbrev y_O_isList : MethodName := ⟨"SettingsDeskModel", "isList", "(I)Z"⟩
theorem d_O_isList_0 : decode prog_12_method_3_code 0 = .ok (.iload_n 1, 1) := by decide +kernel
theorem d_O_isList_1 : decode prog_12_method_3_code 1 = .ok (.ifCond .lt (15), 3) := by decide +kernel
theorem d_O_isList_4 : decode prog_12_method_3_code 4 = .ok (.iload_n 1, 1) := by decide +kernel
theorem d_O_isList_5 : decode prog_12_method_3_code 5 = .ok (.aload_n 0, 1) := by decide +kernel
theorem d_O_isList_6 : decode prog_12_method_3_code 6 = .ok (.getfield 7, 3) := by decide +kernel
theorem d_O_isList_9 : decode prog_12_method_3_code 9 = .ok (.if_icmp .ge (7), 3) := by decide +kernel
theorem d_O_isList_12 : decode prog_12_method_3_code 12 = .ok (.iconst 1, 1) := by decide +kernel
theorem d_O_isList_13 : decode prog_12_method_3_code 13 = .ok (.goto (4), 3) := by decide +kernel
theorem d_O_isList_16 : decode prog_12_method_3_code 16 = .ok (.iconst 0, 1) := by decide +kernel
theorem d_O_isList_17 : decode prog_12_method_3_code 17 = .ok (.ireturn, 1) := by decide +kernel
def Y_O_isList : sdY := ("SettingsDeskModel", prog_12_method_3_code, 2, (some .boolean), .code y_O_isList prog_12_method_3_code 2 (some .boolean) :: sdB0, { frames := 0, cells := 0, slots := 0, locals := 0 }, 0, 0, [])
section
variable {l : Launch} {D : va_G} {dA : Nat → ClassId} {b n : Nat} {ad : Nat → Nat} {L : Nat → sdL} {sc : Option (Nat × Nat × (Nat → Int32))}
def k_O_isList_17 (Q : Int32 → sdM → Prop) (M : sdM) (s0 : Int32) : Prop := sdB s0 ∧ Q s0 M
set_option maxHeartbeats 1000000 in
theorem t_O_isList_17 (hA : sd_ad b n ad) (hT : l.stackTraces = false) (hO : isO n L dA) {Q : Int32 → sdM → Prop} (M : sdM) (s0 : Int32) (hw : k_O_isList_17 Q M s0) : sdW l (sdE0 sc) Y_O_isList D (sd_tys dA) b n ad L ad (sd_H D (sdE0 sc).1 n ad L) (sd_qi Q) sd_xf 17 [] [.int s0] M 0 0 := by
  unfold k_O_isList_17 at hw
  exact x_zret d_O_isList_17 rfl (sdB_n hw.1) (fun _ h => h) ⟨_, rfl, hw.2⟩
def k_O_isList_16 (Q : Int32 → sdM → Prop) (M : sdM) : Prop := k_O_isList_17 Q M (0 : Int32)
set_option maxHeartbeats 1000000 in
theorem t_O_isList_16 (hA : sd_ad b n ad) (hT : l.stackTraces = false) (hO : isO n L dA) {Q : Int32 → sdM → Prop} (M : sdM) (hw : k_O_isList_16 Q M ) : sdW l (sdE0 sc) Y_O_isList D (sd_tys dA) b n ad L ad (sd_H D (sdE0 sc).1 n ad L) (sd_qi Q) sd_xf 16 [] [] M 0 0 := by
  unfold k_O_isList_16 at hw
  refine x_iconst (v := 0) d_O_isList_16 (by decide) ?_
  exact t_O_isList_17 hA hT hO M (0 : Int32) hw
def w_O_isList (M : sdM) (a1 : Int32) (Q : Int32 → sdM → Prop) : Prop := (a1 < 0 → k_O_isList_16 Q M) ∧ (¬ a1 < 0 → ((M 116 2) ≤ a1 → k_O_isList_16 Q M) ∧ (¬ (M 116 2) ≤ a1 → k_O_isList_17 Q M (1 : Int32)))
set_option maxHeartbeats 1000000 in
theorem c_O_isList {a1 : Int32} (hA : sd_ad b n ad) (hT : l.stackTraces = false) (hO : isO n L dA) {Q : Int32 → sdM → Prop} {M : sdM} (hw : w_O_isList M a1 Q) : sd_Cn l (sdE0 sc) y_O_isList Y_O_isList.2.2.2.2.1 Y_O_isList.2.2.2.2.2.1 0 0 D (sd_tys dA) b n ad L M [.ref 116, .int a1] (sd_qi Q) sd_xf := by
  refine sd_enter (Y := Y_O_isList) rfl rfl rfl rfl (Nat.le_of_ble_eq_true rfl) ?_
  show sdW l (sdE0 sc) Y_O_isList D (sd_tys dA) b n ad L ad (sd_H D (sdE0 sc).1 n ad L) (sd_qi Q) sd_xf 0 [(0, .ref 116), (1, .int a1)] [] M 0 0
  unfold w_O_isList at hw
  refine x_iload_n 1 1 d_O_isList_0 rfl rfl ?_
  refine x_if_lt 16 d_O_isList_1 rfl (fun hc => ?_) (fun hc => ?_)
  · have hw := hw.1 hc
    refine x_sub [] [] rfl ?_
    exact t_O_isList_16 hA hT hO M hw
  · have hw := hw.2 hc
    refine x_iload_n 1 1 d_O_isList_4 rfl rfl ?_
    refine x_aload_n 0 0 d_O_isList_5 rfl rfl ?_
    refine x_geti 2 d_O_isList_6 hO.1 hO.2.1 rfl rfl (by decide) lay_O (List.mem_cons_of_mem _ q449) rfl ?_
    refine x_icmp_ge 16 d_O_isList_9 rfl (fun hc => ?_) (fun hc => ?_)
    · have hw := hw.1 hc
      refine x_sub [] [] rfl ?_
      exact t_O_isList_16 hA hT hO M hw
    · have hw := hw.2 hc
      refine x_iconst (v := 1) d_O_isList_12 (by decide) ?_
      refine x_goto 17 d_O_isList_13 rfl ?_
      refine x_sub [] [] rfl ?_
      exact t_O_isList_17 hA hT hO M (1 : Int32) hw
end
theorem q450 : (.fieldLink "SettingsDeskModel" 13 "SettingsDeskModel" "leaves" "[I" : Cond) ∈ sdB0 := sd_tb4 162 rfl rfl
theorem q451 : (.fieldLink "SettingsDeskModel" 17 "SettingsDeskModel" "refers" "[Z" : Cond) ∈ sdB0 := sd_tb4 163 rfl rfl
theorem q452 : (.fieldLink "SettingsDeskModel" 21 "SettingsDeskModel" "lows" "[I" : Cond) ∈ sdB0 := sd_tb4 164 rfl rfl
theorem q453 : (.fieldLink "SettingsDeskModel" 24 "SettingsDeskModel" "highs" "[I" : Cond) ∈ sdB0 := sd_tb4 165 rfl rfl
theorem q454 : (.fieldLink "SettingsDeskModel" 27 "SettingsDeskModel" "flags" "[I" : Cond) ∈ sdB0 := sd_tb4 166 rfl rfl
theorem q455 : (.methodLink "SettingsDeskModel" 72 ⟨"SettingsDeskModel", "isList", "(I)Z"⟩ : Cond) ∈ sdB0 := sd_tb5 38 rfl rfl
theorem q456 : (.code ⟨"SettingsDeskModel", "isList", "(I)Z"⟩ prog_12_method_3_code 2 (some .boolean) : Cond) ∈ sdB0 := sd_tb5 41 rfl rfl
theorem q457 : (.instanceMethod ⟨"SettingsDeskModel", "isList", "(I)Z"⟩ : Cond) ∈ sdB0 := sd_tb5 40 rfl rfl
theorem q458 : (.selects "SettingsDeskModel" ⟨"SettingsDeskModel", "isList", "(I)Z"⟩ ⟨"SettingsDeskModel", "isList", "(I)Z"⟩ : Cond) ∈ sdB0 := sd_tbp (q := (⟨"SettingsDeskModel", "isList", "(I)Z"⟩, 35)) (List.mem_of_getElem? (i := 15) rfl)
theorem q459 : (.initialized "SettingsDeskModel" : Cond) ∈ sdB0 := sd_tb1 8 rfl rfl
abbrev y_O_leaf : MethodName := ⟨"SettingsDeskModel", "leaf", "(IIIII)I"⟩
theorem d_O_leaf_0 : decode prog_12_method_7_code 0 = .ok (.aload_n 0, 1) := by decide +kernel
theorem d_O_leaf_1 : decode prog_12_method_7_code 1 = .ok (.iload_n 1, 1) := by decide +kernel
theorem d_O_leaf_2 : decode prog_12_method_7_code 2 = .ok (.invokevirtual 72, 3) := by decide +kernel
theorem d_O_leaf_5 : decode prog_12_method_7_code 5 = .ok (.ifCond .eq (17), 3) := by decide +kernel
theorem d_O_leaf_8 : decode prog_12_method_7_code 8 = .ok (.aload_n 0, 1) := by decide +kernel
theorem d_O_leaf_9 : decode prog_12_method_7_code 9 = .ok (.getfield 13, 3) := by decide +kernel
theorem d_O_leaf_12 : decode prog_12_method_7_code 12 = .ok (.iload_n 1, 1) := by decide +kernel
theorem d_O_leaf_13 : decode prog_12_method_7_code 13 = .ok (.iaload, 1) := by decide +kernel
theorem d_O_leaf_14 : decode prog_12_method_7_code 14 = .ok (.iconst 4, 1) := by decide +kernel
theorem d_O_leaf_15 : decode prog_12_method_7_code 15 = .ok (.if_icmp .ne (7), 3) := by decide +kernel
theorem d_O_leaf_18 : decode prog_12_method_7_code 18 = .ok (.iconst 1, 1) := by decide +kernel
theorem d_O_leaf_19 : decode prog_12_method_7_code 19 = .ok (.goto (4), 3) := by decide +kernel
theorem d_O_leaf_22 : decode prog_12_method_7_code 22 = .ok (.iconst 0, 1) := by decide +kernel
theorem d_O_leaf_23 : decode prog_12_method_7_code 23 = .ok (.istore 6, 2) := by decide +kernel
theorem d_O_leaf_25 : decode prog_12_method_7_code 25 = .ok (.iload_n 2, 1) := by decide +kernel
theorem d_O_leaf_26 : decode prog_12_method_7_code 26 = .ok (.ifCond .ne (17), 3) := by decide +kernel
theorem d_O_leaf_29 : decode prog_12_method_7_code 29 = .ok (.iload_n 3, 1) := by decide +kernel
theorem d_O_leaf_30 : decode prog_12_method_7_code 30 = .ok (.iload 4, 2) := by decide +kernel
theorem d_O_leaf_32 : decode prog_12_method_7_code 32 = .ok (.if_icmp .gt (7), 3) := by decide +kernel
theorem d_O_leaf_35 : decode prog_12_method_7_code 35 = .ok (.iconst 1, 1) := by decide +kernel
theorem d_O_leaf_36 : decode prog_12_method_7_code 36 = .ok (.goto (29), 3) := by decide +kernel
theorem d_O_leaf_39 : decode prog_12_method_7_code 39 = .ok (.iconst 0, 1) := by decide +kernel
theorem d_O_leaf_40 : decode prog_12_method_7_code 40 = .ok (.goto (25), 3) := by decide +kernel
theorem d_O_leaf_43 : decode prog_12_method_7_code 43 = .ok (.iload_n 2, 1) := by decide +kernel
theorem d_O_leaf_44 : decode prog_12_method_7_code 44 = .ok (.iconst 1, 1) := by decide +kernel
theorem d_O_leaf_45 : decode prog_12_method_7_code 45 = .ok (.if_icmp .ne (19), 3) := by decide +kernel
theorem d_O_leaf_48 : decode prog_12_method_7_code 48 = .ok (.iload_n 3, 1) := by decide +kernel
theorem d_O_leaf_49 : decode prog_12_method_7_code 49 = .ok (.ifCond .le (15), 3) := by decide +kernel
theorem d_O_leaf_52 : decode prog_12_method_7_code 52 = .ok (.iload_n 3, 1) := by decide +kernel
theorem d_O_leaf_53 : decode prog_12_method_7_code 53 = .ok (.aload_n 0, 1) := by decide +kernel
theorem d_O_leaf_54 : decode prog_12_method_7_code 54 = .ok (.getfield 7, 3) := by decide +kernel
theorem d_O_leaf_57 : decode prog_12_method_7_code 57 = .ok (.if_icmp .ge (7), 3) := by decide +kernel
theorem d_O_leaf_60 : decode prog_12_method_7_code 60 = .ok (.iconst 1, 1) := by decide +kernel
theorem d_O_leaf_61 : decode prog_12_method_7_code 61 = .ok (.goto (4), 3) := by decide +kernel
theorem d_O_leaf_64 : decode prog_12_method_7_code 64 = .ok (.iconst 0, 1) := by decide +kernel
theorem d_O_leaf_65 : decode prog_12_method_7_code 65 = .ok (.istore 7, 2) := by decide +kernel
theorem d_O_leaf_67 : decode prog_12_method_7_code 67 = .ok (.aload_n 0, 1) := by decide +kernel
theorem d_O_leaf_68 : decode prog_12_method_7_code 68 = .ok (.aload_n 0, 1) := by decide +kernel
theorem d_O_leaf_69 : decode prog_12_method_7_code 69 = .ok (.getfield 76, 3) := by decide +kernel
theorem d_O_leaf_72 : decode prog_12_method_7_code 72 = .ok (.ifCond .ne (15), 3) := by decide +kernel
theorem d_O_leaf_75 : decode prog_12_method_7_code 75 = .ok (.aload_n 0, 1) := by decide +kernel
theorem d_O_leaf_76 : decode prog_12_method_7_code 76 = .ok (.getfield 80, 3) := by decide +kernel
theorem d_O_leaf_79 : decode prog_12_method_7_code 79 = .ok (.ifCond .ne (8), 3) := by decide +kernel
theorem d_O_leaf_82 : decode prog_12_method_7_code 82 = .ok (.iload 6, 2) := by decide +kernel
theorem d_O_leaf_84 : decode prog_12_method_7_code 84 = .ok (.ifCond .eq (7), 3) := by decide +kernel
theorem d_O_leaf_87 : decode prog_12_method_7_code 87 = .ok (.iconst 1, 1) := by decide +kernel
theorem d_O_leaf_88 : decode prog_12_method_7_code 88 = .ok (.goto (36), 3) := by decide +kernel
theorem d_O_leaf_91 : decode prog_12_method_7_code 91 = .ok (.aload_n 0, 1) := by decide +kernel
theorem d_O_leaf_92 : decode prog_12_method_7_code 92 = .ok (.iload_n 1, 1) := by decide +kernel
theorem d_O_leaf_93 : decode prog_12_method_7_code 93 = .ok (.invokevirtual 72, 3) := by decide +kernel
theorem d_O_leaf_96 : decode prog_12_method_7_code 96 = .ok (.ifCond .ne (7), 3) := by decide +kernel
theorem d_O_leaf_99 : decode prog_12_method_7_code 99 = .ok (.iconst 2, 1) := by decide +kernel
theorem d_O_leaf_100 : decode prog_12_method_7_code 100 = .ok (.goto (24), 3) := by decide +kernel
theorem d_O_leaf_103 : decode prog_12_method_7_code 103 = .ok (.iload 7, 2) := by decide +kernel
theorem d_O_leaf_105 : decode prog_12_method_7_code 105 = .ok (.ifCond .eq (14), 3) := by decide +kernel
theorem d_O_leaf_108 : decode prog_12_method_7_code 108 = .ok (.iload 5, 2) := by decide +kernel
theorem d_O_leaf_110 : decode prog_12_method_7_code 110 = .ok (.ifCond .lt (9), 3) := by decide +kernel
theorem d_O_leaf_113 : decode prog_12_method_7_code 113 = .ok (.iload 5, 2) := by decide +kernel
theorem d_O_leaf_115 : decode prog_12_method_7_code 115 = .ok (.iconst 3, 1) := by decide +kernel
theorem d_O_leaf_116 : decode prog_12_method_7_code 116 = .ok (.if_icmp .le (7), 3) := by decide +kernel
theorem d_O_leaf_119 : decode prog_12_method_7_code 119 = .ok (.iconst 3, 1) := by decide +kernel
theorem d_O_leaf_120 : decode prog_12_method_7_code 120 = .ok (.goto (4), 3) := by decide +kernel
theorem d_O_leaf_123 : decode prog_12_method_7_code 123 = .ok (.iconst 0, 1) := by decide +kernel
theorem d_O_leaf_124 : decode prog_12_method_7_code 124 = .ok (.putfield 69, 3) := by decide +kernel
theorem d_O_leaf_127 : decode prog_12_method_7_code 127 = .ok (.aload_n 0, 1) := by decide +kernel
theorem d_O_leaf_128 : decode prog_12_method_7_code 128 = .ok (.getfield 69, 3) := by decide +kernel
theorem d_O_leaf_131 : decode prog_12_method_7_code 131 = .ok (.ifCond .le (5), 3) := by decide +kernel
theorem d_O_leaf_134 : decode prog_12_method_7_code 134 = .ok (.iconst 0, 1) := by decide +kernel
theorem d_O_leaf_135 : decode prog_12_method_7_code 135 = .ok (.ireturn, 1) := by decide +kernel
theorem d_O_leaf_136 : decode prog_12_method_7_code 136 = .ok (.iconst 4, 1) := by decide +kernel
theorem d_O_leaf_137 : decode prog_12_method_7_code 137 = .ok (.iload_n 1, 1) := by decide +kernel
theorem d_O_leaf_138 : decode prog_12_method_7_code 138 = .ok (.imul, 1) := by decide +kernel
theorem d_O_leaf_139 : decode prog_12_method_7_code 139 = .ok (.aload_n 0, 1) := by decide +kernel
theorem d_O_leaf_140 : decode prog_12_method_7_code 140 = .ok (.getfield 13, 3) := by decide +kernel
theorem d_O_leaf_143 : decode prog_12_method_7_code 143 = .ok (.iload_n 1, 1) := by decide +kernel
theorem d_O_leaf_144 : decode prog_12_method_7_code 144 = .ok (.iaload, 1) := by decide +kernel
theorem d_O_leaf_145 : decode prog_12_method_7_code 145 = .ok (.iadd, 1) := by decide +kernel
theorem d_O_leaf_146 : decode prog_12_method_7_code 146 = .ok (.istore 8, 2) := by decide +kernel
theorem d_O_leaf_148 : decode prog_12_method_7_code 148 = .ok (.aload_n 0, 1) := by decide +kernel
theorem d_O_leaf_149 : decode prog_12_method_7_code 149 = .ok (.getfield 17, 3) := by decide +kernel
theorem d_O_leaf_152 : decode prog_12_method_7_code 152 = .ok (.iload 8, 2) := by decide +kernel
theorem d_O_leaf_154 : decode prog_12_method_7_code 154 = .ok (.iload_n 2, 1) := by decide +kernel
theorem d_O_leaf_155 : decode prog_12_method_7_code 155 = .ok (.iconst 1, 1) := by decide +kernel
theorem d_O_leaf_156 : decode prog_12_method_7_code 156 = .ok (.if_icmp .ne (7), 3) := by decide +kernel
theorem d_O_leaf_159 : decode prog_12_method_7_code 159 = .ok (.iconst 1, 1) := by decide +kernel
theorem d_O_leaf_160 : decode prog_12_method_7_code 160 = .ok (.goto (4), 3) := by decide +kernel
theorem d_O_leaf_163 : decode prog_12_method_7_code 163 = .ok (.iconst 0, 1) := by decide +kernel
theorem d_O_leaf_164 : decode prog_12_method_7_code 164 = .ok (.bastore, 1) := by decide +kernel
theorem d_O_leaf_165 : decode prog_12_method_7_code 165 = .ok (.aload_n 0, 1) := by decide +kernel
theorem d_O_leaf_166 : decode prog_12_method_7_code 166 = .ok (.getfield 21, 3) := by decide +kernel
theorem d_O_leaf_169 : decode prog_12_method_7_code 169 = .ok (.iload 8, 2) := by decide +kernel
theorem d_O_leaf_171 : decode prog_12_method_7_code 171 = .ok (.iload_n 3, 1) := by decide +kernel
theorem d_O_leaf_172 : decode prog_12_method_7_code 172 = .ok (.iastore, 1) := by decide +kernel
theorem d_O_leaf_173 : decode prog_12_method_7_code 173 = .ok (.aload_n 0, 1) := by decide +kernel
theorem d_O_leaf_174 : decode prog_12_method_7_code 174 = .ok (.getfield 24, 3) := by decide +kernel
theorem d_O_leaf_177 : decode prog_12_method_7_code 177 = .ok (.iload 8, 2) := by decide +kernel
theorem d_O_leaf_179 : decode prog_12_method_7_code 179 = .ok (.iload 4, 2) := by decide +kernel
theorem d_O_leaf_181 : decode prog_12_method_7_code 181 = .ok (.iastore, 1) := by decide +kernel
theorem d_O_leaf_182 : decode prog_12_method_7_code 182 = .ok (.aload_n 0, 1) := by decide +kernel
theorem d_O_leaf_183 : decode prog_12_method_7_code 183 = .ok (.getfield 27, 3) := by decide +kernel
theorem d_O_leaf_186 : decode prog_12_method_7_code 186 = .ok (.iload 8, 2) := by decide +kernel
theorem d_O_leaf_188 : decode prog_12_method_7_code 188 = .ok (.iload 5, 2) := by decide +kernel
theorem d_O_leaf_190 : decode prog_12_method_7_code 190 = .ok (.iastore, 1) := by decide +kernel
theorem d_O_leaf_191 : decode prog_12_method_7_code 191 = .ok (.aload_n 0, 1) := by decide +kernel
theorem d_O_leaf_192 : decode prog_12_method_7_code 192 = .ok (.getfield 13, 3) := by decide +kernel
theorem d_O_leaf_195 : decode prog_12_method_7_code 195 = .ok (.iload_n 1, 1) := by decide +kernel
theorem d_O_leaf_196 : decode prog_12_method_7_code 196 = .ok (.dup2, 1) := by decide +kernel
theorem d_O_leaf_197 : decode prog_12_method_7_code 197 = .ok (.iaload, 1) := by decide +kernel
theorem d_O_leaf_198 : decode prog_12_method_7_code 198 = .ok (.iconst 1, 1) := by decide +kernel
theorem d_O_leaf_199 : decode prog_12_method_7_code 199 = .ok (.iadd, 1) := by decide +kernel
theorem d_O_leaf_200 : decode prog_12_method_7_code 200 = .ok (.iastore, 1) := by decide +kernel
theorem d_O_leaf_201 : decode prog_12_method_7_code 201 = .ok (.aload_n 0, 1) := by decide +kernel
theorem d_O_leaf_202 : decode prog_12_method_7_code 202 = .ok (.getfield 13, 3) := by decide +kernel
theorem d_O_leaf_205 : decode prog_12_method_7_code 205 = .ok (.iload_n 1, 1) := by decide +kernel
theorem d_O_leaf_206 : decode prog_12_method_7_code 206 = .ok (.iaload, 1) := by decide +kernel
theorem d_O_leaf_207 : decode prog_12_method_7_code 207 = .ok (.iconst 1, 1) := by decide +kernel
theorem d_O_leaf_208 : decode prog_12_method_7_code 208 = .ok (.isub, 1) := by decide +kernel
theorem d_O_leaf_209 : decode prog_12_method_7_code 209 = .ok (.ireturn, 1) := by decide +kernel
def Y_O_leaf : sdY := ("SettingsDeskModel", prog_12_method_7_code, 9, (some .int), .code y_O_leaf prog_12_method_7_code 9 (some .int) :: sdB0, { frames := 1, cells := 0, slots := 0, locals := 21 }, 0, 0, [])
theorem cw_O_leaf_O_isList_72 : sd_cwV Y_O_leaf Y_O_isList y_O_isList 72 1 "SettingsDeskModel" := ⟨sd_goodV q455 q457 q458 q459 q456, ⟨_, rfl⟩, ⟨rfl, rfl, rfl, rfl⟩, ⟨rfl, by decide, by decide, by decide +kernel⟩, ⟨by decide, by decide⟩⟩
section
variable {l : Launch} {D : va_G} {dA : Nat → ClassId} {b n : Nat} {ad : Nat → Nat} {L : Nat → sdL} {sc : Option (Nat × Nat × (Nat → Int32))}
def k_O_leaf_164 (Q : Int32 → sdM → Prop) (M : sdM) (x1 : Int32) (x3 : Int32) (x4 : Int32) (x5 : Int32) (x8 : Int32) (u0 : Nat) (s1 : Int32) (s2 : Int32) : Prop := vp_in s1 16 ∧ sdB s2 ∧ ∀ M29 : sdM, M29 = sd_s M u0 s1.toNatClampNeg s2 → vp_in x8 16 ∧ ∀ M32 : sdM, M32 = sd_s M29 119 x8.toNatClampNeg x3 → vp_in x8 16 ∧ ∀ M35 : sdM, M35 = sd_s M32 120 x8.toNatClampNeg x4 → vp_in x8 16 ∧ ∀ M38 : sdM, M38 = sd_s M35 121 x8.toNatClampNeg x5 → vp_in x1 4 ∧ vp_in x1 4 ∧ ∀ M42 : sdM, M42 = sd_s M38 117 x1.toNatClampNeg ((M38 117 x1.toNatClampNeg) + (1 : Int32)) → vp_in x1 4 ∧ Q ((M42 117 x1.toNatClampNeg) - (1 : Int32)) M42
set_option maxHeartbeats 1000000 in
theorem t_O_leaf_164 (hA : sd_ad b n ad) (hT : l.stackTraces = false) (hO : isO n L dA) {Q : Int32 → sdM → Prop} (M : sdM) (x1 : Int32) (x3 : Int32) (x4 : Int32) (x5 : Int32) (x8 : Int32) (u0 : Nat) (s1 : Int32) (s2 : Int32) (hu0 : isI n L (dA 1) u0 16) (hw : k_O_leaf_164 Q M x1 x3 x4 x5 x8 u0 s1 s2) : sdW l (sdE0 sc) Y_O_leaf D (sd_tys dA) b n ad L ad (sd_H D (sdE0 sc).1 n ad L) (sd_qi Q) sd_xf 164 [(0, .ref 116), (1, .int x1), (3, .int x3), (4, .int x4), (5, .int x5), (8, .int x8)] [.int s2, .int s1, .ref u0] M 0 0 := by
  unfold k_O_leaf_164 at hw
  obtain ⟨hi27, hw⟩ := hw
  obtain ⟨hb28, hw⟩ := hw
  refine x_zast hA d_O_leaf_164 hu0.1 hu0.2 rfl hi27 (sdB_v hb28) (fun M29 e30 => ?_)
  have hw := hw M29 e30
  clear e30
  refine x_aload_n 0 0 d_O_leaf_165 rfl rfl ?_
  refine x_getr 5 119 d_O_leaf_166 hO.1 hO.2.1 rfl rfl (by decide) lay_O (List.mem_cons_of_mem _ q452) rfl ?_
  refine x_iload 8 5 d_O_leaf_169 rfl ?_
  refine x_iload_n 3 2 d_O_leaf_171 rfl rfl ?_
  obtain ⟨hi31, hw⟩ := hw
  refine x_iast hA d_O_leaf_172 hO.lows.1 hO.lows.2 rfl hi31 (fun M32 e33 => ?_)
  have hw := hw M32 e33
  clear e33
  refine x_aload_n 0 0 d_O_leaf_173 rfl rfl ?_
  refine x_getr 6 120 d_O_leaf_174 hO.1 hO.2.1 rfl rfl (by decide) lay_O (List.mem_cons_of_mem _ q453) rfl ?_
  refine x_iload 8 5 d_O_leaf_177 rfl ?_
  refine x_iload 4 3 d_O_leaf_179 rfl ?_
  obtain ⟨hi34, hw⟩ := hw
  refine x_iast hA d_O_leaf_181 hO.highs.1 hO.highs.2 rfl hi34 (fun M35 e36 => ?_)
  have hw := hw M35 e36
  clear e36
  refine x_aload_n 0 0 d_O_leaf_182 rfl rfl ?_
  refine x_getr 7 121 d_O_leaf_183 hO.1 hO.2.1 rfl rfl (by decide) lay_O (List.mem_cons_of_mem _ q454) rfl ?_
  refine x_iload 8 5 d_O_leaf_186 rfl ?_
  refine x_iload 5 4 d_O_leaf_188 rfl ?_
  obtain ⟨hi37, hw⟩ := hw
  refine x_iast hA d_O_leaf_190 hO.flags.1 hO.flags.2 rfl hi37 (fun M38 e39 => ?_)
  have hw := hw M38 e39
  clear e39
  refine x_aload_n 0 0 d_O_leaf_191 rfl rfl ?_
  refine x_getr 3 117 d_O_leaf_192 hO.1 hO.2.1 rfl rfl (by decide) lay_O (List.mem_cons_of_mem _ q450) rfl ?_
  refine x_iload_n 1 1 d_O_leaf_195 rfl rfl ?_
  refine x_dup2 d_O_leaf_196 rfl rfl ?_
  obtain ⟨hi40, hw⟩ := hw
  refine x_iald d_O_leaf_197 hO.leaves.1 hO.leaves.2 rfl hi40 ?_
  refine x_iconst (v := 1) d_O_leaf_198 (by decide) ?_
  refine x_iadd d_O_leaf_199 ?_
  obtain ⟨hi41, hw⟩ := hw
  refine x_iast hA d_O_leaf_200 hO.leaves.1 hO.leaves.2 rfl hi41 (fun M42 e43 => ?_)
  have hw := hw M42 e43
  clear e43
  refine x_aload_n 0 0 d_O_leaf_201 rfl rfl ?_
  refine x_getr 3 117 d_O_leaf_202 hO.1 hO.2.1 rfl rfl (by decide) lay_O (List.mem_cons_of_mem _ q450) rfl ?_
  refine x_iload_n 1 1 d_O_leaf_205 rfl rfl ?_
  obtain ⟨hi44, hw⟩ := hw
  refine x_iald d_O_leaf_206 hO.leaves.1 hO.leaves.2 rfl hi44 ?_
  refine x_iconst (v := 1) d_O_leaf_207 (by decide) ?_
  refine x_isub d_O_leaf_208 ?_
  exact x_iret d_O_leaf_209 rfl (fun _ h => h) ⟨_, rfl, hw⟩
def k_O_leaf_124 (Q : Int32 → sdM → Prop) (M : sdM) (x1 : Int32) (x2 : Int32) (x3 : Int32) (x4 : Int32) (x5 : Int32) (s1 : Int32) : Prop := ∀ M45 : sdM, M45 = sd_s M 116 0 s1 → ((M45 116 0) ≤ 0 → vp_in x1 4 ∧ (¬ x2 = (1 : Int32) → k_O_leaf_164 Q M45 x1 x3 x4 x5 (((4 : Int32) * x1) + (M45 117 x1.toNatClampNeg)) 118 (((4 : Int32) * x1) + (M45 117 x1.toNatClampNeg)) (0 : Int32)) ∧ (x2 = (1 : Int32) → k_O_leaf_164 Q M45 x1 x3 x4 x5 (((4 : Int32) * x1) + (M45 117 x1.toNatClampNeg)) 118 (((4 : Int32) * x1) + (M45 117 x1.toNatClampNeg)) (1 : Int32))) ∧ (¬ (M45 116 0) ≤ 0 → Q (0 : Int32) M45)
set_option maxHeartbeats 1000000 in
theorem t_O_leaf_124 (hA : sd_ad b n ad) (hT : l.stackTraces = false) (hO : isO n L dA) {Q : Int32 → sdM → Prop} (M : sdM) (x1 : Int32) (x2 : Int32) (x3 : Int32) (x4 : Int32) (x5 : Int32) (s1 : Int32) (hw : k_O_leaf_124 Q M x1 x2 x3 x4 x5 s1) : sdW l (sdE0 sc) Y_O_leaf D (sd_tys dA) b n ad L ad (sd_H D (sdE0 sc).1 n ad L) (sd_qi Q) sd_xf 124 [(0, .ref 116), (1, .int x1), (2, .int x2), (3, .int x3), (4, .int x4), (5, .int x5)] [.int s1, .ref 116] M 0 0 := by
  unfold k_O_leaf_124 at hw
  refine x_puti 0 (ty := .int) hA d_O_leaf_124 hO.1 hO.2.1 rfl rfl (by decide) lay_O (List.mem_cons_of_mem _ q446) rfl ty_O ty_O_ok nm_O rfl (by decide +kernel) rfl rfl (fun M45 e46 => ?_)
  have hw := hw M45 e46
  clear e46
  refine x_aload_n 0 0 d_O_leaf_127 rfl rfl ?_
  refine x_geti 0 d_O_leaf_128 hO.1 hO.2.1 rfl rfl (by decide) lay_O (List.mem_cons_of_mem _ q446) rfl ?_
  refine x_if_le 136 d_O_leaf_131 rfl (fun hc => ?_) (fun hc => ?_)
  · have hw := hw.1 hc
    refine x_iconst (v := 4) d_O_leaf_136 (by decide) ?_
    refine x_iload_n 1 1 d_O_leaf_137 rfl rfl ?_
    refine x_imul d_O_leaf_138 ?_
    refine x_aload_n 0 0 d_O_leaf_139 rfl rfl ?_
    refine x_getr 3 117 d_O_leaf_140 hO.1 hO.2.1 rfl rfl (by decide) lay_O (List.mem_cons_of_mem _ q450) rfl ?_
    refine x_iload_n 1 1 d_O_leaf_143 rfl rfl ?_
    obtain ⟨hi47, hw⟩ := hw
    refine x_iald d_O_leaf_144 hO.leaves.1 hO.leaves.2 rfl hi47 ?_
    refine x_iadd d_O_leaf_145 ?_
    refine x_istore 8 [(8, .int (((4 : Int32) * x1) + (M45 117 x1.toNatClampNeg))), (0, .ref 116), (1, .int x1), (2, .int x2), (3, .int x3), (4, .int x4), (5, .int x5)] d_O_leaf_146 (by decide) rfl ?_
    refine x_aload_n 0 1 d_O_leaf_148 rfl rfl ?_
    refine x_getr 4 118 d_O_leaf_149 hO.1 hO.2.1 rfl rfl (by decide) lay_O (List.mem_cons_of_mem _ q451) rfl ?_
    refine x_iload 8 0 d_O_leaf_152 rfl ?_
    refine x_iload_n 2 3 d_O_leaf_154 rfl rfl ?_
    refine x_iconst (v := 1) d_O_leaf_155 (by decide) ?_
    refine x_icmp_ne 163 d_O_leaf_156 rfl (fun hc => ?_) (fun hc => ?_)
    · have hw := hw.1 hc
      refine x_iconst (v := 0) d_O_leaf_163 (by decide) ?_
      refine x_sub [1, 2, 4, 5, 6, 0] [(0, .ref 116), (1, .int x1), (3, .int x3), (4, .int x4), (5, .int x5), (8, .int (((4 : Int32) * x1) + (M45 117 x1.toNatClampNeg)))] rfl ?_
      exact t_O_leaf_164 hA hT hO M45 x1 x3 x4 x5 (((4 : Int32) * x1) + (M45 117 x1.toNatClampNeg)) 118 (((4 : Int32) * x1) + (M45 117 x1.toNatClampNeg)) (0 : Int32) hO.refers hw
    · have hw := hw.2 hc
      refine x_iconst (v := 1) d_O_leaf_159 (by decide) ?_
      refine x_goto 164 d_O_leaf_160 rfl ?_
      refine x_sub [1, 2, 4, 5, 6, 0] [(0, .ref 116), (1, .int x1), (3, .int x3), (4, .int x4), (5, .int x5), (8, .int (((4 : Int32) * x1) + (M45 117 x1.toNatClampNeg)))] rfl ?_
      exact t_O_leaf_164 hA hT hO M45 x1 x3 x4 x5 (((4 : Int32) * x1) + (M45 117 x1.toNatClampNeg)) 118 (((4 : Int32) * x1) + (M45 117 x1.toNatClampNeg)) (1 : Int32) hO.refers hw
  · have hw := hw.2 hc
    refine x_iconst (v := 0) d_O_leaf_134 (by decide) ?_
    exact x_iret d_O_leaf_135 rfl (fun _ h => h) ⟨_, rfl, hw⟩
def k_O_leaf_119 (Q : Int32 → sdM → Prop) (M : sdM) (x1 : Int32) (x2 : Int32) (x3 : Int32) (x4 : Int32) (x5 : Int32) : Prop := k_O_leaf_124 Q M x1 x2 x3 x4 x5 (3 : Int32)
set_option maxHeartbeats 1000000 in
theorem t_O_leaf_119 (hA : sd_ad b n ad) (hT : l.stackTraces = false) (hO : isO n L dA) {Q : Int32 → sdM → Prop} (M : sdM) (x1 : Int32) (x2 : Int32) (x3 : Int32) (x4 : Int32) (x5 : Int32) (hw : k_O_leaf_119 Q M x1 x2 x3 x4 x5) : sdW l (sdE0 sc) Y_O_leaf D (sd_tys dA) b n ad L ad (sd_H D (sdE0 sc).1 n ad L) (sd_qi Q) sd_xf 119 [(0, .ref 116), (1, .int x1), (2, .int x2), (3, .int x3), (4, .int x4), (5, .int x5)] [.ref 116] M 0 0 := by
  unfold k_O_leaf_119 at hw
  refine x_iconst (v := 3) d_O_leaf_119 (by decide) ?_
  refine x_goto 124 d_O_leaf_120 rfl ?_
  exact t_O_leaf_124 hA hT hO M x1 x2 x3 x4 x5 (3 : Int32) hw
def k_O_leaf_87 (Q : Int32 → sdM → Prop) (M : sdM) (x1 : Int32) (x2 : Int32) (x3 : Int32) (x4 : Int32) (x5 : Int32) : Prop := k_O_leaf_124 Q M x1 x2 x3 x4 x5 (1 : Int32)
set_option maxHeartbeats 1000000 in
theorem t_O_leaf_87 (hA : sd_ad b n ad) (hT : l.stackTraces = false) (hO : isO n L dA) {Q : Int32 → sdM → Prop} (M : sdM) (x1 : Int32) (x2 : Int32) (x3 : Int32) (x4 : Int32) (x5 : Int32) (hw : k_O_leaf_87 Q M x1 x2 x3 x4 x5) : sdW l (sdE0 sc) Y_O_leaf D (sd_tys dA) b n ad L ad (sd_H D (sdE0 sc).1 n ad L) (sd_qi Q) sd_xf 87 [(0, .ref 116), (1, .int x1), (2, .int x2), (3, .int x3), (4, .int x4), (5, .int x5)] [.ref 116] M 0 0 := by
  unfold k_O_leaf_87 at hw
  refine x_iconst (v := 1) d_O_leaf_87 (by decide) ?_
  refine x_goto 124 d_O_leaf_88 rfl ?_
  exact t_O_leaf_124 hA hT hO M x1 x2 x3 x4 x5 (1 : Int32) hw
def k_O_leaf_65 (Q : Int32 → sdM → Prop) (M : sdM) (x1 : Int32) (x2 : Int32) (x3 : Int32) (x4 : Int32) (x5 : Int32) (x6 : Int32) (s0 : Int32) : Prop := (¬ (M 116 25) = 0 → k_O_leaf_87 Q M x1 x2 x3 x4 x5) ∧ ((M 116 25) = 0 → (¬ (M 116 1) = 0 → k_O_leaf_87 Q M x1 x2 x3 x4 x5) ∧ ((M 116 1) = 0 → (x6 = 0 → w_O_isList M x1 (fun r49 M48 => (¬ r49 = 0 → (s0 = 0 → k_O_leaf_119 Q M48 x1 x2 x3 x4 x5) ∧ (¬ s0 = 0 → (x5 < 0 → k_O_leaf_119 Q M48 x1 x2 x3 x4 x5) ∧ (¬ x5 < 0 → (x5 ≤ (3 : Int32) → k_O_leaf_124 Q M48 x1 x2 x3 x4 x5 (0 : Int32)) ∧ (¬ x5 ≤ (3 : Int32) → k_O_leaf_119 Q M48 x1 x2 x3 x4 x5)))) ∧ (r49 = 0 → k_O_leaf_124 Q M48 x1 x2 x3 x4 x5 (2 : Int32)))) ∧ (¬ x6 = 0 → k_O_leaf_87 Q M x1 x2 x3 x4 x5)))
set_option maxHeartbeats 1000000 in
theorem t_O_leaf_65 (hA : sd_ad b n ad) (hT : l.stackTraces = false) (hO : isO n L dA) {Q : Int32 → sdM → Prop} (M : sdM) (x1 : Int32) (x2 : Int32) (x3 : Int32) (x4 : Int32) (x5 : Int32) (x6 : Int32) (s0 : Int32) (hw : k_O_leaf_65 Q M x1 x2 x3 x4 x5 x6 s0) : sdW l (sdE0 sc) Y_O_leaf D (sd_tys dA) b n ad L ad (sd_H D (sdE0 sc).1 n ad L) (sd_qi Q) sd_xf 65 [(0, .ref 116), (1, .int x1), (2, .int x2), (3, .int x3), (4, .int x4), (5, .int x5), (6, .int x6)] [.int s0] M 0 0 := by
  unfold k_O_leaf_65 at hw
  refine x_istore 7 [(7, .int s0), (0, .ref 116), (1, .int x1), (2, .int x2), (3, .int x3), (4, .int x4), (5, .int x5), (6, .int x6)] d_O_leaf_65 (by decide) rfl ?_
  refine x_aload_n 0 1 d_O_leaf_67 rfl rfl ?_
  refine x_aload_n 0 1 d_O_leaf_68 rfl rfl ?_
  refine x_geti 25 d_O_leaf_69 hO.1 hO.2.1 rfl rfl (by decide) lay_O (List.mem_cons_of_mem _ q447) rfl ?_
  refine x_if_ne 87 d_O_leaf_72 rfl (fun hc => ?_) (fun hc => ?_)
  · have hw := hw.1 hc
    refine x_sub [1, 2, 3, 4, 5, 6] [(0, .ref 116), (1, .int x1), (2, .int x2), (3, .int x3), (4, .int x4), (5, .int x5)] rfl ?_
    exact t_O_leaf_87 hA hT hO M x1 x2 x3 x4 x5 hw
  · have hw := hw.2 hc
    refine x_aload_n 0 1 d_O_leaf_75 rfl rfl ?_
    refine x_geti 1 d_O_leaf_76 hO.1 hO.2.1 rfl rfl (by decide) lay_O (List.mem_cons_of_mem _ q448) rfl ?_
    refine x_if_ne 87 d_O_leaf_79 rfl (fun hc => ?_) (fun hc => ?_)
    · have hw := hw.1 hc
      refine x_sub [1, 2, 3, 4, 5, 6] [(0, .ref 116), (1, .int x1), (2, .int x2), (3, .int x3), (4, .int x4), (5, .int x5)] rfl ?_
      exact t_O_leaf_87 hA hT hO M x1 x2 x3 x4 x5 hw
    · have hw := hw.2 hc
      refine x_iload 6 7 d_O_leaf_82 rfl ?_
      refine x_if_eq 91 d_O_leaf_84 rfl (fun hc => ?_) (fun hc => ?_)
      · have hw := hw.1 hc
        refine x_aload_n 0 1 d_O_leaf_91 rfl rfl ?_
        refine x_iload_n 1 2 d_O_leaf_92 rfl rfl ?_
        refine x_callVi (As := [.int x1]) (t := 116) (rest := [.ref 116]) (rc := 0) (rs := 0) (c_O_isList hA hT hO hw) cw_O_leaf_O_isList_72 hO.1 hO.2.1 rfl d_O_leaf_93 rfl rfl (Nat.le_of_ble_eq_true rfl) rfl (fun _ _ h => h.elim) (fun _ _ h => h) (fun r49 M48 hw => ?_)
        refine x_if_ne 103 d_O_leaf_96 rfl (fun hc => ?_) (fun hc => ?_)
        · have hw := hw.1 hc
          refine x_iload 7 0 d_O_leaf_103 rfl ?_
          refine x_if_eq 119 d_O_leaf_105 rfl (fun hc => ?_) (fun hc => ?_)
          · have hw := hw.1 hc
            refine x_sub [1, 2, 3, 4, 5, 6] [(0, .ref 116), (1, .int x1), (2, .int x2), (3, .int x3), (4, .int x4), (5, .int x5)] rfl ?_
            exact t_O_leaf_119 hA hT hO M48 x1 x2 x3 x4 x5 hw
          · have hw := hw.2 hc
            refine x_iload 5 6 d_O_leaf_108 rfl ?_
            refine x_if_lt 119 d_O_leaf_110 rfl (fun hc => ?_) (fun hc => ?_)
            · have hw := hw.1 hc
              refine x_sub [1, 2, 3, 4, 5, 6] [(0, .ref 116), (1, .int x1), (2, .int x2), (3, .int x3), (4, .int x4), (5, .int x5)] rfl ?_
              exact t_O_leaf_119 hA hT hO M48 x1 x2 x3 x4 x5 hw
            · have hw := hw.2 hc
              refine x_iload 5 6 d_O_leaf_113 rfl ?_
              refine x_iconst (v := 3) d_O_leaf_115 (by decide) ?_
              refine x_icmp_le 123 d_O_leaf_116 rfl (fun hc => ?_) (fun hc => ?_)
              · have hw := hw.1 hc
                refine x_iconst (v := 0) d_O_leaf_123 (by decide) ?_
                refine x_sub [1, 2, 3, 4, 5, 6] [(0, .ref 116), (1, .int x1), (2, .int x2), (3, .int x3), (4, .int x4), (5, .int x5)] rfl ?_
                exact t_O_leaf_124 hA hT hO M48 x1 x2 x3 x4 x5 (0 : Int32) hw
              · have hw := hw.2 hc
                refine x_sub [1, 2, 3, 4, 5, 6] [(0, .ref 116), (1, .int x1), (2, .int x2), (3, .int x3), (4, .int x4), (5, .int x5)] rfl ?_
                exact t_O_leaf_119 hA hT hO M48 x1 x2 x3 x4 x5 hw
        · have hw := hw.2 hc
          refine x_iconst (v := 2) d_O_leaf_99 (by decide) ?_
          refine x_goto 124 d_O_leaf_100 rfl ?_
          refine x_sub [1, 2, 3, 4, 5, 6] [(0, .ref 116), (1, .int x1), (2, .int x2), (3, .int x3), (4, .int x4), (5, .int x5)] rfl ?_
          exact t_O_leaf_124 hA hT hO M48 x1 x2 x3 x4 x5 (2 : Int32) hw
      · have hw := hw.2 hc
        refine x_sub [1, 2, 3, 4, 5, 6] [(0, .ref 116), (1, .int x1), (2, .int x2), (3, .int x3), (4, .int x4), (5, .int x5)] rfl ?_
        exact t_O_leaf_87 hA hT hO M x1 x2 x3 x4 x5 hw
def k_O_leaf_64 (Q : Int32 → sdM → Prop) (M : sdM) (x1 : Int32) (x2 : Int32) (x3 : Int32) (x4 : Int32) (x5 : Int32) (x6 : Int32) : Prop := k_O_leaf_65 Q M x1 x2 x3 x4 x5 x6 (0 : Int32)
set_option maxHeartbeats 1000000 in
theorem t_O_leaf_64 (hA : sd_ad b n ad) (hT : l.stackTraces = false) (hO : isO n L dA) {Q : Int32 → sdM → Prop} (M : sdM) (x1 : Int32) (x2 : Int32) (x3 : Int32) (x4 : Int32) (x5 : Int32) (x6 : Int32) (hw : k_O_leaf_64 Q M x1 x2 x3 x4 x5 x6) : sdW l (sdE0 sc) Y_O_leaf D (sd_tys dA) b n ad L ad (sd_H D (sdE0 sc).1 n ad L) (sd_qi Q) sd_xf 64 [(0, .ref 116), (1, .int x1), (2, .int x2), (3, .int x3), (4, .int x4), (5, .int x5), (6, .int x6)] [] M 0 0 := by
  unfold k_O_leaf_64 at hw
  refine x_iconst (v := 0) d_O_leaf_64 (by decide) ?_
  exact t_O_leaf_65 hA hT hO M x1 x2 x3 x4 x5 x6 (0 : Int32) hw
def k_O_leaf_23 (Q : Int32 → sdM → Prop) (M : sdM) (x1 : Int32) (x2 : Int32) (x3 : Int32) (x4 : Int32) (x5 : Int32) (s0 : Int32) : Prop := (¬ x2 = 0 → (¬ x2 = (1 : Int32) → k_O_leaf_64 Q M x1 x2 x3 x4 x5 s0) ∧ (x2 = (1 : Int32) → (x3 ≤ 0 → k_O_leaf_64 Q M x1 x2 x3 x4 x5 s0) ∧ (¬ x3 ≤ 0 → ((M 116 2) ≤ x3 → k_O_leaf_64 Q M x1 x2 x3 x4 x5 s0) ∧ (¬ (M 116 2) ≤ x3 → k_O_leaf_65 Q M x1 x2 x3 x4 x5 s0 (1 : Int32))))) ∧ (x2 = 0 → (x4 < x3 → k_O_leaf_65 Q M x1 x2 x3 x4 x5 s0 (0 : Int32)) ∧ (¬ x4 < x3 → k_O_leaf_65 Q M x1 x2 x3 x4 x5 s0 (1 : Int32)))
set_option maxHeartbeats 1000000 in
theorem t_O_leaf_23 (hA : sd_ad b n ad) (hT : l.stackTraces = false) (hO : isO n L dA) {Q : Int32 → sdM → Prop} (M : sdM) (x1 : Int32) (x2 : Int32) (x3 : Int32) (x4 : Int32) (x5 : Int32) (s0 : Int32) (hw : k_O_leaf_23 Q M x1 x2 x3 x4 x5 s0) : sdW l (sdE0 sc) Y_O_leaf D (sd_tys dA) b n ad L ad (sd_H D (sdE0 sc).1 n ad L) (sd_qi Q) sd_xf 23 [(0, .ref 116), (1, .int x1), (2, .int x2), (3, .int x3), (4, .int x4), (5, .int x5)] [.int s0] M 0 0 := by
  unfold k_O_leaf_23 at hw
  refine x_istore 6 [(6, .int s0), (0, .ref 116), (1, .int x1), (2, .int x2), (3, .int x3), (4, .int x4), (5, .int x5)] d_O_leaf_23 (by decide) rfl ?_
  refine x_iload_n 2 3 d_O_leaf_25 rfl rfl ?_
  refine x_if_ne 43 d_O_leaf_26 rfl (fun hc => ?_) (fun hc => ?_)
  · have hw := hw.1 hc
    refine x_iload_n 2 3 d_O_leaf_43 rfl rfl ?_
    refine x_iconst (v := 1) d_O_leaf_44 (by decide) ?_
    refine x_icmp_ne 64 d_O_leaf_45 rfl (fun hc => ?_) (fun hc => ?_)
    · have hw := hw.1 hc
      refine x_sub [1, 2, 3, 4, 5, 6, 0] [(0, .ref 116), (1, .int x1), (2, .int x2), (3, .int x3), (4, .int x4), (5, .int x5), (6, .int s0)] rfl ?_
      exact t_O_leaf_64 hA hT hO M x1 x2 x3 x4 x5 s0 hw
    · have hw := hw.2 hc
      refine x_iload_n 3 4 d_O_leaf_48 rfl rfl ?_
      refine x_if_le 64 d_O_leaf_49 rfl (fun hc => ?_) (fun hc => ?_)
      · have hw := hw.1 hc
        refine x_sub [1, 2, 3, 4, 5, 6, 0] [(0, .ref 116), (1, .int x1), (2, .int x2), (3, .int x3), (4, .int x4), (5, .int x5), (6, .int s0)] rfl ?_
        exact t_O_leaf_64 hA hT hO M x1 x2 x3 x4 x5 s0 hw
      · have hw := hw.2 hc
        refine x_iload_n 3 4 d_O_leaf_52 rfl rfl ?_
        refine x_aload_n 0 1 d_O_leaf_53 rfl rfl ?_
        refine x_geti 2 d_O_leaf_54 hO.1 hO.2.1 rfl rfl (by decide) lay_O (List.mem_cons_of_mem _ q449) rfl ?_
        refine x_icmp_ge 64 d_O_leaf_57 rfl (fun hc => ?_) (fun hc => ?_)
        · have hw := hw.1 hc
          refine x_sub [1, 2, 3, 4, 5, 6, 0] [(0, .ref 116), (1, .int x1), (2, .int x2), (3, .int x3), (4, .int x4), (5, .int x5), (6, .int s0)] rfl ?_
          exact t_O_leaf_64 hA hT hO M x1 x2 x3 x4 x5 s0 hw
        · have hw := hw.2 hc
          refine x_iconst (v := 1) d_O_leaf_60 (by decide) ?_
          refine x_goto 65 d_O_leaf_61 rfl ?_
          refine x_sub [1, 2, 3, 4, 5, 6, 0] [(0, .ref 116), (1, .int x1), (2, .int x2), (3, .int x3), (4, .int x4), (5, .int x5), (6, .int s0)] rfl ?_
          exact t_O_leaf_65 hA hT hO M x1 x2 x3 x4 x5 s0 (1 : Int32) hw
  · have hw := hw.2 hc
    refine x_iload_n 3 4 d_O_leaf_29 rfl rfl ?_
    refine x_iload 4 5 d_O_leaf_30 rfl ?_
    refine x_icmp_gt 39 d_O_leaf_32 rfl (fun hc => ?_) (fun hc => ?_)
    · have hw := hw.1 hc
      refine x_iconst (v := 0) d_O_leaf_39 (by decide) ?_
      refine x_goto 65 d_O_leaf_40 rfl ?_
      refine x_sub [1, 2, 3, 4, 5, 6, 0] [(0, .ref 116), (1, .int x1), (2, .int x2), (3, .int x3), (4, .int x4), (5, .int x5), (6, .int s0)] rfl ?_
      exact t_O_leaf_65 hA hT hO M x1 x2 x3 x4 x5 s0 (0 : Int32) hw
    · have hw := hw.2 hc
      refine x_iconst (v := 1) d_O_leaf_35 (by decide) ?_
      refine x_goto 65 d_O_leaf_36 rfl ?_
      refine x_sub [1, 2, 3, 4, 5, 6, 0] [(0, .ref 116), (1, .int x1), (2, .int x2), (3, .int x3), (4, .int x4), (5, .int x5), (6, .int s0)] rfl ?_
      exact t_O_leaf_65 hA hT hO M x1 x2 x3 x4 x5 s0 (1 : Int32) hw
def k_O_leaf_22 (Q : Int32 → sdM → Prop) (M : sdM) (x1 : Int32) (x2 : Int32) (x3 : Int32) (x4 : Int32) (x5 : Int32) : Prop := k_O_leaf_23 Q M x1 x2 x3 x4 x5 (0 : Int32)
set_option maxHeartbeats 1000000 in
theorem t_O_leaf_22 (hA : sd_ad b n ad) (hT : l.stackTraces = false) (hO : isO n L dA) {Q : Int32 → sdM → Prop} (M : sdM) (x1 : Int32) (x2 : Int32) (x3 : Int32) (x4 : Int32) (x5 : Int32) (hw : k_O_leaf_22 Q M x1 x2 x3 x4 x5) : sdW l (sdE0 sc) Y_O_leaf D (sd_tys dA) b n ad L ad (sd_H D (sdE0 sc).1 n ad L) (sd_qi Q) sd_xf 22 [(0, .ref 116), (1, .int x1), (2, .int x2), (3, .int x3), (4, .int x4), (5, .int x5)] [] M 0 0 := by
  unfold k_O_leaf_22 at hw
  refine x_iconst (v := 0) d_O_leaf_22 (by decide) ?_
  exact t_O_leaf_23 hA hT hO M x1 x2 x3 x4 x5 (0 : Int32) hw
def w_O_leaf (M : sdM) (a1 : Int32) (a2 : Int32) (a3 : Int32) (a4 : Int32) (a5 : Int32) (Q : Int32 → sdM → Prop) : Prop := w_O_isList M a1 (fun r51 M50 => (r51 = 0 → k_O_leaf_22 Q M50 a1 a2 a3 a4 a5) ∧ (¬ r51 = 0 → vp_in a1 4 ∧ (¬ (M50 117 a1.toNatClampNeg) = (4 : Int32) → k_O_leaf_22 Q M50 a1 a2 a3 a4 a5) ∧ ((M50 117 a1.toNatClampNeg) = (4 : Int32) → k_O_leaf_23 Q M50 a1 a2 a3 a4 a5 (1 : Int32))))
set_option maxHeartbeats 1000000 in
theorem c_O_leaf {a1 : Int32} {a2 : Int32} {a3 : Int32} {a4 : Int32} {a5 : Int32} (hA : sd_ad b n ad) (hT : l.stackTraces = false) (hO : isO n L dA) {Q : Int32 → sdM → Prop} {M : sdM} (hw : w_O_leaf M a1 a2 a3 a4 a5 Q) : sd_Cn l (sdE0 sc) y_O_leaf Y_O_leaf.2.2.2.2.1 Y_O_leaf.2.2.2.2.2.1 0 0 D (sd_tys dA) b n ad L M [.ref 116, .int a1, .int a2, .int a3, .int a4, .int a5] (sd_qi Q) sd_xf := by
  refine sd_enter (Y := Y_O_leaf) rfl rfl rfl rfl (Nat.le_of_ble_eq_true rfl) ?_
  show sdW l (sdE0 sc) Y_O_leaf D (sd_tys dA) b n ad L ad (sd_H D (sdE0 sc).1 n ad L) (sd_qi Q) sd_xf 0 [(0, .ref 116), (1, .int a1), (2, .int a2), (3, .int a3), (4, .int a4), (5, .int a5)] [] M 0 0
  unfold w_O_leaf at hw
  refine x_aload_n 0 0 d_O_leaf_0 rfl rfl ?_
  refine x_iload_n 1 1 d_O_leaf_1 rfl rfl ?_
  refine x_callVi (As := [.int a1]) (t := 116) (rest := []) (rc := 0) (rs := 0) (c_O_isList hA hT hO hw) cw_O_leaf_O_isList_72 hO.1 hO.2.1 rfl d_O_leaf_2 rfl rfl (Nat.le_of_ble_eq_true rfl) rfl (fun _ _ h => h.elim) (fun _ _ h => h) (fun r51 M50 hw => ?_)
  refine x_if_eq 22 d_O_leaf_5 rfl (fun hc => ?_) (fun hc => ?_)
  · have hw := hw.1 hc
    exact t_O_leaf_22 hA hT hO M50 a1 a2 a3 a4 a5 hw
  · have hw := hw.2 hc
    refine x_aload_n 0 0 d_O_leaf_8 rfl rfl ?_
    refine x_getr 3 117 d_O_leaf_9 hO.1 hO.2.1 rfl rfl (by decide) lay_O (List.mem_cons_of_mem _ q450) rfl ?_
    refine x_iload_n 1 1 d_O_leaf_12 rfl rfl ?_
    obtain ⟨hi52, hw⟩ := hw
    refine x_iald d_O_leaf_13 hO.leaves.1 hO.leaves.2 rfl hi52 ?_
    refine x_iconst (v := 4) d_O_leaf_14 (by decide) ?_
    refine x_icmp_ne 22 d_O_leaf_15 rfl (fun hc => ?_) (fun hc => ?_)
    · have hw := hw.1 hc
      exact t_O_leaf_22 hA hT hO M50 a1 a2 a3 a4 a5 hw
    · have hw := hw.2 hc
      refine x_iconst (v := 1) d_O_leaf_18 (by decide) ?_
      refine x_goto 23 d_O_leaf_19 rfl ?_
      exact t_O_leaf_23 hA hT hO M50 a1 a2 a3 a4 a5 (1 : Int32) hw
end
abbrev y_O_isLeaf : MethodName := ⟨"SettingsDeskModel", "isLeaf", "(II)Z"⟩
theorem d_O_isLeaf_0 : decode prog_12_method_4_code 0 = .ok (.aload_n 0, 1) := by decide +kernel
theorem d_O_isLeaf_1 : decode prog_12_method_4_code 1 = .ok (.iload_n 1, 1) := by decide +kernel
theorem d_O_isLeaf_2 : decode prog_12_method_4_code 2 = .ok (.invokevirtual 72, 3) := by decide +kernel
theorem d_O_isLeaf_5 : decode prog_12_method_4_code 5 = .ok (.ifCond .eq (21), 3) := by decide +kernel
theorem d_O_isLeaf_8 : decode prog_12_method_4_code 8 = .ok (.iload_n 2, 1) := by decide +kernel
theorem d_O_isLeaf_9 : decode prog_12_method_4_code 9 = .ok (.ifCond .lt (17), 3) := by decide +kernel
theorem d_O_isLeaf_12 : decode prog_12_method_4_code 12 = .ok (.iload_n 2, 1) := by decide +kernel
theorem d_O_isLeaf_13 : decode prog_12_method_4_code 13 = .ok (.aload_n 0, 1) := by decide +kernel
theorem d_O_isLeaf_14 : decode prog_12_method_4_code 14 = .ok (.getfield 13, 3) := by decide +kernel
theorem d_O_isLeaf_17 : decode prog_12_method_4_code 17 = .ok (.iload_n 1, 1) := by decide +kernel
theorem d_O_isLeaf_18 : decode prog_12_method_4_code 18 = .ok (.iaload, 1) := by decide +kernel
theorem d_O_isLeaf_19 : decode prog_12_method_4_code 19 = .ok (.if_icmp .ge (7), 3) := by decide +kernel
theorem d_O_isLeaf_22 : decode prog_12_method_4_code 22 = .ok (.iconst 1, 1) := by decide +kernel
theorem d_O_isLeaf_23 : decode prog_12_method_4_code 23 = .ok (.goto (4), 3) := by decide +kernel
theorem d_O_isLeaf_26 : decode prog_12_method_4_code 26 = .ok (.iconst 0, 1) := by decide +kernel
theorem d_O_isLeaf_27 : decode prog_12_method_4_code 27 = .ok (.ireturn, 1) := by decide +kernel
def Y_O_isLeaf : sdY := ("SettingsDeskModel", prog_12_method_4_code, 3, (some .boolean), .code y_O_isLeaf prog_12_method_4_code 3 (some .boolean) :: sdB0, { frames := 1, cells := 0, slots := 0, locals := 21 }, 0, 0, [])
theorem cw_O_isLeaf_O_isList_72 : sd_cwV Y_O_isLeaf Y_O_isList y_O_isList 72 1 "SettingsDeskModel" := ⟨sd_goodV q455 q457 q458 q459 q456, ⟨_, rfl⟩, ⟨rfl, rfl, rfl, rfl⟩, ⟨rfl, by decide, by decide, by decide +kernel⟩, ⟨by decide, by decide⟩⟩
section
variable {l : Launch} {D : va_G} {dA : Nat → ClassId} {b n : Nat} {ad : Nat → Nat} {L : Nat → sdL} {sc : Option (Nat × Nat × (Nat → Int32))}
def k_O_isLeaf_27 (Q : Int32 → sdM → Prop) (M : sdM) (s0 : Int32) : Prop := sdB s0 ∧ Q s0 M
set_option maxHeartbeats 1000000 in
theorem t_O_isLeaf_27 (hA : sd_ad b n ad) (hT : l.stackTraces = false) (hO : isO n L dA) {Q : Int32 → sdM → Prop} (M : sdM) (s0 : Int32) (hw : k_O_isLeaf_27 Q M s0) : sdW l (sdE0 sc) Y_O_isLeaf D (sd_tys dA) b n ad L ad (sd_H D (sdE0 sc).1 n ad L) (sd_qi Q) sd_xf 27 [] [.int s0] M 0 0 := by
  unfold k_O_isLeaf_27 at hw
  exact x_zret d_O_isLeaf_27 rfl (sdB_n hw.1) (fun _ h => h) ⟨_, rfl, hw.2⟩
def k_O_isLeaf_26 (Q : Int32 → sdM → Prop) (M : sdM) : Prop := k_O_isLeaf_27 Q M (0 : Int32)
set_option maxHeartbeats 1000000 in
theorem t_O_isLeaf_26 (hA : sd_ad b n ad) (hT : l.stackTraces = false) (hO : isO n L dA) {Q : Int32 → sdM → Prop} (M : sdM) (hw : k_O_isLeaf_26 Q M ) : sdW l (sdE0 sc) Y_O_isLeaf D (sd_tys dA) b n ad L ad (sd_H D (sdE0 sc).1 n ad L) (sd_qi Q) sd_xf 26 [] [] M 0 0 := by
  unfold k_O_isLeaf_26 at hw
  refine x_iconst (v := 0) d_O_isLeaf_26 (by decide) ?_
  exact t_O_isLeaf_27 hA hT hO M (0 : Int32) hw
def w_O_isLeaf (M : sdM) (a1 : Int32) (a2 : Int32) (Q : Int32 → sdM → Prop) : Prop := w_O_isList M a1 (fun r5 M4 => (r5 = 0 → k_O_isLeaf_26 Q M4) ∧ (¬ r5 = 0 → (a2 < 0 → k_O_isLeaf_26 Q M4) ∧ (¬ a2 < 0 → vp_in a1 4 ∧ ((M4 117 a1.toNatClampNeg) ≤ a2 → k_O_isLeaf_26 Q M4) ∧ (¬ (M4 117 a1.toNatClampNeg) ≤ a2 → k_O_isLeaf_27 Q M4 (1 : Int32)))))
set_option maxHeartbeats 1000000 in
theorem c_O_isLeaf {a1 : Int32} {a2 : Int32} (hA : sd_ad b n ad) (hT : l.stackTraces = false) (hO : isO n L dA) {Q : Int32 → sdM → Prop} {M : sdM} (hw : w_O_isLeaf M a1 a2 Q) : sd_Cn l (sdE0 sc) y_O_isLeaf Y_O_isLeaf.2.2.2.2.1 Y_O_isLeaf.2.2.2.2.2.1 0 0 D (sd_tys dA) b n ad L M [.ref 116, .int a1, .int a2] (sd_qi Q) sd_xf := by
  refine sd_enter (Y := Y_O_isLeaf) rfl rfl rfl rfl (Nat.le_of_ble_eq_true rfl) ?_
  show sdW l (sdE0 sc) Y_O_isLeaf D (sd_tys dA) b n ad L ad (sd_H D (sdE0 sc).1 n ad L) (sd_qi Q) sd_xf 0 [(0, .ref 116), (1, .int a1), (2, .int a2)] [] M 0 0
  unfold w_O_isLeaf at hw
  refine x_aload_n 0 0 d_O_isLeaf_0 rfl rfl ?_
  refine x_iload_n 1 1 d_O_isLeaf_1 rfl rfl ?_
  refine x_callVi (As := [.int a1]) (t := 116) (rest := []) (rc := 0) (rs := 0) (c_O_isList hA hT hO hw) cw_O_isLeaf_O_isList_72 hO.1 hO.2.1 rfl d_O_isLeaf_2 rfl rfl (Nat.le_of_ble_eq_true rfl) rfl (fun _ _ h => h.elim) (fun _ _ h => h) (fun r5 M4 hw => ?_)
  refine x_if_eq 26 d_O_isLeaf_5 rfl (fun hc => ?_) (fun hc => ?_)
  · have hw := hw.1 hc
    refine x_sub [] [] rfl ?_
    exact t_O_isLeaf_26 hA hT hO M4 hw
  · have hw := hw.2 hc
    refine x_iload_n 2 2 d_O_isLeaf_8 rfl rfl ?_
    refine x_if_lt 26 d_O_isLeaf_9 rfl (fun hc => ?_) (fun hc => ?_)
    · have hw := hw.1 hc
      refine x_sub [] [] rfl ?_
      exact t_O_isLeaf_26 hA hT hO M4 hw
    · have hw := hw.2 hc
      refine x_iload_n 2 2 d_O_isLeaf_12 rfl rfl ?_
      refine x_aload_n 0 0 d_O_isLeaf_13 rfl rfl ?_
      refine x_getr 3 117 d_O_isLeaf_14 hO.1 hO.2.1 rfl rfl (by decide) lay_O (List.mem_cons_of_mem _ q450) rfl ?_
      refine x_iload_n 1 1 d_O_isLeaf_17 rfl rfl ?_
      obtain ⟨hi6, hw⟩ := hw
      refine x_iald d_O_isLeaf_18 hO.leaves.1 hO.leaves.2 rfl hi6 ?_
      refine x_icmp_ge 26 d_O_isLeaf_19 rfl (fun hc => ?_) (fun hc => ?_)
      · have hw := hw.1 hc
        refine x_sub [] [] rfl ?_
        exact t_O_isLeaf_26 hA hT hO M4 hw
      · have hw := hw.2 hc
        refine x_iconst (v := 1) d_O_isLeaf_22 (by decide) ?_
        refine x_goto 27 d_O_isLeaf_23 rfl ?_
        refine x_sub [] [] rfl ?_
        exact t_O_isLeaf_27 hA hT hO M4 (1 : Int32) hw
end
theorem q460 : (.fieldLink "SettingsDeskModel" 30 "SettingsDeskModel" "hasStandard" "[Z" : Cond) ∈ sdB0 := sd_tb4 167 rfl rfl
theorem q461 : (.fieldLink "SettingsDeskModel" 33 "SettingsDeskModel" "standards" "[I" : Cond) ∈ sdB0 := sd_tb4 168 rfl rfl
theorem q462 : (.methodLink "SettingsDeskModel" 83 ⟨"SettingsDeskModel", "isLeaf", "(II)Z"⟩ : Cond) ∈ sdB0 := sd_tb5 46 rfl rfl
theorem q463 : (.code ⟨"SettingsDeskModel", "isLeaf", "(II)Z"⟩ prog_12_method_4_code 3 (some .boolean) : Cond) ∈ sdB0 := sd_tb5 49 rfl rfl
theorem q464 : (.instanceMethod ⟨"SettingsDeskModel", "isLeaf", "(II)Z"⟩ : Cond) ∈ sdB0 := sd_tb5 48 rfl rfl
theorem q465 : (.selects "SettingsDeskModel" ⟨"SettingsDeskModel", "isLeaf", "(II)Z"⟩ ⟨"SettingsDeskModel", "isLeaf", "(II)Z"⟩ : Cond) ∈ sdB0 := sd_tbp (q := (⟨"SettingsDeskModel", "isLeaf", "(II)Z"⟩, 35)) (List.mem_of_getElem? (i := 16) rfl)
abbrev y_O_standard : MethodName := ⟨"SettingsDeskModel", "standard", "(III)V"⟩
theorem d_O_standard_0 : decode prog_12_method_8_code 0 = .ok (.aload_n 0, 1) := by decide +kernel
theorem d_O_standard_1 : decode prog_12_method_8_code 1 = .ok (.iload_n 1, 1) := by decide +kernel
theorem d_O_standard_2 : decode prog_12_method_8_code 2 = .ok (.iload_n 2, 1) := by decide +kernel
theorem d_O_standard_3 : decode prog_12_method_8_code 3 = .ok (.invokevirtual 83, 3) := by decide +kernel
theorem d_O_standard_6 : decode prog_12_method_8_code 6 = .ok (.ifCond .eq (11), 3) := by decide +kernel
theorem d_O_standard_9 : decode prog_12_method_8_code 9 = .ok (.iconst 4, 1) := by decide +kernel
theorem d_O_standard_10 : decode prog_12_method_8_code 10 = .ok (.iload_n 1, 1) := by decide +kernel
theorem d_O_standard_11 : decode prog_12_method_8_code 11 = .ok (.imul, 1) := by decide +kernel
theorem d_O_standard_12 : decode prog_12_method_8_code 12 = .ok (.iload_n 2, 1) := by decide +kernel
theorem d_O_standard_13 : decode prog_12_method_8_code 13 = .ok (.iadd, 1) := by decide +kernel
theorem d_O_standard_14 : decode prog_12_method_8_code 14 = .ok (.goto (4), 3) := by decide +kernel
theorem d_O_standard_17 : decode prog_12_method_8_code 17 = .ok (.iconst 0, 1) := by decide +kernel
theorem d_O_standard_18 : decode prog_12_method_8_code 18 = .ok (.istore 4, 2) := by decide +kernel
theorem d_O_standard_20 : decode prog_12_method_8_code 20 = .ok (.aload_n 0, 1) := by decide +kernel
theorem d_O_standard_21 : decode prog_12_method_8_code 21 = .ok (.getfield 17, 3) := by decide +kernel
theorem d_O_standard_24 : decode prog_12_method_8_code 24 = .ok (.iload 4, 2) := by decide +kernel
theorem d_O_standard_26 : decode prog_12_method_8_code 26 = .ok (.baload, 1) := by decide +kernel
theorem d_O_standard_27 : decode prog_12_method_8_code 27 = .ok (.ifCond .ne (29), 3) := by decide +kernel
theorem d_O_standard_30 : decode prog_12_method_8_code 30 = .ok (.iload_n 3, 1) := by decide +kernel
theorem d_O_standard_31 : decode prog_12_method_8_code 31 = .ok (.aload_n 0, 1) := by decide +kernel
theorem d_O_standard_32 : decode prog_12_method_8_code 32 = .ok (.getfield 21, 3) := by decide +kernel
theorem d_O_standard_35 : decode prog_12_method_8_code 35 = .ok (.iload 4, 2) := by decide +kernel
theorem d_O_standard_37 : decode prog_12_method_8_code 37 = .ok (.iaload, 1) := by decide +kernel
theorem d_O_standard_38 : decode prog_12_method_8_code 38 = .ok (.if_icmp .lt (18), 3) := by decide +kernel
theorem d_O_standard_41 : decode prog_12_method_8_code 41 = .ok (.iload_n 3, 1) := by decide +kernel
theorem d_O_standard_42 : decode prog_12_method_8_code 42 = .ok (.aload_n 0, 1) := by decide +kernel
theorem d_O_standard_43 : decode prog_12_method_8_code 43 = .ok (.getfield 24, 3) := by decide +kernel
theorem d_O_standard_46 : decode prog_12_method_8_code 46 = .ok (.iload 4, 2) := by decide +kernel
theorem d_O_standard_48 : decode prog_12_method_8_code 48 = .ok (.iaload, 1) := by decide +kernel
theorem d_O_standard_49 : decode prog_12_method_8_code 49 = .ok (.if_icmp .gt (7), 3) := by decide +kernel
theorem d_O_standard_52 : decode prog_12_method_8_code 52 = .ok (.iconst 1, 1) := by decide +kernel
theorem d_O_standard_53 : decode prog_12_method_8_code 53 = .ok (.goto (4), 3) := by decide +kernel
theorem d_O_standard_56 : decode prog_12_method_8_code 56 = .ok (.iconst 0, 1) := by decide +kernel
theorem d_O_standard_57 : decode prog_12_method_8_code 57 = .ok (.istore 5, 2) := by decide +kernel
theorem d_O_standard_59 : decode prog_12_method_8_code 59 = .ok (.aload_n 0, 1) := by decide +kernel
theorem d_O_standard_60 : decode prog_12_method_8_code 60 = .ok (.aload_n 0, 1) := by decide +kernel
theorem d_O_standard_61 : decode prog_12_method_8_code 61 = .ok (.getfield 76, 3) := by decide +kernel
theorem d_O_standard_64 : decode prog_12_method_8_code 64 = .ok (.ifCond .ne (10), 3) := by decide +kernel
theorem d_O_standard_67 : decode prog_12_method_8_code 67 = .ok (.aload_n 0, 1) := by decide +kernel
theorem d_O_standard_68 : decode prog_12_method_8_code 68 = .ok (.getfield 80, 3) := by decide +kernel
theorem d_O_standard_71 : decode prog_12_method_8_code 71 = .ok (.ifCond .eq (7), 3) := by decide +kernel
theorem d_O_standard_74 : decode prog_12_method_8_code 74 = .ok (.iconst 1, 1) := by decide +kernel
theorem d_O_standard_75 : decode prog_12_method_8_code 75 = .ok (.goto (26), 3) := by decide +kernel
theorem d_O_standard_78 : decode prog_12_method_8_code 78 = .ok (.aload_n 0, 1) := by decide +kernel
theorem d_O_standard_79 : decode prog_12_method_8_code 79 = .ok (.iload_n 1, 1) := by decide +kernel
theorem d_O_standard_80 : decode prog_12_method_8_code 80 = .ok (.iload_n 2, 1) := by decide +kernel
theorem d_O_standard_81 : decode prog_12_method_8_code 81 = .ok (.invokevirtual 83, 3) := by decide +kernel
theorem d_O_standard_84 : decode prog_12_method_8_code 84 = .ok (.ifCond .ne (7), 3) := by decide +kernel
theorem d_O_standard_87 : decode prog_12_method_8_code 87 = .ok (.iconst 2, 1) := by decide +kernel
theorem d_O_standard_88 : decode prog_12_method_8_code 88 = .ok (.goto (13), 3) := by decide +kernel
theorem d_O_standard_91 : decode prog_12_method_8_code 91 = .ok (.iload 5, 2) := by decide +kernel
theorem d_O_standard_93 : decode prog_12_method_8_code 93 = .ok (.ifCond .eq (7), 3) := by decide +kernel
theorem d_O_standard_96 : decode prog_12_method_8_code 96 = .ok (.iconst 0, 1) := by decide +kernel
theorem d_O_standard_97 : decode prog_12_method_8_code 97 = .ok (.goto (4), 3) := by decide +kernel
theorem d_O_standard_100 : decode prog_12_method_8_code 100 = .ok (.iconst 3, 1) := by decide +kernel
theorem d_O_standard_101 : decode prog_12_method_8_code 101 = .ok (.putfield 69, 3) := by decide +kernel
theorem d_O_standard_104 : decode prog_12_method_8_code 104 = .ok (.aload_n 0, 1) := by decide +kernel
theorem d_O_standard_105 : decode prog_12_method_8_code 105 = .ok (.getfield 69, 3) := by decide +kernel
theorem d_O_standard_108 : decode prog_12_method_8_code 108 = .ok (.ifCond .ne (19), 3) := by decide +kernel
theorem d_O_standard_111 : decode prog_12_method_8_code 111 = .ok (.aload_n 0, 1) := by decide +kernel
theorem d_O_standard_112 : decode prog_12_method_8_code 112 = .ok (.getfield 30, 3) := by decide +kernel
theorem d_O_standard_115 : decode prog_12_method_8_code 115 = .ok (.iload 4, 2) := by decide +kernel
theorem d_O_standard_117 : decode prog_12_method_8_code 117 = .ok (.iconst 1, 1) := by decide +kernel
theorem d_O_standard_118 : decode prog_12_method_8_code 118 = .ok (.bastore, 1) := by decide +kernel
theorem d_O_standard_119 : decode prog_12_method_8_code 119 = .ok (.aload_n 0, 1) := by decide +kernel
theorem d_O_standard_120 : decode prog_12_method_8_code 120 = .ok (.getfield 33, 3) := by decide +kernel
theorem d_O_standard_123 : decode prog_12_method_8_code 123 = .ok (.iload 4, 2) := by decide +kernel
theorem d_O_standard_125 : decode prog_12_method_8_code 125 = .ok (.iload_n 3, 1) := by decide +kernel
theorem d_O_standard_126 : decode prog_12_method_8_code 126 = .ok (.iastore, 1) := by decide +kernel
theorem d_O_standard_127 : decode prog_12_method_8_code 127 = .ok (.return_, 1) := by decide +kernel
def Y_O_standard : sdY := ("SettingsDeskModel", prog_12_method_8_code, 6, none, .code y_O_standard prog_12_method_8_code 6 none :: sdB0, { frames := 2, cells := 0, slots := 0, locals := 43 }, 0, 0, [])
theorem cw_O_standard_O_isLeaf_83 : sd_cwV Y_O_standard Y_O_isLeaf y_O_isLeaf 83 2 "SettingsDeskModel" := ⟨sd_goodV q462 q464 q465 q459 q463, ⟨_, rfl⟩, ⟨rfl, rfl, rfl, rfl⟩, ⟨rfl, by decide, by decide, by decide +kernel⟩, ⟨by decide, by decide⟩⟩
section
variable {l : Launch} {D : va_G} {dA : Nat → ClassId} {b n : Nat} {ad : Nat → Nat} {L : Nat → sdL} {sc : Option (Nat × Nat × (Nat → Int32))}
def k_O_standard_127 (Q : sdM → Prop) (M : sdM) : Prop := Q M
set_option maxHeartbeats 1000000 in
theorem t_O_standard_127 (hA : sd_ad b n ad) (hT : l.stackTraces = false) (hO : isO n L dA) {Q : sdM → Prop} (M : sdM) (hw : k_O_standard_127 Q M ) : sdW l (sdE0 sc) Y_O_standard D (sd_tys dA) b n ad L ad (sd_H D (sdE0 sc).1 n ad L) (sd_qv Q) sd_xf 127 [] [] M 0 0 := by
  unfold k_O_standard_127 at hw
  exact x_vret d_O_standard_127 rfl (fun _ h => h) ⟨rfl, hw⟩
def k_O_standard_101 (Q : sdM → Prop) (M : sdM) (x3 : Int32) (x4 : Int32) (s1 : Int32) : Prop := ∀ M17 : sdM, M17 = sd_s M 116 0 s1 → (¬ (M17 116 0) = 0 → k_O_standard_127 Q M17) ∧ ((M17 116 0) = 0 → vp_in x4 16 ∧ sdB (1 : Int32) ∧ ∀ M21 : sdM, M21 = sd_s M17 122 x4.toNatClampNeg (1 : Int32) → vp_in x4 16 ∧ ∀ M24 : sdM, M24 = sd_s M21 123 x4.toNatClampNeg x3 → k_O_standard_127 Q M24)
set_option maxHeartbeats 1000000 in
theorem t_O_standard_101 (hA : sd_ad b n ad) (hT : l.stackTraces = false) (hO : isO n L dA) {Q : sdM → Prop} (M : sdM) (x3 : Int32) (x4 : Int32) (s1 : Int32) (hw : k_O_standard_101 Q M x3 x4 s1) : sdW l (sdE0 sc) Y_O_standard D (sd_tys dA) b n ad L ad (sd_H D (sdE0 sc).1 n ad L) (sd_qv Q) sd_xf 101 [(0, .ref 116), (3, .int x3), (4, .int x4)] [.int s1, .ref 116] M 0 0 := by
  unfold k_O_standard_101 at hw
  refine x_puti 0 (ty := .int) hA d_O_standard_101 hO.1 hO.2.1 rfl rfl (by decide) lay_O (List.mem_cons_of_mem _ q446) rfl ty_O ty_O_ok nm_O rfl (by decide +kernel) rfl rfl (fun M17 e18 => ?_)
  have hw := hw M17 e18
  clear e18
  refine x_aload_n 0 0 d_O_standard_104 rfl rfl ?_
  refine x_geti 0 d_O_standard_105 hO.1 hO.2.1 rfl rfl (by decide) lay_O (List.mem_cons_of_mem _ q446) rfl ?_
  refine x_if_ne 127 d_O_standard_108 rfl (fun hc => ?_) (fun hc => ?_)
  · have hw := hw.1 hc
    refine x_sub [] [] rfl ?_
    exact t_O_standard_127 hA hT hO M17 hw
  · have hw := hw.2 hc
    refine x_aload_n 0 0 d_O_standard_111 rfl rfl ?_
    refine x_getr 8 122 d_O_standard_112 hO.1 hO.2.1 rfl rfl (by decide) lay_O (List.mem_cons_of_mem _ q460) rfl ?_
    refine x_iload 4 2 d_O_standard_115 rfl ?_
    refine x_iconst (v := 1) d_O_standard_117 (by decide) ?_
    obtain ⟨hi19, hw⟩ := hw
    obtain ⟨hb20, hw⟩ := hw
    refine x_zast hA d_O_standard_118 hO.hasStandard.1 hO.hasStandard.2 rfl hi19 (sdB_v hb20) (fun M21 e22 => ?_)
    have hw := hw M21 e22
    clear e22
    refine x_aload_n 0 0 d_O_standard_119 rfl rfl ?_
    refine x_getr 9 123 d_O_standard_120 hO.1 hO.2.1 rfl rfl (by decide) lay_O (List.mem_cons_of_mem _ q461) rfl ?_
    refine x_iload 4 2 d_O_standard_123 rfl ?_
    refine x_iload_n 3 1 d_O_standard_125 rfl rfl ?_
    obtain ⟨hi23, hw⟩ := hw
    refine x_iast hA d_O_standard_126 hO.standards.1 hO.standards.2 rfl hi23 (fun M24 e25 => ?_)
    have hw := hw M24 e25
    clear e25
    refine x_sub [] [] rfl ?_
    exact t_O_standard_127 hA hT hO M24 hw
def k_O_standard_74 (Q : sdM → Prop) (M : sdM) (x3 : Int32) (x4 : Int32) : Prop := k_O_standard_101 Q M x3 x4 (1 : Int32)
set_option maxHeartbeats 1000000 in
theorem t_O_standard_74 (hA : sd_ad b n ad) (hT : l.stackTraces = false) (hO : isO n L dA) {Q : sdM → Prop} (M : sdM) (x3 : Int32) (x4 : Int32) (hw : k_O_standard_74 Q M x3 x4) : sdW l (sdE0 sc) Y_O_standard D (sd_tys dA) b n ad L ad (sd_H D (sdE0 sc).1 n ad L) (sd_qv Q) sd_xf 74 [(0, .ref 116), (3, .int x3), (4, .int x4)] [.ref 116] M 0 0 := by
  unfold k_O_standard_74 at hw
  refine x_iconst (v := 1) d_O_standard_74 (by decide) ?_
  refine x_goto 101 d_O_standard_75 rfl ?_
  exact t_O_standard_101 hA hT hO M x3 x4 (1 : Int32) hw
def k_O_standard_57 (Q : sdM → Prop) (M : sdM) (x1 : Int32) (x2 : Int32) (x3 : Int32) (x4 : Int32) (s0 : Int32) : Prop := (¬ (M 116 25) = 0 → k_O_standard_74 Q M x3 x4) ∧ ((M 116 25) = 0 → ((M 116 1) = 0 → w_O_isLeaf M x1 x2 (fun r27 M26 => (¬ r27 = 0 → (s0 = 0 → k_O_standard_101 Q M26 x3 x4 (3 : Int32)) ∧ (¬ s0 = 0 → k_O_standard_101 Q M26 x3 x4 (0 : Int32))) ∧ (r27 = 0 → k_O_standard_101 Q M26 x3 x4 (2 : Int32)))) ∧ (¬ (M 116 1) = 0 → k_O_standard_74 Q M x3 x4))
set_option maxHeartbeats 1000000 in
theorem t_O_standard_57 (hA : sd_ad b n ad) (hT : l.stackTraces = false) (hO : isO n L dA) {Q : sdM → Prop} (M : sdM) (x1 : Int32) (x2 : Int32) (x3 : Int32) (x4 : Int32) (s0 : Int32) (hw : k_O_standard_57 Q M x1 x2 x3 x4 s0) : sdW l (sdE0 sc) Y_O_standard D (sd_tys dA) b n ad L ad (sd_H D (sdE0 sc).1 n ad L) (sd_qv Q) sd_xf 57 [(0, .ref 116), (1, .int x1), (2, .int x2), (3, .int x3), (4, .int x4)] [.int s0] M 0 0 := by
  unfold k_O_standard_57 at hw
  refine x_istore 5 [(5, .int s0), (0, .ref 116), (1, .int x1), (2, .int x2), (3, .int x3), (4, .int x4)] d_O_standard_57 (by decide) rfl ?_
  refine x_aload_n 0 1 d_O_standard_59 rfl rfl ?_
  refine x_aload_n 0 1 d_O_standard_60 rfl rfl ?_
  refine x_geti 25 d_O_standard_61 hO.1 hO.2.1 rfl rfl (by decide) lay_O (List.mem_cons_of_mem _ q447) rfl ?_
  refine x_if_ne 74 d_O_standard_64 rfl (fun hc => ?_) (fun hc => ?_)
  · have hw := hw.1 hc
    refine x_sub [1, 4, 5] [(0, .ref 116), (3, .int x3), (4, .int x4)] rfl ?_
    exact t_O_standard_74 hA hT hO M x3 x4 hw
  · have hw := hw.2 hc
    refine x_aload_n 0 1 d_O_standard_67 rfl rfl ?_
    refine x_geti 1 d_O_standard_68 hO.1 hO.2.1 rfl rfl (by decide) lay_O (List.mem_cons_of_mem _ q448) rfl ?_
    refine x_if_eq 78 d_O_standard_71 rfl (fun hc => ?_) (fun hc => ?_)
    · have hw := hw.1 hc
      refine x_aload_n 0 1 d_O_standard_78 rfl rfl ?_
      refine x_iload_n 1 2 d_O_standard_79 rfl rfl ?_
      refine x_iload_n 2 3 d_O_standard_80 rfl rfl ?_
      refine x_callVi (As := [.int x1, .int x2]) (t := 116) (rest := [.ref 116]) (rc := 0) (rs := 0) (c_O_isLeaf hA hT hO hw) cw_O_standard_O_isLeaf_83 hO.1 hO.2.1 rfl d_O_standard_81 rfl rfl (Nat.le_of_ble_eq_true rfl) rfl (fun _ _ h => h.elim) (fun _ _ h => h) (fun r27 M26 hw => ?_)
      refine x_if_ne 91 d_O_standard_84 rfl (fun hc => ?_) (fun hc => ?_)
      · have hw := hw.1 hc
        refine x_iload 5 0 d_O_standard_91 rfl ?_
        refine x_if_eq 100 d_O_standard_93 rfl (fun hc => ?_) (fun hc => ?_)
        · have hw := hw.1 hc
          refine x_iconst (v := 3) d_O_standard_100 (by decide) ?_
          refine x_sub [1, 4, 5] [(0, .ref 116), (3, .int x3), (4, .int x4)] rfl ?_
          exact t_O_standard_101 hA hT hO M26 x3 x4 (3 : Int32) hw
        · have hw := hw.2 hc
          refine x_iconst (v := 0) d_O_standard_96 (by decide) ?_
          refine x_goto 101 d_O_standard_97 rfl ?_
          refine x_sub [1, 4, 5] [(0, .ref 116), (3, .int x3), (4, .int x4)] rfl ?_
          exact t_O_standard_101 hA hT hO M26 x3 x4 (0 : Int32) hw
      · have hw := hw.2 hc
        refine x_iconst (v := 2) d_O_standard_87 (by decide) ?_
        refine x_goto 101 d_O_standard_88 rfl ?_
        refine x_sub [1, 4, 5] [(0, .ref 116), (3, .int x3), (4, .int x4)] rfl ?_
        exact t_O_standard_101 hA hT hO M26 x3 x4 (2 : Int32) hw
    · have hw := hw.2 hc
      refine x_sub [1, 4, 5] [(0, .ref 116), (3, .int x3), (4, .int x4)] rfl ?_
      exact t_O_standard_74 hA hT hO M x3 x4 hw
def k_O_standard_56 (Q : sdM → Prop) (M : sdM) (x1 : Int32) (x2 : Int32) (x3 : Int32) (x4 : Int32) : Prop := k_O_standard_57 Q M x1 x2 x3 x4 (0 : Int32)
set_option maxHeartbeats 1000000 in
theorem t_O_standard_56 (hA : sd_ad b n ad) (hT : l.stackTraces = false) (hO : isO n L dA) {Q : sdM → Prop} (M : sdM) (x1 : Int32) (x2 : Int32) (x3 : Int32) (x4 : Int32) (hw : k_O_standard_56 Q M x1 x2 x3 x4) : sdW l (sdE0 sc) Y_O_standard D (sd_tys dA) b n ad L ad (sd_H D (sdE0 sc).1 n ad L) (sd_qv Q) sd_xf 56 [(0, .ref 116), (1, .int x1), (2, .int x2), (3, .int x3), (4, .int x4)] [] M 0 0 := by
  unfold k_O_standard_56 at hw
  refine x_iconst (v := 0) d_O_standard_56 (by decide) ?_
  exact t_O_standard_57 hA hT hO M x1 x2 x3 x4 (0 : Int32) hw
def k_O_standard_18 (Q : sdM → Prop) (M : sdM) (x1 : Int32) (x2 : Int32) (x3 : Int32) (s0 : Int32) : Prop := vp_in s0 16 ∧ (¬ (M 118 s0.toNatClampNeg) = 0 → k_O_standard_56 Q M x1 x2 x3 s0) ∧ ((M 118 s0.toNatClampNeg) = 0 → vp_in s0 16 ∧ (x3 < (M 119 s0.toNatClampNeg) → k_O_standard_56 Q M x1 x2 x3 s0) ∧ (¬ x3 < (M 119 s0.toNatClampNeg) → vp_in s0 16 ∧ ((M 120 s0.toNatClampNeg) < x3 → k_O_standard_56 Q M x1 x2 x3 s0) ∧ (¬ (M 120 s0.toNatClampNeg) < x3 → k_O_standard_57 Q M x1 x2 x3 s0 (1 : Int32))))
set_option maxHeartbeats 1000000 in
theorem t_O_standard_18 (hA : sd_ad b n ad) (hT : l.stackTraces = false) (hO : isO n L dA) {Q : sdM → Prop} (M : sdM) (x1 : Int32) (x2 : Int32) (x3 : Int32) (s0 : Int32) (hw : k_O_standard_18 Q M x1 x2 x3 s0) : sdW l (sdE0 sc) Y_O_standard D (sd_tys dA) b n ad L ad (sd_H D (sdE0 sc).1 n ad L) (sd_qv Q) sd_xf 18 [(0, .ref 116), (1, .int x1), (2, .int x2), (3, .int x3)] [.int s0] M 0 0 := by
  unfold k_O_standard_18 at hw
  refine x_istore 4 [(4, .int s0), (0, .ref 116), (1, .int x1), (2, .int x2), (3, .int x3)] d_O_standard_18 (by decide) rfl ?_
  refine x_aload_n 0 1 d_O_standard_20 rfl rfl ?_
  refine x_getr 4 118 d_O_standard_21 hO.1 hO.2.1 rfl rfl (by decide) lay_O (List.mem_cons_of_mem _ q451) rfl ?_
  refine x_iload 4 0 d_O_standard_24 rfl ?_
  obtain ⟨hi28, hw⟩ := hw
  refine x_zald d_O_standard_26 hO.refers.1 hO.refers.2 rfl hi28 ?_
  refine x_if_ne 56 d_O_standard_27 rfl (fun hc => ?_) (fun hc => ?_)
  · have hw := hw.1 hc
    refine x_sub [1, 2, 3, 4, 0] [(0, .ref 116), (1, .int x1), (2, .int x2), (3, .int x3), (4, .int s0)] rfl ?_
    exact t_O_standard_56 hA hT hO M x1 x2 x3 s0 hw
  · have hw := hw.2 hc
    refine x_iload_n 3 4 d_O_standard_30 rfl rfl ?_
    refine x_aload_n 0 1 d_O_standard_31 rfl rfl ?_
    refine x_getr 5 119 d_O_standard_32 hO.1 hO.2.1 rfl rfl (by decide) lay_O (List.mem_cons_of_mem _ q452) rfl ?_
    refine x_iload 4 0 d_O_standard_35 rfl ?_
    obtain ⟨hi29, hw⟩ := hw
    refine x_iald d_O_standard_37 hO.lows.1 hO.lows.2 rfl hi29 ?_
    refine x_icmp_lt 56 d_O_standard_38 rfl (fun hc => ?_) (fun hc => ?_)
    · have hw := hw.1 hc
      refine x_sub [1, 2, 3, 4, 0] [(0, .ref 116), (1, .int x1), (2, .int x2), (3, .int x3), (4, .int s0)] rfl ?_
      exact t_O_standard_56 hA hT hO M x1 x2 x3 s0 hw
    · have hw := hw.2 hc
      refine x_iload_n 3 4 d_O_standard_41 rfl rfl ?_
      refine x_aload_n 0 1 d_O_standard_42 rfl rfl ?_
      refine x_getr 6 120 d_O_standard_43 hO.1 hO.2.1 rfl rfl (by decide) lay_O (List.mem_cons_of_mem _ q453) rfl ?_
      refine x_iload 4 0 d_O_standard_46 rfl ?_
      obtain ⟨hi30, hw⟩ := hw
      refine x_iald d_O_standard_48 hO.highs.1 hO.highs.2 rfl hi30 ?_
      refine x_icmp_gt 56 d_O_standard_49 rfl (fun hc => ?_) (fun hc => ?_)
      · have hw := hw.1 hc
        refine x_sub [1, 2, 3, 4, 0] [(0, .ref 116), (1, .int x1), (2, .int x2), (3, .int x3), (4, .int s0)] rfl ?_
        exact t_O_standard_56 hA hT hO M x1 x2 x3 s0 hw
      · have hw := hw.2 hc
        refine x_iconst (v := 1) d_O_standard_52 (by decide) ?_
        refine x_goto 57 d_O_standard_53 rfl ?_
        refine x_sub [1, 2, 3, 4, 0] [(0, .ref 116), (1, .int x1), (2, .int x2), (3, .int x3), (4, .int s0)] rfl ?_
        exact t_O_standard_57 hA hT hO M x1 x2 x3 s0 (1 : Int32) hw
def w_O_standard (M : sdM) (a1 : Int32) (a2 : Int32) (a3 : Int32) (Q : sdM → Prop) : Prop := w_O_isLeaf M a1 a2 (fun r32 M31 => (r32 = 0 → k_O_standard_18 Q M31 a1 a2 a3 (0 : Int32)) ∧ (¬ r32 = 0 → k_O_standard_18 Q M31 a1 a2 a3 (((4 : Int32) * a1) + a2)))
set_option maxHeartbeats 1000000 in
theorem c_O_standard {a1 : Int32} {a2 : Int32} {a3 : Int32} (hA : sd_ad b n ad) (hT : l.stackTraces = false) (hO : isO n L dA) {Q : sdM → Prop} {M : sdM} (hw : w_O_standard M a1 a2 a3 Q) : sd_Cn l (sdE0 sc) y_O_standard Y_O_standard.2.2.2.2.1 Y_O_standard.2.2.2.2.2.1 0 0 D (sd_tys dA) b n ad L M [.ref 116, .int a1, .int a2, .int a3] (sd_qv Q) sd_xf := by
  refine sd_enter (Y := Y_O_standard) rfl rfl rfl rfl (Nat.le_of_ble_eq_true rfl) ?_
  show sdW l (sdE0 sc) Y_O_standard D (sd_tys dA) b n ad L ad (sd_H D (sdE0 sc).1 n ad L) (sd_qv Q) sd_xf 0 [(0, .ref 116), (1, .int a1), (2, .int a2), (3, .int a3)] [] M 0 0
  unfold w_O_standard at hw
  refine x_aload_n 0 0 d_O_standard_0 rfl rfl ?_
  refine x_iload_n 1 1 d_O_standard_1 rfl rfl ?_
  refine x_iload_n 2 2 d_O_standard_2 rfl rfl ?_
  refine x_callVi (As := [.int a1, .int a2]) (t := 116) (rest := []) (rc := 0) (rs := 0) (c_O_isLeaf hA hT hO hw) cw_O_standard_O_isLeaf_83 hO.1 hO.2.1 rfl d_O_standard_3 rfl rfl (Nat.le_of_ble_eq_true rfl) rfl (fun _ _ h => h.elim) (fun _ _ h => h) (fun r32 M31 hw => ?_)
  refine x_if_eq 17 d_O_standard_6 rfl (fun hc => ?_) (fun hc => ?_)
  · have hw := hw.1 hc
    refine x_iconst (v := 0) d_O_standard_17 (by decide) ?_
    exact t_O_standard_18 hA hT hO M31 a1 a2 a3 (0 : Int32) hw
  · have hw := hw.2 hc
    refine x_iconst (v := 4) d_O_standard_9 (by decide) ?_
    refine x_iload_n 1 1 d_O_standard_10 rfl rfl ?_
    refine x_imul d_O_standard_11 ?_
    refine x_iload_n 2 2 d_O_standard_12 rfl rfl ?_
    refine x_iadd d_O_standard_13 ?_
    refine x_goto 18 d_O_standard_14 rfl ?_
    exact t_O_standard_18 hA hT hO M31 a1 a2 a3 (((4 : Int32) * a1) + a2) hw
end
theorem q466 : (.fieldLink "SettingsDeskModel" 87 "SettingsDeskModel" "rules" "I" : Cond) ∈ sdB0 := sd_tb4 169 rfl rfl
theorem q467 : (.fieldLink "SettingsDeskModel" 36 "SettingsDeskModel" "ruleList" "[I" : Cond) ∈ sdB0 := sd_tb4 170 rfl rfl
theorem q468 : (.fieldLink "SettingsDeskModel" 39 "SettingsDeskModel" "ruleA" "[I" : Cond) ∈ sdB0 := sd_tb4 171 rfl rfl
theorem q469 : (.fieldLink "SettingsDeskModel" 42 "SettingsDeskModel" "ruleValue" "[I" : Cond) ∈ sdB0 := sd_tb4 172 rfl rfl
theorem q470 : (.fieldLink "SettingsDeskModel" 45 "SettingsDeskModel" "ruleB" "[I" : Cond) ∈ sdB0 := sd_tb4 173 rfl rfl
theorem q471 : (.fieldLink "SettingsDeskModel" 48 "SettingsDeskModel" "ruleThere" "[Z" : Cond) ∈ sdB0 := sd_tb4 174 rfl rfl
abbrev y_O_rule : MethodName := ⟨"SettingsDeskModel", "rule", "(IIIIZ)I"⟩
theorem d_O_rule_0 : decode prog_12_method_9_code 0 = .ok (.aload_n 0, 1) := by decide +kernel
theorem d_O_rule_1 : decode prog_12_method_9_code 1 = .ok (.aload_n 0, 1) := by decide +kernel
theorem d_O_rule_2 : decode prog_12_method_9_code 2 = .ok (.getfield 76, 3) := by decide +kernel
theorem d_O_rule_5 : decode prog_12_method_9_code 5 = .ok (.ifCond .ne (18), 3) := by decide +kernel
theorem d_O_rule_8 : decode prog_12_method_9_code 8 = .ok (.aload_n 0, 1) := by decide +kernel
theorem d_O_rule_9 : decode prog_12_method_9_code 9 = .ok (.getfield 80, 3) := by decide +kernel
theorem d_O_rule_12 : decode prog_12_method_9_code 12 = .ok (.ifCond .ne (11), 3) := by decide +kernel
theorem d_O_rule_15 : decode prog_12_method_9_code 15 = .ok (.aload_n 0, 1) := by decide +kernel
theorem d_O_rule_16 : decode prog_12_method_9_code 16 = .ok (.getfield 87, 3) := by decide +kernel
theorem d_O_rule_19 : decode prog_12_method_9_code 19 = .ok (.iconst 4, 1) := by decide +kernel
theorem d_O_rule_20 : decode prog_12_method_9_code 20 = .ok (.if_icmp .ne (7), 3) := by decide +kernel
theorem d_O_rule_23 : decode prog_12_method_9_code 23 = .ok (.iconst 1, 1) := by decide +kernel
theorem d_O_rule_24 : decode prog_12_method_9_code 24 = .ok (.goto (27), 3) := by decide +kernel
theorem d_O_rule_27 : decode prog_12_method_9_code 27 = .ok (.aload_n 0, 1) := by decide +kernel
theorem d_O_rule_28 : decode prog_12_method_9_code 28 = .ok (.iload_n 1, 1) := by decide +kernel
theorem d_O_rule_29 : decode prog_12_method_9_code 29 = .ok (.iload_n 2, 1) := by decide +kernel
theorem d_O_rule_30 : decode prog_12_method_9_code 30 = .ok (.invokevirtual 83, 3) := by decide +kernel
theorem d_O_rule_33 : decode prog_12_method_9_code 33 = .ok (.ifCond .eq (13), 3) := by decide +kernel
theorem d_O_rule_36 : decode prog_12_method_9_code 36 = .ok (.aload_n 0, 1) := by decide +kernel
theorem d_O_rule_37 : decode prog_12_method_9_code 37 = .ok (.iload_n 1, 1) := by decide +kernel
theorem d_O_rule_38 : decode prog_12_method_9_code 38 = .ok (.iload 4, 2) := by decide +kernel
theorem d_O_rule_40 : decode prog_12_method_9_code 40 = .ok (.invokevirtual 83, 3) := by decide +kernel
theorem d_O_rule_43 : decode prog_12_method_9_code 43 = .ok (.ifCond .ne (7), 3) := by decide +kernel
theorem d_O_rule_46 : decode prog_12_method_9_code 46 = .ok (.iconst 2, 1) := by decide +kernel
theorem d_O_rule_47 : decode prog_12_method_9_code 47 = .ok (.goto (4), 3) := by decide +kernel
theorem d_O_rule_50 : decode prog_12_method_9_code 50 = .ok (.iconst 0, 1) := by decide +kernel
theorem d_O_rule_51 : decode prog_12_method_9_code 51 = .ok (.putfield 69, 3) := by decide +kernel
theorem d_O_rule_54 : decode prog_12_method_9_code 54 = .ok (.aload_n 0, 1) := by decide +kernel
theorem d_O_rule_55 : decode prog_12_method_9_code 55 = .ok (.getfield 69, 3) := by decide +kernel
theorem d_O_rule_58 : decode prog_12_method_9_code 58 = .ok (.ifCond .le (5), 3) := by decide +kernel
theorem d_O_rule_61 : decode prog_12_method_9_code 61 = .ok (.iconst 0, 1) := by decide +kernel
theorem d_O_rule_62 : decode prog_12_method_9_code 62 = .ok (.ireturn, 1) := by decide +kernel
theorem d_O_rule_63 : decode prog_12_method_9_code 63 = .ok (.aload_n 0, 1) := by decide +kernel
theorem d_O_rule_64 : decode prog_12_method_9_code 64 = .ok (.getfield 36, 3) := by decide +kernel
theorem d_O_rule_67 : decode prog_12_method_9_code 67 = .ok (.aload_n 0, 1) := by decide +kernel
theorem d_O_rule_68 : decode prog_12_method_9_code 68 = .ok (.getfield 87, 3) := by decide +kernel
theorem d_O_rule_71 : decode prog_12_method_9_code 71 = .ok (.iload_n 1, 1) := by decide +kernel
theorem d_O_rule_72 : decode prog_12_method_9_code 72 = .ok (.iastore, 1) := by decide +kernel
theorem d_O_rule_73 : decode prog_12_method_9_code 73 = .ok (.aload_n 0, 1) := by decide +kernel
theorem d_O_rule_74 : decode prog_12_method_9_code 74 = .ok (.getfield 39, 3) := by decide +kernel
theorem d_O_rule_77 : decode prog_12_method_9_code 77 = .ok (.aload_n 0, 1) := by decide +kernel
theorem d_O_rule_78 : decode prog_12_method_9_code 78 = .ok (.getfield 87, 3) := by decide +kernel
theorem d_O_rule_81 : decode prog_12_method_9_code 81 = .ok (.iload_n 2, 1) := by decide +kernel
theorem d_O_rule_82 : decode prog_12_method_9_code 82 = .ok (.iastore, 1) := by decide +kernel
theorem d_O_rule_83 : decode prog_12_method_9_code 83 = .ok (.aload_n 0, 1) := by decide +kernel
theorem d_O_rule_84 : decode prog_12_method_9_code 84 = .ok (.getfield 42, 3) := by decide +kernel
theorem d_O_rule_87 : decode prog_12_method_9_code 87 = .ok (.aload_n 0, 1) := by decide +kernel
theorem d_O_rule_88 : decode prog_12_method_9_code 88 = .ok (.getfield 87, 3) := by decide +kernel
theorem d_O_rule_91 : decode prog_12_method_9_code 91 = .ok (.iload_n 3, 1) := by decide +kernel
theorem d_O_rule_92 : decode prog_12_method_9_code 92 = .ok (.iastore, 1) := by decide +kernel
theorem d_O_rule_93 : decode prog_12_method_9_code 93 = .ok (.aload_n 0, 1) := by decide +kernel
theorem d_O_rule_94 : decode prog_12_method_9_code 94 = .ok (.getfield 45, 3) := by decide +kernel
theorem d_O_rule_97 : decode prog_12_method_9_code 97 = .ok (.aload_n 0, 1) := by decide +kernel
theorem d_O_rule_98 : decode prog_12_method_9_code 98 = .ok (.getfield 87, 3) := by decide +kernel
theorem d_O_rule_101 : decode prog_12_method_9_code 101 = .ok (.iload 4, 2) := by decide +kernel
theorem d_O_rule_103 : decode prog_12_method_9_code 103 = .ok (.iastore, 1) := by decide +kernel
theorem d_O_rule_104 : decode prog_12_method_9_code 104 = .ok (.aload_n 0, 1) := by decide +kernel
theorem d_O_rule_105 : decode prog_12_method_9_code 105 = .ok (.getfield 48, 3) := by decide +kernel
theorem d_O_rule_108 : decode prog_12_method_9_code 108 = .ok (.aload_n 0, 1) := by decide +kernel
theorem d_O_rule_109 : decode prog_12_method_9_code 109 = .ok (.getfield 87, 3) := by decide +kernel
theorem d_O_rule_112 : decode prog_12_method_9_code 112 = .ok (.iload 5, 2) := by decide +kernel
theorem d_O_rule_114 : decode prog_12_method_9_code 114 = .ok (.bastore, 1) := by decide +kernel
theorem d_O_rule_115 : decode prog_12_method_9_code 115 = .ok (.aload_n 0, 1) := by decide +kernel
theorem d_O_rule_116 : decode prog_12_method_9_code 116 = .ok (.dup, 1) := by decide +kernel
theorem d_O_rule_117 : decode prog_12_method_9_code 117 = .ok (.getfield 87, 3) := by decide +kernel
theorem d_O_rule_120 : decode prog_12_method_9_code 120 = .ok (.iconst 1, 1) := by decide +kernel
theorem d_O_rule_121 : decode prog_12_method_9_code 121 = .ok (.iadd, 1) := by decide +kernel
theorem d_O_rule_122 : decode prog_12_method_9_code 122 = .ok (.putfield 87, 3) := by decide +kernel
theorem d_O_rule_125 : decode prog_12_method_9_code 125 = .ok (.aload_n 0, 1) := by decide +kernel
theorem d_O_rule_126 : decode prog_12_method_9_code 126 = .ok (.getfield 87, 3) := by decide +kernel
theorem d_O_rule_129 : decode prog_12_method_9_code 129 = .ok (.iconst 1, 1) := by decide +kernel
theorem d_O_rule_130 : decode prog_12_method_9_code 130 = .ok (.isub, 1) := by decide +kernel
theorem d_O_rule_131 : decode prog_12_method_9_code 131 = .ok (.ireturn, 1) := by decide +kernel
def Y_O_rule : sdY := ("SettingsDeskModel", prog_12_method_9_code, 6, (some .int), .code y_O_rule prog_12_method_9_code 6 (some .int) :: sdB0, { frames := 2, cells := 0, slots := 0, locals := 43 }, 0, 0, [])
theorem cw_O_rule_O_isLeaf_83 : sd_cwV Y_O_rule Y_O_isLeaf y_O_isLeaf 83 2 "SettingsDeskModel" := ⟨sd_goodV q462 q464 q465 q459 q463, ⟨_, rfl⟩, ⟨rfl, rfl, rfl, rfl⟩, ⟨rfl, by decide, by decide, by decide +kernel⟩, ⟨by decide, by decide⟩⟩
section
variable {l : Launch} {D : va_G} {dA : Nat → ClassId} {b n : Nat} {ad : Nat → Nat} {L : Nat → sdL} {sc : Option (Nat × Nat × (Nat → Int32))}
def k_O_rule_51 (Q : Int32 → sdM → Prop) (M : sdM) (x1 : Int32) (x2 : Int32) (x3 : Int32) (x4 : Int32) (x5 : Int32) (s1 : Int32) : Prop := ∀ M25 : sdM, M25 = sd_s M 116 0 s1 → ((M25 116 0) ≤ 0 → vp_in (M25 116 10) 4 ∧ ∀ M28 : sdM, M28 = sd_s M25 124 (M25 116 10).toNatClampNeg x1 → vp_in (M28 116 10) 4 ∧ ∀ M31 : sdM, M31 = sd_s M28 125 (M28 116 10).toNatClampNeg x2 → vp_in (M31 116 10) 4 ∧ ∀ M34 : sdM, M34 = sd_s M31 126 (M31 116 10).toNatClampNeg x3 → vp_in (M34 116 10) 4 ∧ ∀ M37 : sdM, M37 = sd_s M34 127 (M34 116 10).toNatClampNeg x4 → vp_in (M37 116 10) 4 ∧ sdB x5 ∧ ∀ M41 : sdM, M41 = sd_s M37 128 (M37 116 10).toNatClampNeg x5 → ∀ M43 : sdM, M43 = sd_s M41 116 10 ((M41 116 10) + (1 : Int32)) → Q ((M43 116 10) - (1 : Int32)) M43) ∧ (¬ (M25 116 0) ≤ 0 → Q (0 : Int32) M25)
set_option maxHeartbeats 1000000 in
theorem t_O_rule_51 (hA : sd_ad b n ad) (hT : l.stackTraces = false) (hO : isO n L dA) {Q : Int32 → sdM → Prop} (M : sdM) (x1 : Int32) (x2 : Int32) (x3 : Int32) (x4 : Int32) (x5 : Int32) (s1 : Int32) (hw : k_O_rule_51 Q M x1 x2 x3 x4 x5 s1) : sdW l (sdE0 sc) Y_O_rule D (sd_tys dA) b n ad L ad (sd_H D (sdE0 sc).1 n ad L) (sd_qi Q) sd_xf 51 [(0, .ref 116), (1, .int x1), (2, .int x2), (3, .int x3), (4, .int x4), (5, .int x5)] [.int s1, .ref 116] M 0 0 := by
  unfold k_O_rule_51 at hw
  refine x_puti 0 (ty := .int) hA d_O_rule_51 hO.1 hO.2.1 rfl rfl (by decide) lay_O (List.mem_cons_of_mem _ q446) rfl ty_O ty_O_ok nm_O rfl (by decide +kernel) rfl rfl (fun M25 e26 => ?_)
  have hw := hw M25 e26
  clear e26
  refine x_aload_n 0 0 d_O_rule_54 rfl rfl ?_
  refine x_geti 0 d_O_rule_55 hO.1 hO.2.1 rfl rfl (by decide) lay_O (List.mem_cons_of_mem _ q446) rfl ?_
  refine x_if_le 63 d_O_rule_58 rfl (fun hc => ?_) (fun hc => ?_)
  · have hw := hw.1 hc
    refine x_aload_n 0 0 d_O_rule_63 rfl rfl ?_
    refine x_getr 11 124 d_O_rule_64 hO.1 hO.2.1 rfl rfl (by decide) lay_O (List.mem_cons_of_mem _ q467) rfl ?_
    refine x_aload_n 0 0 d_O_rule_67 rfl rfl ?_
    refine x_geti 10 d_O_rule_68 hO.1 hO.2.1 rfl rfl (by decide) lay_O (List.mem_cons_of_mem _ q466) rfl ?_
    refine x_iload_n 1 1 d_O_rule_71 rfl rfl ?_
    obtain ⟨hi27, hw⟩ := hw
    refine x_iast hA d_O_rule_72 hO.ruleList.1 hO.ruleList.2 rfl hi27 (fun M28 e29 => ?_)
    have hw := hw M28 e29
    clear e29
    refine x_aload_n 0 0 d_O_rule_73 rfl rfl ?_
    refine x_getr 12 125 d_O_rule_74 hO.1 hO.2.1 rfl rfl (by decide) lay_O (List.mem_cons_of_mem _ q468) rfl ?_
    refine x_aload_n 0 0 d_O_rule_77 rfl rfl ?_
    refine x_geti 10 d_O_rule_78 hO.1 hO.2.1 rfl rfl (by decide) lay_O (List.mem_cons_of_mem _ q466) rfl ?_
    refine x_iload_n 2 2 d_O_rule_81 rfl rfl ?_
    obtain ⟨hi30, hw⟩ := hw
    refine x_iast hA d_O_rule_82 hO.ruleA.1 hO.ruleA.2 rfl hi30 (fun M31 e32 => ?_)
    have hw := hw M31 e32
    clear e32
    refine x_aload_n 0 0 d_O_rule_83 rfl rfl ?_
    refine x_getr 13 126 d_O_rule_84 hO.1 hO.2.1 rfl rfl (by decide) lay_O (List.mem_cons_of_mem _ q469) rfl ?_
    refine x_aload_n 0 0 d_O_rule_87 rfl rfl ?_
    refine x_geti 10 d_O_rule_88 hO.1 hO.2.1 rfl rfl (by decide) lay_O (List.mem_cons_of_mem _ q466) rfl ?_
    refine x_iload_n 3 3 d_O_rule_91 rfl rfl ?_
    obtain ⟨hi33, hw⟩ := hw
    refine x_iast hA d_O_rule_92 hO.ruleValue.1 hO.ruleValue.2 rfl hi33 (fun M34 e35 => ?_)
    have hw := hw M34 e35
    clear e35
    refine x_aload_n 0 0 d_O_rule_93 rfl rfl ?_
    refine x_getr 14 127 d_O_rule_94 hO.1 hO.2.1 rfl rfl (by decide) lay_O (List.mem_cons_of_mem _ q470) rfl ?_
    refine x_aload_n 0 0 d_O_rule_97 rfl rfl ?_
    refine x_geti 10 d_O_rule_98 hO.1 hO.2.1 rfl rfl (by decide) lay_O (List.mem_cons_of_mem _ q466) rfl ?_
    refine x_iload 4 4 d_O_rule_101 rfl ?_
    obtain ⟨hi36, hw⟩ := hw
    refine x_iast hA d_O_rule_103 hO.ruleB.1 hO.ruleB.2 rfl hi36 (fun M37 e38 => ?_)
    have hw := hw M37 e38
    clear e38
    refine x_aload_n 0 0 d_O_rule_104 rfl rfl ?_
    refine x_getr 15 128 d_O_rule_105 hO.1 hO.2.1 rfl rfl (by decide) lay_O (List.mem_cons_of_mem _ q471) rfl ?_
    refine x_aload_n 0 0 d_O_rule_108 rfl rfl ?_
    refine x_geti 10 d_O_rule_109 hO.1 hO.2.1 rfl rfl (by decide) lay_O (List.mem_cons_of_mem _ q466) rfl ?_
    refine x_iload 5 5 d_O_rule_112 rfl ?_
    obtain ⟨hi39, hw⟩ := hw
    obtain ⟨hb40, hw⟩ := hw
    refine x_zast hA d_O_rule_114 hO.ruleThere.1 hO.ruleThere.2 rfl hi39 (sdB_v hb40) (fun M41 e42 => ?_)
    have hw := hw M41 e42
    clear e42
    refine x_aload_n 0 0 d_O_rule_115 rfl rfl ?_
    refine x_dup d_O_rule_116 rfl ?_
    refine x_geti 10 d_O_rule_117 hO.1 hO.2.1 rfl rfl (by decide) lay_O (List.mem_cons_of_mem _ q466) rfl ?_
    refine x_iconst (v := 1) d_O_rule_120 (by decide) ?_
    refine x_iadd d_O_rule_121 ?_
    refine x_puti 10 (ty := .int) hA d_O_rule_122 hO.1 hO.2.1 rfl rfl (by decide) lay_O (List.mem_cons_of_mem _ q466) rfl ty_O ty_O_ok nm_O rfl (by decide +kernel) rfl rfl (fun M43 e44 => ?_)
    have hw := hw M43 e44
    clear e44
    refine x_aload_n 0 0 d_O_rule_125 rfl rfl ?_
    refine x_geti 10 d_O_rule_126 hO.1 hO.2.1 rfl rfl (by decide) lay_O (List.mem_cons_of_mem _ q466) rfl ?_
    refine x_iconst (v := 1) d_O_rule_129 (by decide) ?_
    refine x_isub d_O_rule_130 ?_
    exact x_iret d_O_rule_131 rfl (fun _ h => h) ⟨_, rfl, hw⟩
  · have hw := hw.2 hc
    refine x_iconst (v := 0) d_O_rule_61 (by decide) ?_
    exact x_iret d_O_rule_62 rfl (fun _ h => h) ⟨_, rfl, hw⟩
def k_O_rule_46 (Q : Int32 → sdM → Prop) (M : sdM) (x1 : Int32) (x2 : Int32) (x3 : Int32) (x4 : Int32) (x5 : Int32) : Prop := k_O_rule_51 Q M x1 x2 x3 x4 x5 (2 : Int32)
set_option maxHeartbeats 1000000 in
theorem t_O_rule_46 (hA : sd_ad b n ad) (hT : l.stackTraces = false) (hO : isO n L dA) {Q : Int32 → sdM → Prop} (M : sdM) (x1 : Int32) (x2 : Int32) (x3 : Int32) (x4 : Int32) (x5 : Int32) (hw : k_O_rule_46 Q M x1 x2 x3 x4 x5) : sdW l (sdE0 sc) Y_O_rule D (sd_tys dA) b n ad L ad (sd_H D (sdE0 sc).1 n ad L) (sd_qi Q) sd_xf 46 [(0, .ref 116), (1, .int x1), (2, .int x2), (3, .int x3), (4, .int x4), (5, .int x5)] [.ref 116] M 0 0 := by
  unfold k_O_rule_46 at hw
  refine x_iconst (v := 2) d_O_rule_46 (by decide) ?_
  refine x_goto 51 d_O_rule_47 rfl ?_
  exact t_O_rule_51 hA hT hO M x1 x2 x3 x4 x5 (2 : Int32) hw
def k_O_rule_23 (Q : Int32 → sdM → Prop) (M : sdM) (x1 : Int32) (x2 : Int32) (x3 : Int32) (x4 : Int32) (x5 : Int32) : Prop := k_O_rule_51 Q M x1 x2 x3 x4 x5 (1 : Int32)
set_option maxHeartbeats 1000000 in
theorem t_O_rule_23 (hA : sd_ad b n ad) (hT : l.stackTraces = false) (hO : isO n L dA) {Q : Int32 → sdM → Prop} (M : sdM) (x1 : Int32) (x2 : Int32) (x3 : Int32) (x4 : Int32) (x5 : Int32) (hw : k_O_rule_23 Q M x1 x2 x3 x4 x5) : sdW l (sdE0 sc) Y_O_rule D (sd_tys dA) b n ad L ad (sd_H D (sdE0 sc).1 n ad L) (sd_qi Q) sd_xf 23 [(0, .ref 116), (1, .int x1), (2, .int x2), (3, .int x3), (4, .int x4), (5, .int x5)] [.ref 116] M 0 0 := by
  unfold k_O_rule_23 at hw
  refine x_iconst (v := 1) d_O_rule_23 (by decide) ?_
  refine x_goto 51 d_O_rule_24 rfl ?_
  exact t_O_rule_51 hA hT hO M x1 x2 x3 x4 x5 (1 : Int32) hw
def w_O_rule (M : sdM) (a1 : Int32) (a2 : Int32) (a3 : Int32) (a4 : Int32) (a5 : Int32) (Q : Int32 → sdM → Prop) : Prop := (¬ (M 116 25) = 0 → k_O_rule_23 Q M a1 a2 a3 a4 a5) ∧ ((M 116 25) = 0 → (¬ (M 116 1) = 0 → k_O_rule_23 Q M a1 a2 a3 a4 a5) ∧ ((M 116 1) = 0 → (¬ (M 116 10) = (4 : Int32) → w_O_isLeaf M a1 a2 (fun r46 M45 => (r46 = 0 → k_O_rule_46 Q M45 a1 a2 a3 a4 a5) ∧ (¬ r46 = 0 → w_O_isLeaf M45 a1 a4 (fun r48 M47 => (¬ r48 = 0 → k_O_rule_51 Q M47 a1 a2 a3 a4 a5 (0 : Int32)) ∧ (r48 = 0 → k_O_rule_46 Q M47 a1 a2 a3 a4 a5))))) ∧ ((M 116 10) = (4 : Int32) → k_O_rule_23 Q M a1 a2 a3 a4 a5)))
set_option maxHeartbeats 1000000 in
theorem c_O_rule {a1 : Int32} {a2 : Int32} {a3 : Int32} {a4 : Int32} {a5 : Int32} (hA : sd_ad b n ad) (hT : l.stackTraces = false) (hO : isO n L dA) {Q : Int32 → sdM → Prop} {M : sdM} (hw : w_O_rule M a1 a2 a3 a4 a5 Q) : sd_Cn l (sdE0 sc) y_O_rule Y_O_rule.2.2.2.2.1 Y_O_rule.2.2.2.2.2.1 0 0 D (sd_tys dA) b n ad L M [.ref 116, .int a1, .int a2, .int a3, .int a4, .int a5] (sd_qi Q) sd_xf := by
  refine sd_enter (Y := Y_O_rule) rfl rfl rfl rfl (Nat.le_of_ble_eq_true rfl) ?_
  show sdW l (sdE0 sc) Y_O_rule D (sd_tys dA) b n ad L ad (sd_H D (sdE0 sc).1 n ad L) (sd_qi Q) sd_xf 0 [(0, .ref 116), (1, .int a1), (2, .int a2), (3, .int a3), (4, .int a4), (5, .int a5)] [] M 0 0
  unfold w_O_rule at hw
  refine x_aload_n 0 0 d_O_rule_0 rfl rfl ?_
  refine x_aload_n 0 0 d_O_rule_1 rfl rfl ?_
  refine x_geti 25 d_O_rule_2 hO.1 hO.2.1 rfl rfl (by decide) lay_O (List.mem_cons_of_mem _ q447) rfl ?_
  refine x_if_ne 23 d_O_rule_5 rfl (fun hc => ?_) (fun hc => ?_)
  · have hw := hw.1 hc
    exact t_O_rule_23 hA hT hO M a1 a2 a3 a4 a5 hw
  · have hw := hw.2 hc
    refine x_aload_n 0 0 d_O_rule_8 rfl rfl ?_
    refine x_geti 1 d_O_rule_9 hO.1 hO.2.1 rfl rfl (by decide) lay_O (List.mem_cons_of_mem _ q448) rfl ?_
    refine x_if_ne 23 d_O_rule_12 rfl (fun hc => ?_) (fun hc => ?_)
    · have hw := hw.1 hc
      exact t_O_rule_23 hA hT hO M a1 a2 a3 a4 a5 hw
    · have hw := hw.2 hc
      refine x_aload_n 0 0 d_O_rule_15 rfl rfl ?_
      refine x_geti 10 d_O_rule_16 hO.1 hO.2.1 rfl rfl (by decide) lay_O (List.mem_cons_of_mem _ q466) rfl ?_
      refine x_iconst (v := 4) d_O_rule_19 (by decide) ?_
      refine x_icmp_ne 27 d_O_rule_20 rfl (fun hc => ?_) (fun hc => ?_)
      · have hw := hw.1 hc
        refine x_aload_n 0 0 d_O_rule_27 rfl rfl ?_
        refine x_iload_n 1 1 d_O_rule_28 rfl rfl ?_
        refine x_iload_n 2 2 d_O_rule_29 rfl rfl ?_
        refine x_callVi (As := [.int a1, .int a2]) (t := 116) (rest := [.ref 116]) (rc := 0) (rs := 0) (c_O_isLeaf hA hT hO hw) cw_O_rule_O_isLeaf_83 hO.1 hO.2.1 rfl d_O_rule_30 rfl rfl (Nat.le_of_ble_eq_true rfl) rfl (fun _ _ h => h.elim) (fun _ _ h => h) (fun r46 M45 hw => ?_)
        refine x_if_eq 46 d_O_rule_33 rfl (fun hc => ?_) (fun hc => ?_)
        · have hw := hw.1 hc
          exact t_O_rule_46 hA hT hO M45 a1 a2 a3 a4 a5 hw
        · have hw := hw.2 hc
          refine x_aload_n 0 0 d_O_rule_36 rfl rfl ?_
          refine x_iload_n 1 1 d_O_rule_37 rfl rfl ?_
          refine x_iload 4 4 d_O_rule_38 rfl ?_
          refine x_callVi (As := [.int a1, .int a4]) (t := 116) (rest := [.ref 116]) (rc := 0) (rs := 0) (c_O_isLeaf hA hT hO hw) cw_O_rule_O_isLeaf_83 hO.1 hO.2.1 rfl d_O_rule_40 rfl rfl (Nat.le_of_ble_eq_true rfl) rfl (fun _ _ h => h.elim) (fun _ _ h => h) (fun r48 M47 hw => ?_)
          refine x_if_ne 50 d_O_rule_43 rfl (fun hc => ?_) (fun hc => ?_)
          · have hw := hw.1 hc
            refine x_iconst (v := 0) d_O_rule_50 (by decide) ?_
            exact t_O_rule_51 hA hT hO M47 a1 a2 a3 a4 a5 (0 : Int32) hw
          · have hw := hw.2 hc
            exact t_O_rule_46 hA hT hO M47 a1 a2 a3 a4 a5 hw
      · have hw := hw.2 hc
        exact t_O_rule_23 hA hT hO M a1 a2 a3 a4 a5 hw
end
theorem q472 : (.fieldLink "SettingsDeskModel" 57 "SettingsDeskModel" "bits" "[I" : Cond) ∈ sdB0 := sd_tb4 177 rfl rfl
abbrev y_O_isSet : MethodName := ⟨"SettingsDeskModel", "isSet", "(II)Z"⟩
theorem d_O_isSet_0 : decode prog_12_method_16_code 0 = .ok (.iload_n 1, 1) := by decide +kernel
theorem d_O_isSet_1 : decode prog_12_method_16_code 1 = .ok (.ifCond .lt (21), 3) := by decide +kernel
theorem d_O_isSet_4 : decode prog_12_method_16_code 4 = .ok (.aload_n 0, 1) := by decide +kernel
theorem d_O_isSet_5 : decode prog_12_method_16_code 5 = .ok (.getfield 57, 3) := by decide +kernel
theorem d_O_isSet_8 : decode prog_12_method_16_code 8 = .ok (.iload_n 1, 1) := by decide +kernel
theorem d_O_isSet_9 : decode prog_12_method_16_code 9 = .ok (.iaload, 1) := by decide +kernel
theorem d_O_isSet_10 : decode prog_12_method_16_code 10 = .ok (.iload_n 2, 1) := by decide +kernel
theorem d_O_isSet_11 : decode prog_12_method_16_code 11 = .ok (.ishr, 1) := by decide +kernel
theorem d_O_isSet_12 : decode prog_12_method_16_code 12 = .ok (.iconst 1, 1) := by decide +kernel
theorem d_O_isSet_13 : decode prog_12_method_16_code 13 = .ok (.iand, 1) := by decide +kernel
theorem d_O_isSet_14 : decode prog_12_method_16_code 14 = .ok (.iconst 1, 1) := by decide +kernel
theorem d_O_isSet_15 : decode prog_12_method_16_code 15 = .ok (.if_icmp .ne (7), 3) := by decide +kernel
theorem d_O_isSet_18 : decode prog_12_method_16_code 18 = .ok (.iconst 1, 1) := by decide +kernel
theorem d_O_isSet_19 : decode prog_12_method_16_code 19 = .ok (.goto (4), 3) := by decide +kernel
theorem d_O_isSet_22 : decode prog_12_method_16_code 22 = .ok (.iconst 0, 1) := by decide +kernel
theorem d_O_isSet_23 : decode prog_12_method_16_code 23 = .ok (.ireturn, 1) := by decide +kernel
def Y_O_isSet : sdY := ("SettingsDeskModel", prog_12_method_16_code, 3, (some .boolean), .code y_O_isSet prog_12_method_16_code 3 (some .boolean) :: sdB0, { frames := 0, cells := 0, slots := 0, locals := 0 }, 0, 0, [])
section
variable {l : Launch} {D : va_G} {dA : Nat → ClassId} {b n : Nat} {ad : Nat → Nat} {L : Nat → sdL} {sc : Option (Nat × Nat × (Nat → Int32))}
def k_O_isSet_23 (Q : Int32 → sdM → Prop) (M : sdM) (s0 : Int32) : Prop := sdB s0 ∧ Q s0 M
set_option maxHeartbeats 1000000 in
theorem t_O_isSet_23 (hA : sd_ad b n ad) (hT : l.stackTraces = false) (hO : isO n L dA) {Q : Int32 → sdM → Prop} (M : sdM) (s0 : Int32) (hw : k_O_isSet_23 Q M s0) : sdW l (sdE0 sc) Y_O_isSet D (sd_tys dA) b n ad L ad (sd_H D (sdE0 sc).1 n ad L) (sd_qi Q) sd_xf 23 [] [.int s0] M 0 0 := by
  unfold k_O_isSet_23 at hw
  exact x_zret d_O_isSet_23 rfl (sdB_n hw.1) (fun _ h => h) ⟨_, rfl, hw.2⟩
def k_O_isSet_22 (Q : Int32 → sdM → Prop) (M : sdM) : Prop := k_O_isSet_23 Q M (0 : Int32)
set_option maxHeartbeats 1000000 in
theorem t_O_isSet_22 (hA : sd_ad b n ad) (hT : l.stackTraces = false) (hO : isO n L dA) {Q : Int32 → sdM → Prop} (M : sdM) (hw : k_O_isSet_22 Q M ) : sdW l (sdE0 sc) Y_O_isSet D (sd_tys dA) b n ad L ad (sd_H D (sdE0 sc).1 n ad L) (sd_qi Q) sd_xf 22 [] [] M 0 0 := by
  unfold k_O_isSet_22 at hw
  refine x_iconst (v := 0) d_O_isSet_22 (by decide) ?_
  exact t_O_isSet_23 hA hT hO M (0 : Int32) hw
def w_O_isSet (M : sdM) (a1 : Int32) (a2 : Int32) (Q : Int32 → sdM → Prop) : Prop := (a1 < 0 → k_O_isSet_22 Q M) ∧ (¬ a1 < 0 → vp_in a1 816 ∧ (¬ (((M 131 a1.toNatClampNeg) >>> (a2 &&& 31)) &&& (1 : Int32)) = (1 : Int32) → k_O_isSet_22 Q M) ∧ ((((M 131 a1.toNatClampNeg) >>> (a2 &&& 31)) &&& (1 : Int32)) = (1 : Int32) → k_O_isSet_23 Q M (1 : Int32)))
set_option maxHeartbeats 1000000 in
theorem c_O_isSet {a1 : Int32} {a2 : Int32} (hA : sd_ad b n ad) (hT : l.stackTraces = false) (hO : isO n L dA) {Q : Int32 → sdM → Prop} {M : sdM} (hw : w_O_isSet M a1 a2 Q) : sd_Cn l (sdE0 sc) y_O_isSet Y_O_isSet.2.2.2.2.1 Y_O_isSet.2.2.2.2.2.1 0 0 D (sd_tys dA) b n ad L M [.ref 116, .int a1, .int a2] (sd_qi Q) sd_xf := by
  refine sd_enter (Y := Y_O_isSet) rfl rfl rfl rfl (Nat.le_of_ble_eq_true rfl) ?_
  show sdW l (sdE0 sc) Y_O_isSet D (sd_tys dA) b n ad L ad (sd_H D (sdE0 sc).1 n ad L) (sd_qi Q) sd_xf 0 [(0, .ref 116), (1, .int a1), (2, .int a2)] [] M 0 0
  unfold w_O_isSet at hw
  refine x_iload_n 1 1 d_O_isSet_0 rfl rfl ?_
  refine x_if_lt 22 d_O_isSet_1 rfl (fun hc => ?_) (fun hc => ?_)
  · have hw := hw.1 hc
    refine x_sub [] [] rfl ?_
    exact t_O_isSet_22 hA hT hO M hw
  · have hw := hw.2 hc
    refine x_aload_n 0 0 d_O_isSet_4 rfl rfl ?_
    refine x_getr 18 131 d_O_isSet_5 hO.1 hO.2.1 rfl rfl (by decide) lay_O (List.mem_cons_of_mem _ q472) rfl ?_
    refine x_iload_n 1 1 d_O_isSet_8 rfl rfl ?_
    obtain ⟨hi2, hw⟩ := hw
    refine x_iald d_O_isSet_9 hO.bits.1 hO.bits.2 rfl hi2 ?_
    refine x_iload_n 2 2 d_O_isSet_10 rfl rfl ?_
    refine x_ishr d_O_isSet_11 ?_
    refine x_iconst (v := 1) d_O_isSet_12 (by decide) ?_
    refine x_iand d_O_isSet_13 ?_
    refine x_iconst (v := 1) d_O_isSet_14 (by decide) ?_
    refine x_icmp_ne 22 d_O_isSet_15 rfl (fun hc => ?_) (fun hc => ?_)
    · have hw := hw.1 hc
      refine x_sub [] [] rfl ?_
      exact t_O_isSet_22 hA hT hO M hw
    · have hw := hw.2 hc
      refine x_iconst (v := 1) d_O_isSet_18 (by decide) ?_
      refine x_goto 23 d_O_isSet_19 rfl ?_
      refine x_sub [] [] rfl ?_
      exact t_O_isSet_23 hA hT hO M (1 : Int32) hw
end
theorem q473 : (.methodLink "SettingsDeskModel" 98 ⟨"SettingsDeskModel", "isSet", "(II)Z"⟩ : Cond) ∈ sdB0 := sd_tb5 74 rfl rfl
theorem q474 : (.code ⟨"SettingsDeskModel", "isSet", "(II)Z"⟩ prog_12_method_16_code 3 (some .boolean) : Cond) ∈ sdB0 := sd_tb5 77 rfl rfl
theorem q475 : (.instanceMethod ⟨"SettingsDeskModel", "isSet", "(II)Z"⟩ : Cond) ∈ sdB0 := sd_tb5 76 rfl rfl
theorem q476 : (.selects "SettingsDeskModel" ⟨"SettingsDeskModel", "isSet", "(II)Z"⟩ ⟨"SettingsDeskModel", "isSet", "(II)Z"⟩ : Cond) ∈ sdB0 := sd_tbp (q := (⟨"SettingsDeskModel", "isSet", "(II)Z"⟩, 35)) (List.mem_of_getElem? (i := 21) rfl)
abbrev y_O_isSomething : MethodName := ⟨"SettingsDeskModel", "isSomething", "(III)Z"⟩
theorem d_O_isSomething_0 : decode prog_12_method_20_code 0 = .ok (.aload_n 0, 1) := by decide +kernel
theorem d_O_isSomething_1 : decode prog_12_method_20_code 1 = .ok (.iload_n 1, 1) := by decide +kernel
theorem d_O_isSomething_2 : decode prog_12_method_20_code 2 = .ok (.iload_n 3, 1) := by decide +kernel
theorem d_O_isSomething_3 : decode prog_12_method_20_code 3 = .ok (.invokevirtual 98, 3) := by decide +kernel
theorem d_O_isSomething_6 : decode prog_12_method_20_code 6 = .ok (.ifCond .ne (16), 3) := by decide +kernel
theorem d_O_isSomething_9 : decode prog_12_method_20_code 9 = .ok (.aload_n 0, 1) := by decide +kernel
theorem d_O_isSomething_10 : decode prog_12_method_20_code 10 = .ok (.getfield 30, 3) := by decide +kernel
theorem d_O_isSomething_13 : decode prog_12_method_20_code 13 = .ok (.iconst 4, 1) := by decide +kernel
theorem d_O_isSomething_14 : decode prog_12_method_20_code 14 = .ok (.iload_n 2, 1) := by decide +kernel
theorem d_O_isSomething_15 : decode prog_12_method_20_code 15 = .ok (.imul, 1) := by decide +kernel
theorem d_O_isSomething_16 : decode prog_12_method_20_code 16 = .ok (.iload_n 3, 1) := by decide +kernel
theorem d_O_isSomething_17 : decode prog_12_method_20_code 17 = .ok (.iadd, 1) := by decide +kernel
theorem d_O_isSomething_18 : decode prog_12_method_20_code 18 = .ok (.baload, 1) := by decide +kernel
theorem d_O_isSomething_19 : decode prog_12_method_20_code 19 = .ok (.ifCond .eq (7), 3) := by decide +kernel
theorem d_O_isSomething_22 : decode prog_12_method_20_code 22 = .ok (.iconst 1, 1) := by decide +kernel
theorem d_O_isSomething_23 : decode prog_12_method_20_code 23 = .ok (.goto (4), 3) := by decide +kernel
theorem d_O_isSomething_26 : decode prog_12_method_20_code 26 = .ok (.iconst 0, 1) := by decide +kernel
theorem d_O_isSomething_27 : decode prog_12_method_20_code 27 = .ok (.ireturn, 1) := by decide +kernel
def Y_O_isSomething : sdY := ("SettingsDeskModel", prog_12_method_20_code, 4, (some .boolean), .code y_O_isSomething prog_12_method_20_code 4 (some .boolean) :: sdB0, { frames := 1, cells := 0, slots := 0, locals := 22 }, 0, 0, [])
theorem cw_O_isSomething_O_isSet_98 : sd_cwV Y_O_isSomething Y_O_isSet y_O_isSet 98 2 "SettingsDeskModel" := ⟨sd_goodV q473 q475 q476 q459 q474, ⟨_, rfl⟩, ⟨rfl, rfl, rfl, rfl⟩, ⟨rfl, by decide, by decide, by decide +kernel⟩, ⟨by decide, by decide⟩⟩
section
variable {l : Launch} {D : va_G} {dA : Nat → ClassId} {b n : Nat} {ad : Nat → Nat} {L : Nat → sdL} {sc : Option (Nat × Nat × (Nat → Int32))}
def k_O_isSomething_27 (Q : Int32 → sdM → Prop) (M : sdM) (s0 : Int32) : Prop := sdB s0 ∧ Q s0 M
set_option maxHeartbeats 1000000 in
theorem t_O_isSomething_27 (hA : sd_ad b n ad) (hT : l.stackTraces = false) (hO : isO n L dA) {Q : Int32 → sdM → Prop} (M : sdM) (s0 : Int32) (hw : k_O_isSomething_27 Q M s0) : sdW l (sdE0 sc) Y_O_isSomething D (sd_tys dA) b n ad L ad (sd_H D (sdE0 sc).1 n ad L) (sd_qi Q) sd_xf 27 [] [.int s0] M 0 0 := by
  unfold k_O_isSomething_27 at hw
  exact x_zret d_O_isSomething_27 rfl (sdB_n hw.1) (fun _ h => h) ⟨_, rfl, hw.2⟩
def k_O_isSomething_22 (Q : Int32 → sdM → Prop) (M : sdM) : Prop := k_O_isSomething_27 Q M (1 : Int32)
set_option maxHeartbeats 1000000 in
theorem t_O_isSomething_22 (hA : sd_ad b n ad) (hT : l.stackTraces = false) (hO : isO n L dA) {Q : Int32 → sdM → Prop} (M : sdM) (hw : k_O_isSomething_22 Q M ) : sdW l (sdE0 sc) Y_O_isSomething D (sd_tys dA) b n ad L ad (sd_H D (sdE0 sc).1 n ad L) (sd_qi Q) sd_xf 22 [] [] M 0 0 := by
  unfold k_O_isSomething_22 at hw
  refine x_iconst (v := 1) d_O_isSomething_22 (by decide) ?_
  refine x_goto 27 d_O_isSomething_23 rfl ?_
  exact t_O_isSomething_27 hA hT hO M (1 : Int32) hw
def w_O_isSomething (M : sdM) (a1 : Int32) (a2 : Int32) (a3 : Int32) (Q : Int32 → sdM → Prop) : Prop := w_O_isSet M a1 a3 (fun r5 M4 => (¬ r5 = 0 → k_O_isSomething_22 Q M4) ∧ (r5 = 0 → vp_in (((4 : Int32) * a2) + a3) 16 ∧ ((M4 122 (((4 : Int32) * a2) + a3).toNatClampNeg) = 0 → k_O_isSomething_27 Q M4 (0 : Int32)) ∧ (¬ (M4 122 (((4 : Int32) * a2) + a3).toNatClampNeg) = 0 → k_O_isSomething_22 Q M4)))
set_option maxHeartbeats 1000000 in
theorem c_O_isSomething {a1 : Int32} {a2 : Int32} {a3 : Int32} (hA : sd_ad b n ad) (hT : l.stackTraces = false) (hO : isO n L dA) {Q : Int32 → sdM → Prop} {M : sdM} (hw : w_O_isSomething M a1 a2 a3 Q) : sd_Cn l (sdE0 sc) y_O_isSomething Y_O_isSomething.2.2.2.2.1 Y_O_isSomething.2.2.2.2.2.1 0 0 D (sd_tys dA) b n ad L M [.ref 116, .int a1, .int a2, .int a3] (sd_qi Q) sd_xf := by
  refine sd_enter (Y := Y_O_isSomething) rfl rfl rfl rfl (Nat.le_of_ble_eq_true rfl) ?_
  show sdW l (sdE0 sc) Y_O_isSomething D (sd_tys dA) b n ad L ad (sd_H D (sdE0 sc).1 n ad L) (sd_qi Q) sd_xf 0 [(0, .ref 116), (1, .int a1), (2, .int a2), (3, .int a3)] [] M 0 0
  unfold w_O_isSomething at hw
  refine x_aload_n 0 0 d_O_isSomething_0 rfl rfl ?_
  refine x_iload_n 1 1 d_O_isSomething_1 rfl rfl ?_
  refine x_iload_n 3 3 d_O_isSomething_2 rfl rfl ?_
  refine x_callVi (As := [.int a1, .int a3]) (t := 116) (rest := []) (rc := 0) (rs := 0) (c_O_isSet hA hT hO hw) cw_O_isSomething_O_isSet_98 hO.1 hO.2.1 rfl d_O_isSomething_3 rfl rfl (Nat.le_of_ble_eq_true rfl) rfl (fun _ _ h => h.elim) (fun _ _ h => h) (fun r5 M4 hw => ?_)
  refine x_if_ne 22 d_O_isSomething_6 rfl (fun hc => ?_) (fun hc => ?_)
  · have hw := hw.1 hc
    refine x_sub [] [] rfl ?_
    exact t_O_isSomething_22 hA hT hO M4 hw
  · have hw := hw.2 hc
    refine x_aload_n 0 0 d_O_isSomething_9 rfl rfl ?_
    refine x_getr 8 122 d_O_isSomething_10 hO.1 hO.2.1 rfl rfl (by decide) lay_O (List.mem_cons_of_mem _ q460) rfl ?_
    refine x_iconst (v := 4) d_O_isSomething_13 (by decide) ?_
    refine x_iload_n 2 2 d_O_isSomething_14 rfl rfl ?_
    refine x_imul d_O_isSomething_15 ?_
    refine x_iload_n 3 3 d_O_isSomething_16 rfl rfl ?_
    refine x_iadd d_O_isSomething_17 ?_
    obtain ⟨hi6, hw⟩ := hw
    refine x_zald d_O_isSomething_18 hO.hasStandard.1 hO.hasStandard.2 rfl hi6 ?_
    refine x_if_eq 26 d_O_isSomething_19 rfl (fun hc => ?_) (fun hc => ?_)
    · have hw := hw.1 hc
      refine x_iconst (v := 0) d_O_isSomething_26 (by decide) ?_
      refine x_sub [] [] rfl ?_
      exact t_O_isSomething_27 hA hT hO M4 (0 : Int32) hw
    · have hw := hw.2 hc
      refine x_sub [] [] rfl ?_
      exact t_O_isSomething_22 hA hT hO M4 hw
end
theorem q477 : (.fieldLink "SettingsDeskModel" 60 "SettingsDeskModel" "values" "[I" : Cond) ∈ sdB0 := sd_tb4 178 rfl rfl
abbrev y_O_valueOf : MethodName := ⟨"SettingsDeskModel", "valueOf", "(III)I"⟩
theorem d_O_valueOf_0 : decode prog_12_method_21_code 0 = .ok (.aload_n 0, 1) := by decide +kernel
theorem d_O_valueOf_1 : decode prog_12_method_21_code 1 = .ok (.iload_n 1, 1) := by decide +kernel
theorem d_O_valueOf_2 : decode prog_12_method_21_code 2 = .ok (.iload_n 3, 1) := by decide +kernel
theorem d_O_valueOf_3 : decode prog_12_method_21_code 3 = .ok (.invokevirtual 98, 3) := by decide +kernel
theorem d_O_valueOf_6 : decode prog_12_method_21_code 6 = .ok (.ifCond .eq (16), 3) := by decide +kernel
theorem d_O_valueOf_9 : decode prog_12_method_21_code 9 = .ok (.aload_n 0, 1) := by decide +kernel
theorem d_O_valueOf_10 : decode prog_12_method_21_code 10 = .ok (.getfield 60, 3) := by decide +kernel
theorem d_O_valueOf_13 : decode prog_12_method_21_code 13 = .ok (.iconst 4, 1) := by decide +kernel
theorem d_O_valueOf_14 : decode prog_12_method_21_code 14 = .ok (.iload_n 1, 1) := by decide +kernel
theorem d_O_valueOf_15 : decode prog_12_method_21_code 15 = .ok (.imul, 1) := by decide +kernel
theorem d_O_valueOf_16 : decode prog_12_method_21_code 16 = .ok (.iload_n 3, 1) := by decide +kernel
theorem d_O_valueOf_17 : decode prog_12_method_21_code 17 = .ok (.iadd, 1) := by decide +kernel
theorem d_O_valueOf_18 : decode prog_12_method_21_code 18 = .ok (.iaload, 1) := by decide +kernel
theorem d_O_valueOf_19 : decode prog_12_method_21_code 19 = .ok (.goto (13), 3) := by decide +kernel
theorem d_O_valueOf_22 : decode prog_12_method_21_code 22 = .ok (.aload_n 0, 1) := by decide +kernel
theorem d_O_valueOf_23 : decode prog_12_method_21_code 23 = .ok (.getfield 33, 3) := by decide +kernel
theorem d_O_valueOf_26 : decode prog_12_method_21_code 26 = .ok (.iconst 4, 1) := by decide +kernel
theorem d_O_valueOf_27 : decode prog_12_method_21_code 27 = .ok (.iload_n 2, 1) := by decide +kernel
theorem d_O_valueOf_28 : decode prog_12_method_21_code 28 = .ok (.imul, 1) := by decide +kernel
theorem d_O_valueOf_29 : decode prog_12_method_21_code 29 = .ok (.iload_n 3, 1) := by decide +kernel
theorem d_O_valueOf_30 : decode prog_12_method_21_code 30 = .ok (.iadd, 1) := by decide +kernel
theorem d_O_valueOf_31 : decode prog_12_method_21_code 31 = .ok (.iaload, 1) := by decide +kernel
theorem d_O_valueOf_32 : decode prog_12_method_21_code 32 = .ok (.ireturn, 1) := by decide +kernel
def Y_O_valueOf : sdY := ("SettingsDeskModel", prog_12_method_21_code, 4, (some .int), .code y_O_valueOf prog_12_method_21_code 4 (some .int) :: sdB0, { frames := 1, cells := 0, slots := 0, locals := 22 }, 0, 0, [])
theorem cw_O_valueOf_O_isSet_98 : sd_cwV Y_O_valueOf Y_O_isSet y_O_isSet 98 2 "SettingsDeskModel" := ⟨sd_goodV q473 q475 q476 q459 q474, ⟨_, rfl⟩, ⟨rfl, rfl, rfl, rfl⟩, ⟨rfl, by decide, by decide, by decide +kernel⟩, ⟨by decide, by decide⟩⟩
section
variable {l : Launch} {D : va_G} {dA : Nat → ClassId} {b n : Nat} {ad : Nat → Nat} {L : Nat → sdL} {sc : Option (Nat × Nat × (Nat → Int32))}
def k_O_valueOf_32 (Q : Int32 → sdM → Prop) (M : sdM) (s0 : Int32) : Prop := Q s0 M
set_option maxHeartbeats 1000000 in
theorem t_O_valueOf_32 (hA : sd_ad b n ad) (hT : l.stackTraces = false) (hO : isO n L dA) {Q : Int32 → sdM → Prop} (M : sdM) (s0 : Int32) (hw : k_O_valueOf_32 Q M s0) : sdW l (sdE0 sc) Y_O_valueOf D (sd_tys dA) b n ad L ad (sd_H D (sdE0 sc).1 n ad L) (sd_qi Q) sd_xf 32 [] [.int s0] M 0 0 := by
  unfold k_O_valueOf_32 at hw
  exact x_iret d_O_valueOf_32 rfl (fun _ h => h) ⟨_, rfl, hw⟩
def w_O_valueOf (M : sdM) (a1 : Int32) (a2 : Int32) (a3 : Int32) (Q : Int32 → sdM → Prop) : Prop := w_O_isSet M a1 a3 (fun r6 M5 => (r6 = 0 → vp_in (((4 : Int32) * a2) + a3) 16 ∧ k_O_valueOf_32 Q M5 (M5 123 (((4 : Int32) * a2) + a3).toNatClampNeg)) ∧ (¬ r6 = 0 → vp_in (((4 : Int32) * a1) + a3) 3264 ∧ k_O_valueOf_32 Q M5 (M5 132 (((4 : Int32) * a1) + a3).toNatClampNeg)))
set_option maxHeartbeats 1000000 in
theorem c_O_valueOf {a1 : Int32} {a2 : Int32} {a3 : Int32} (hA : sd_ad b n ad) (hT : l.stackTraces = false) (hO : isO n L dA) {Q : Int32 → sdM → Prop} {M : sdM} (hw : w_O_valueOf M a1 a2 a3 Q) : sd_Cn l (sdE0 sc) y_O_valueOf Y_O_valueOf.2.2.2.2.1 Y_O_valueOf.2.2.2.2.2.1 0 0 D (sd_tys dA) b n ad L M [.ref 116, .int a1, .int a2, .int a3] (sd_qi Q) sd_xf := by
  refine sd_enter (Y := Y_O_valueOf) rfl rfl rfl rfl (Nat.le_of_ble_eq_true rfl) ?_
  show sdW l (sdE0 sc) Y_O_valueOf D (sd_tys dA) b n ad L ad (sd_H D (sdE0 sc).1 n ad L) (sd_qi Q) sd_xf 0 [(0, .ref 116), (1, .int a1), (2, .int a2), (3, .int a3)] [] M 0 0
  unfold w_O_valueOf at hw
  refine x_aload_n 0 0 d_O_valueOf_0 rfl rfl ?_
  refine x_iload_n 1 1 d_O_valueOf_1 rfl rfl ?_
  refine x_iload_n 3 3 d_O_valueOf_2 rfl rfl ?_
  refine x_callVi (As := [.int a1, .int a3]) (t := 116) (rest := []) (rc := 0) (rs := 0) (c_O_isSet hA hT hO hw) cw_O_valueOf_O_isSet_98 hO.1 hO.2.1 rfl d_O_valueOf_3 rfl rfl (Nat.le_of_ble_eq_true rfl) rfl (fun _ _ h => h.elim) (fun _ _ h => h) (fun r6 M5 hw => ?_)
  refine x_if_eq 22 d_O_valueOf_6 rfl (fun hc => ?_) (fun hc => ?_)
  · have hw := hw.1 hc
    refine x_aload_n 0 0 d_O_valueOf_22 rfl rfl ?_
    refine x_getr 9 123 d_O_valueOf_23 hO.1 hO.2.1 rfl rfl (by decide) lay_O (List.mem_cons_of_mem _ q461) rfl ?_
    refine x_iconst (v := 4) d_O_valueOf_26 (by decide) ?_
    refine x_iload_n 2 2 d_O_valueOf_27 rfl rfl ?_
    refine x_imul d_O_valueOf_28 ?_
    refine x_iload_n 3 3 d_O_valueOf_29 rfl rfl ?_
    refine x_iadd d_O_valueOf_30 ?_
    obtain ⟨hi7, hw⟩ := hw
    refine x_iald d_O_valueOf_31 hO.standards.1 hO.standards.2 rfl hi7 ?_
    refine x_sub [] [] rfl ?_
    exact t_O_valueOf_32 hA hT hO M5 (M5 123 (((4 : Int32) * a2) + a3).toNatClampNeg) hw
  · have hw := hw.2 hc
    refine x_aload_n 0 0 d_O_valueOf_9 rfl rfl ?_
    refine x_getr 19 132 d_O_valueOf_10 hO.1 hO.2.1 rfl rfl (by decide) lay_O (List.mem_cons_of_mem _ q477) rfl ?_
    refine x_iconst (v := 4) d_O_valueOf_13 (by decide) ?_
    refine x_iload_n 1 1 d_O_valueOf_14 rfl rfl ?_
    refine x_imul d_O_valueOf_15 ?_
    refine x_iload_n 3 3 d_O_valueOf_16 rfl rfl ?_
    refine x_iadd d_O_valueOf_17 ?_
    obtain ⟨hi8, hw⟩ := hw
    refine x_iald d_O_valueOf_18 hO.values.1 hO.values.2 rfl hi8 ?_
    refine x_goto 32 d_O_valueOf_19 rfl ?_
    refine x_sub [] [] rfl ?_
    exact t_O_valueOf_32 hA hT hO M5 (M5 132 (((4 : Int32) * a1) + a3).toNatClampNeg) hw
end
theorem q478 : (.fieldLink "SettingsDeskModel" 51 "SettingsDeskModel" "sizes" "[I" : Cond) ∈ sdB0 := sd_tb4 175 rfl rfl
theorem q479 : (.fieldLink "SettingsDeskModel" 54 "SettingsDeskModel" "keys" "[I" : Cond) ∈ sdB0 := sd_tb4 176 rfl rfl
abbrev y_O_find : MethodName := ⟨"SettingsDeskModel", "find", "(III)I"⟩
theorem d_O_find_0 : decode prog_12_method_11_code 0 = .ok (.iconst (-1), 1) := by decide +kernel
theorem d_O_find_1 : decode prog_12_method_11_code 1 = .ok (.istore 4, 2) := by decide +kernel
theorem d_O_find_3 : decode prog_12_method_11_code 3 = .ok (.iconst 0, 1) := by decide +kernel
theorem d_O_find_4 : decode prog_12_method_11_code 4 = .ok (.istore 5, 2) := by decide +kernel
theorem d_O_find_6 : decode prog_12_method_11_code 6 = .ok (.iload 5, 2) := by decide +kernel
theorem d_O_find_8 : decode prog_12_method_11_code 8 = .ok (.aload_n 0, 1) := by decide +kernel
theorem d_O_find_9 : decode prog_12_method_11_code 9 = .ok (.getfield 51, 3) := by decide +kernel
theorem d_O_find_12 : decode prog_12_method_11_code 12 = .ok (.iconst 4, 1) := by decide +kernel
theorem d_O_find_13 : decode prog_12_method_11_code 13 = .ok (.iload_n 1, 1) := by decide +kernel
theorem d_O_find_14 : decode prog_12_method_11_code 14 = .ok (.imul, 1) := by decide +kernel
theorem d_O_find_15 : decode prog_12_method_11_code 15 = .ok (.iload_n 2, 1) := by decide +kernel
theorem d_O_find_16 : decode prog_12_method_11_code 16 = .ok (.iadd, 1) := by decide +kernel
theorem d_O_find_17 : decode prog_12_method_11_code 17 = .ok (.iaload, 1) := by decide +kernel
theorem d_O_find_18 : decode prog_12_method_11_code 18 = .ok (.if_icmp .ge (49), 3) := by decide +kernel
theorem d_O_find_21 : decode prog_12_method_11_code 21 = .ok (.aload_n 0, 1) := by decide +kernel
theorem d_O_find_22 : decode prog_12_method_11_code 22 = .ok (.getfield 54, 3) := by decide +kernel
theorem d_O_find_25 : decode prog_12_method_11_code 25 = .ok (.bipush (48), 2) := by decide +kernel
theorem d_O_find_27 : decode prog_12_method_11_code 27 = .ok (.iload_n 1, 1) := by decide +kernel
theorem d_O_find_28 : decode prog_12_method_11_code 28 = .ok (.imul, 1) := by decide +kernel
theorem d_O_find_29 : decode prog_12_method_11_code 29 = .ok (.bipush (12), 2) := by decide +kernel
theorem d_O_find_31 : decode prog_12_method_11_code 31 = .ok (.iload_n 2, 1) := by decide +kernel
theorem d_O_find_32 : decode prog_12_method_11_code 32 = .ok (.imul, 1) := by decide +kernel
theorem d_O_find_33 : decode prog_12_method_11_code 33 = .ok (.iadd, 1) := by decide +kernel
theorem d_O_find_34 : decode prog_12_method_11_code 34 = .ok (.iload 5, 2) := by decide +kernel
theorem d_O_find_36 : decode prog_12_method_11_code 36 = .ok (.iadd, 1) := by decide +kernel
theorem d_O_find_37 : decode prog_12_method_11_code 37 = .ok (.iaload, 1) := by decide +kernel
theorem d_O_find_38 : decode prog_12_method_11_code 38 = .ok (.iload_n 3, 1) := by decide +kernel
theorem d_O_find_39 : decode prog_12_method_11_code 39 = .ok (.if_icmp .ne (18), 3) := by decide +kernel
theorem d_O_find_42 : decode prog_12_method_11_code 42 = .ok (.bipush (48), 2) := by decide +kernel
theorem d_O_find_44 : decode prog_12_method_11_code 44 = .ok (.iload_n 1, 1) := by decide +kernel
theorem d_O_find_45 : decode prog_12_method_11_code 45 = .ok (.imul, 1) := by decide +kernel
theorem d_O_find_46 : decode prog_12_method_11_code 46 = .ok (.bipush (12), 2) := by decide +kernel
theorem d_O_find_48 : decode prog_12_method_11_code 48 = .ok (.iload_n 2, 1) := by decide +kernel
theorem d_O_find_49 : decode prog_12_method_11_code 49 = .ok (.imul, 1) := by decide +kernel
theorem d_O_find_50 : decode prog_12_method_11_code 50 = .ok (.iadd, 1) := by decide +kernel
theorem d_O_find_51 : decode prog_12_method_11_code 51 = .ok (.iload 5, 2) := by decide +kernel
theorem d_O_find_53 : decode prog_12_method_11_code 53 = .ok (.iadd, 1) := by decide +kernel
theorem d_O_find_54 : decode prog_12_method_11_code 54 = .ok (.goto (5), 3) := by decide +kernel
theorem d_O_find_57 : decode prog_12_method_11_code 57 = .ok (.iload 4, 2) := by decide +kernel
theorem d_O_find_59 : decode prog_12_method_11_code 59 = .ok (.istore 4, 2) := by decide +kernel
theorem d_O_find_61 : decode prog_12_method_11_code 61 = .ok (.iinc 5 (1), 3) := by decide +kernel
theorem d_O_find_64 : decode prog_12_method_11_code 64 = .ok (.goto (-58), 3) := by decide +kernel
theorem d_O_find_67 : decode prog_12_method_11_code 67 = .ok (.iload 4, 2) := by decide +kernel
theorem d_O_find_69 : decode prog_12_method_11_code 69 = .ok (.ireturn, 1) := by decide +kernel
def Y_O_find : sdY := ("SettingsDeskModel", prog_12_method_11_code, 6, (some .int), .code y_O_find prog_12_method_11_code 6 (some .int) :: sdB0, { frames := 0, cells := 0, slots := 0, locals := 0 }, 0, 0, [])
section
variable {l : Launch} {D : va_G} {dA : Nat → ClassId} {b n : Nat} {ad : Nat → Nat} {L : Nat → sdL} {sc : Option (Nat × Nat × (Nat → Int32))}
def k_O_find_59 (Q : Int32 → sdM → Prop) (k6 : sdM → Int32 → Int32 → Int32 → Int32 → Int32 → Prop) (M : sdM) (x1 : Int32) (x2 : Int32) (x3 : Int32) (x5 : Int32) (s0 : Int32) : Prop := k6 M x1 x2 x3 s0 (x5 + 1)
set_option maxHeartbeats 1000000 in
theorem t_O_find_59 (hA : sd_ad b n ad) (hT : l.stackTraces = false) (hO : isO n L dA) {Q : Int32 → sdM → Prop} {k6 : sdM → Int32 → Int32 → Int32 → Int32 → Int32 → Prop} (hk6 : ∀ (M : sdM) (x1 : Int32) (x2 : Int32) (x3 : Int32) (x4 : Int32) (x5 : Int32), k6 M x1 x2 x3 x4 x5 → sdW l (sdE0 sc) Y_O_find D (sd_tys dA) b n ad L ad (sd_H D (sdE0 sc).1 n ad L) (sd_qi Q) sd_xf 6 [(0, .ref 116), (1, .int x1), (2, .int x2), (3, .int x3), (4, .int x4), (5, .int x5)] [] M 0 0) (M : sdM) (x1 : Int32) (x2 : Int32) (x3 : Int32) (x5 : Int32) (s0 : Int32) (hw : k_O_find_59 Q k6 M x1 x2 x3 x5 s0) : sdW l (sdE0 sc) Y_O_find D (sd_tys dA) b n ad L ad (sd_H D (sdE0 sc).1 n ad L) (sd_qi Q) sd_xf 59 [(0, .ref 116), (1, .int x1), (2, .int x2), (3, .int x3), (5, .int x5)] [.int s0] M 0 0 := by
  unfold k_O_find_59 at hw
  refine x_istore 4 [(4, .int s0), (0, .ref 116), (1, .int x1), (2, .int x2), (3, .int x3), (5, .int x5)] d_O_find_59 (by decide) rfl ?_
  refine x_iinc 5 5 [(5, .int (x5 + 1)), (4, .int s0), (0, .ref 116), (1, .int x1), (2, .int x2), (3, .int x3)] d_O_find_61 rfl (congrArg (HAdd.hAdd x5) (show Int32.ofInt 1 = 1 by decide)) (by decide) rfl ?_
  refine x_goto 6 d_O_find_64 rfl ?_
  refine x_sub [2, 3, 4, 5, 1, 0] [(0, .ref 116), (1, .int x1), (2, .int x2), (3, .int x3), (4, .int s0), (5, .int (x5 + 1))] rfl ?_
  exact hk6 M x1 x2 x3 s0 (x5 + 1) hw
def h_O_find_6 (Q : Int32 → sdM → Prop) : Nat → sdM → Int32 → Int32 → Int32 → Int32 → Int32 → Prop
  | 0, _, _, _, _, _, _ => False
  | N + 1, M, x1, x2, x3, x4, x5 => vp_in (((4 : Int32) * x1) + x2) 68 ∧ ((M 129 (((4 : Int32) * x1) + x2).toNatClampNeg) ≤ x5 → Q x4 M) ∧ (¬ (M 129 (((4 : Int32) * x1) + x2).toNatClampNeg) ≤ x5 → vp_in ((((48 : Int32) * x1) + ((12 : Int32) * x2)) + x5) 816 ∧ (¬ (M 130 ((((48 : Int32) * x1) + ((12 : Int32) * x2)) + x5).toNatClampNeg) = x3 → k_O_find_59 Q (fun M x1 x2 x3 x4 x5 => h_O_find_6 Q N M x1 x2 x3 x4 x5) M x1 x2 x3 x5 x4) ∧ ((M 130 ((((48 : Int32) * x1) + ((12 : Int32) * x2)) + x5).toNatClampNeg) = x3 → k_O_find_59 Q (fun M x1 x2 x3 x4 x5 => h_O_find_6 Q N M x1 x2 x3 x4 x5) M x1 x2 x3 x5 ((((48 : Int32) * x1) + ((12 : Int32) * x2)) + x5)))
set_option maxHeartbeats 1000000 in
theorem t_O_find_6 (hA : sd_ad b n ad) (hT : l.stackTraces = false) (hO : isO n L dA) {Q : Int32 → sdM → Prop} (N : Nat) : ∀ (M : sdM) (x1 : Int32) (x2 : Int32) (x3 : Int32) (x4 : Int32) (x5 : Int32), h_O_find_6 Q N M x1 x2 x3 x4 x5 → sdW l (sdE0 sc) Y_O_find D (sd_tys dA) b n ad L ad (sd_H D (sdE0 sc).1 n ad L) (sd_qi Q) sd_xf 6 [(0, .ref 116), (1, .int x1), (2, .int x2), (3, .int x3), (4, .int x4), (5, .int x5)] [] M 0 0 := by
  induction N with
  | zero => intro M x1 x2 x3 x4 x5 hw; exact hw.elim
  | succ N ih =>
    intro M x1 x2 x3 x4 x5 hw
    rw [h_O_find_6] at hw
    refine x_iload 5 5 d_O_find_6 rfl ?_
    refine x_aload_n 0 0 d_O_find_8 rfl rfl ?_
    refine x_getr 16 129 d_O_find_9 hO.1 hO.2.1 rfl rfl (by decide) lay_O (List.mem_cons_of_mem _ q478) rfl ?_
    refine x_iconst (v := 4) d_O_find_12 (by decide) ?_
    refine x_iload_n 1 1 d_O_find_13 rfl rfl ?_
    refine x_imul d_O_find_14 ?_
    refine x_iload_n 2 2 d_O_find_15 rfl rfl ?_
    refine x_iadd d_O_find_16 ?_
    obtain ⟨hi3, hw⟩ := hw
    refine x_iald d_O_find_17 hO.sizes.1 hO.sizes.2 rfl hi3 ?_
    refine x_icmp_ge 67 d_O_find_18 rfl (fun hc => ?_) (fun hc => ?_)
    · have hw := hw.1 hc
      refine x_iload 4 4 d_O_find_67 rfl ?_
      exact x_iret d_O_find_69 rfl (fun _ h => h) ⟨_, rfl, hw⟩
    · have hw := hw.2 hc
      refine x_aload_n 0 0 d_O_find_21 rfl rfl ?_
      refine x_getr 17 130 d_O_find_22 hO.1 hO.2.1 rfl rfl (by decide) lay_O (List.mem_cons_of_mem _ q479) rfl ?_
      refine x_bipush (v := 48) d_O_find_25 (by decide) ?_
      refine x_iload_n 1 1 d_O_find_27 rfl rfl ?_
      refine x_imul d_O_find_28 ?_
      refine x_bipush (v := 12) d_O_find_29 (by decide) ?_
      refine x_iload_n 2 2 d_O_find_31 rfl rfl ?_
      refine x_imul d_O_find_32 ?_
      refine x_iadd d_O_find_33 ?_
      refine x_iload 5 5 d_O_find_34 rfl ?_
      refine x_iadd d_O_find_36 ?_
      obtain ⟨hi4, hw⟩ := hw
      refine x_iald d_O_find_37 hO.keys.1 hO.keys.2 rfl hi4 ?_
      refine x_iload_n 3 3 d_O_find_38 rfl rfl ?_
      refine x_icmp_ne 57 d_O_find_39 rfl (fun hc => ?_) (fun hc => ?_)
      · have hw := hw.1 hc
        refine x_iload 4 4 d_O_find_57 rfl ?_
        refine x_sub [0, 1, 2, 3, 5] [(0, .ref 116), (1, .int x1), (2, .int x2), (3, .int x3), (5, .int x5)] rfl ?_
        exact t_O_find_59 hA hT hO (fun M x1 x2 x3 x4 x5  hw => ih M x1 x2 x3 x4 x5 hw) M x1 x2 x3 x5 x4 hw
      · have hw := hw.2 hc
        refine x_bipush (v := 48) d_O_find_42 (by decide) ?_
        refine x_iload_n 1 1 d_O_find_44 rfl rfl ?_
        refine x_imul d_O_find_45 ?_
        refine x_bipush (v := 12) d_O_find_46 (by decide) ?_
        refine x_iload_n 2 2 d_O_find_48 rfl rfl ?_
        refine x_imul d_O_find_49 ?_
        refine x_iadd d_O_find_50 ?_
        refine x_iload 5 5 d_O_find_51 rfl ?_
        refine x_iadd d_O_find_53 ?_
        refine x_goto 59 d_O_find_54 rfl ?_
        refine x_sub [0, 1, 2, 3, 5] [(0, .ref 116), (1, .int x1), (2, .int x2), (3, .int x3), (5, .int x5)] rfl ?_
        exact t_O_find_59 hA hT hO (fun M x1 x2 x3 x4 x5  hw => ih M x1 x2 x3 x4 x5 hw) M x1 x2 x3 x5 ((((48 : Int32) * x1) + ((12 : Int32) * x2)) + x5) hw
def w_O_find (M : sdM) (a1 : Int32) (a2 : Int32) (a3 : Int32) (Q : Int32 → sdM → Prop) : Prop := ∃ N9 : Nat, h_O_find_6 Q N9 M a1 a2 a3 (-1 : Int32) (0 : Int32)
set_option maxHeartbeats 1000000 in
theorem c_O_find {a1 : Int32} {a2 : Int32} {a3 : Int32} (hA : sd_ad b n ad) (hT : l.stackTraces = false) (hO : isO n L dA) {Q : Int32 → sdM → Prop} {M : sdM} (hw : w_O_find M a1 a2 a3 Q) : sd_Cn l (sdE0 sc) y_O_find Y_O_find.2.2.2.2.1 Y_O_find.2.2.2.2.2.1 0 0 D (sd_tys dA) b n ad L M [.ref 116, .int a1, .int a2, .int a3] (sd_qi Q) sd_xf := by
  refine sd_enter (Y := Y_O_find) rfl rfl rfl rfl (Nat.le_of_ble_eq_true rfl) ?_
  show sdW l (sdE0 sc) Y_O_find D (sd_tys dA) b n ad L ad (sd_H D (sdE0 sc).1 n ad L) (sd_qi Q) sd_xf 0 [(0, .ref 116), (1, .int a1), (2, .int a2), (3, .int a3)] [] M 0 0
  unfold w_O_find at hw
  refine x_iconst (v := (-1)) d_O_find_0 (by decide) ?_
  refine x_istore 4 [(4, .int (-1 : Int32)), (0, .ref 116), (1, .int a1), (2, .int a2), (3, .int a3)] d_O_find_1 (by decide) rfl ?_
  refine x_iconst (v := 0) d_O_find_3 (by decide) ?_
  refine x_istore 5 [(5, .int (0 : Int32)), (4, .int (-1 : Int32)), (0, .ref 116), (1, .int a1), (2, .int a2), (3, .int a3)] d_O_find_4 (by decide) rfl ?_
  refine x_sub [2, 3, 4, 5, 1, 0] [(0, .ref 116), (1, .int a1), (2, .int a2), (3, .int a3), (4, .int (-1 : Int32)), (5, .int (0 : Int32))] rfl ?_
  obtain ⟨N9, hw⟩ := hw
  exact t_O_find_6 hA hT hO N9 M a1 a2 a3 (-1 : Int32) (0 : Int32) hw
end
theorem q480 : (.methodLink "SettingsDeskModel" 108 ⟨"SettingsDeskModel", "isSomething", "(III)Z"⟩ : Cond) ∈ sdB0 := sd_tb5 70 rfl rfl
theorem q481 : (.code ⟨"SettingsDeskModel", "isSomething", "(III)Z"⟩ prog_12_method_20_code 4 (some .boolean) : Cond) ∈ sdB0 := sd_tb5 73 rfl rfl
theorem q482 : (.instanceMethod ⟨"SettingsDeskModel", "isSomething", "(III)Z"⟩ : Cond) ∈ sdB0 := sd_tb5 72 rfl rfl
theorem q483 : (.selects "SettingsDeskModel" ⟨"SettingsDeskModel", "isSomething", "(III)Z"⟩ ⟨"SettingsDeskModel", "isSomething", "(III)Z"⟩ : Cond) ∈ sdB0 := sd_tbp (q := (⟨"SettingsDeskModel", "isSomething", "(III)Z"⟩, 35)) (List.mem_of_getElem? (i := 20) rfl)
theorem q484 : (.methodLink "SettingsDeskModel" 111 ⟨"SettingsDeskModel", "valueOf", "(III)I"⟩ : Cond) ∈ sdB0 := sd_tb5 78 rfl rfl
theorem q485 : (.code ⟨"SettingsDeskModel", "valueOf", "(III)I"⟩ prog_12_method_21_code 4 (some .int) : Cond) ∈ sdB0 := sd_tb5 81 rfl rfl
theorem q486 : (.instanceMethod ⟨"SettingsDeskModel", "valueOf", "(III)I"⟩ : Cond) ∈ sdB0 := sd_tb5 80 rfl rfl
theorem q487 : (.selects "SettingsDeskModel" ⟨"SettingsDeskModel", "valueOf", "(III)I"⟩ ⟨"SettingsDeskModel", "valueOf", "(III)I"⟩ : Cond) ∈ sdB0 := sd_tbp (q := (⟨"SettingsDeskModel", "valueOf", "(III)I"⟩, 35)) (List.mem_of_getElem? (i := 22) rfl)
abbrev y_O_isTwice : MethodName := ⟨"SettingsDeskModel", "isTwice", "(IIII)Z"⟩
theorem d_O_isTwice_0 : decode prog_12_method_22_code 0 = .ok (.iconst 0, 1) := by decide +kernel
theorem d_O_isTwice_1 : decode prog_12_method_22_code 1 = .ok (.istore 5, 2) := by decide +kernel
theorem d_O_isTwice_3 : decode prog_12_method_22_code 3 = .ok (.bipush (48), 2) := by decide +kernel
theorem d_O_isTwice_5 : decode prog_12_method_22_code 5 = .ok (.iload_n 1, 1) := by decide +kernel
theorem d_O_isTwice_6 : decode prog_12_method_22_code 6 = .ok (.imul, 1) := by decide +kernel
theorem d_O_isTwice_7 : decode prog_12_method_22_code 7 = .ok (.bipush (12), 2) := by decide +kernel
theorem d_O_isTwice_9 : decode prog_12_method_22_code 9 = .ok (.iload_n 2, 1) := by decide +kernel
theorem d_O_isTwice_10 : decode prog_12_method_22_code 10 = .ok (.imul, 1) := by decide +kernel
theorem d_O_isTwice_11 : decode prog_12_method_22_code 11 = .ok (.iadd, 1) := by decide +kernel
theorem d_O_isTwice_12 : decode prog_12_method_22_code 12 = .ok (.istore 6, 2) := by decide +kernel
theorem d_O_isTwice_14 : decode prog_12_method_22_code 14 = .ok (.iload 6, 2) := by decide +kernel
theorem d_O_isTwice_16 : decode prog_12_method_22_code 16 = .ok (.iload_n 3, 1) := by decide +kernel
theorem d_O_isTwice_17 : decode prog_12_method_22_code 17 = .ok (.if_icmp .ge (64), 3) := by decide +kernel
theorem d_O_isTwice_20 : decode prog_12_method_22_code 20 = .ok (.iload 5, 2) := by decide +kernel
theorem d_O_isTwice_22 : decode prog_12_method_22_code 22 = .ok (.ifCond .ne (46), 3) := by decide +kernel
theorem d_O_isTwice_25 : decode prog_12_method_22_code 25 = .ok (.aload_n 0, 1) := by decide +kernel
theorem d_O_isTwice_26 : decode prog_12_method_22_code 26 = .ok (.iload 6, 2) := by decide +kernel
theorem d_O_isTwice_28 : decode prog_12_method_22_code 28 = .ok (.iload_n 2, 1) := by decide +kernel
theorem d_O_isTwice_29 : decode prog_12_method_22_code 29 = .ok (.iload 4, 2) := by decide +kernel
theorem d_O_isTwice_31 : decode prog_12_method_22_code 31 = .ok (.invokevirtual 108, 3) := by decide +kernel
theorem d_O_isTwice_34 : decode prog_12_method_22_code 34 = .ok (.ifCond .eq (38), 3) := by decide +kernel
theorem d_O_isTwice_37 : decode prog_12_method_22_code 37 = .ok (.aload_n 0, 1) := by decide +kernel
theorem d_O_isTwice_38 : decode prog_12_method_22_code 38 = .ok (.iload_n 3, 1) := by decide +kernel
theorem d_O_isTwice_39 : decode prog_12_method_22_code 39 = .ok (.iload_n 2, 1) := by decide +kernel
theorem d_O_isTwice_40 : decode prog_12_method_22_code 40 = .ok (.iload 4, 2) := by decide +kernel
theorem d_O_isTwice_42 : decode prog_12_method_22_code 42 = .ok (.invokevirtual 108, 3) := by decide +kernel
theorem d_O_isTwice_45 : decode prog_12_method_22_code 45 = .ok (.ifCond .eq (27), 3) := by decide +kernel
theorem d_O_isTwice_48 : decode prog_12_method_22_code 48 = .ok (.aload_n 0, 1) := by decide +kernel
theorem d_O_isTwice_49 : decode prog_12_method_22_code 49 = .ok (.iload 6, 2) := by decide +kernel
theorem d_O_isTwice_51 : decode prog_12_method_22_code 51 = .ok (.iload_n 2, 1) := by decide +kernel
theorem d_O_isTwice_52 : decode prog_12_method_22_code 52 = .ok (.iload 4, 2) := by decide +kernel
theorem d_O_isTwice_54 : decode prog_12_method_22_code 54 = .ok (.invokevirtual 111, 3) := by decide +kernel
theorem d_O_isTwice_57 : decode prog_12_method_22_code 57 = .ok (.aload_n 0, 1) := by decide +kernel
theorem d_O_isTwice_58 : decode prog_12_method_22_code 58 = .ok (.iload_n 3, 1) := by decide +kernel
theorem d_O_isTwice_59 : decode prog_12_method_22_code 59 = .ok (.iload_n 2, 1) := by decide +kernel
theorem d_O_isTwice_60 : decode prog_12_method_22_code 60 = .ok (.iload 4, 2) := by decide +kernel
theorem d_O_isTwice_62 : decode prog_12_method_22_code 62 = .ok (.invokevirtual 111, 3) := by decide +kernel
theorem d_O_isTwice_65 : decode prog_12_method_22_code 65 = .ok (.if_icmp .ne (7), 3) := by decide +kernel
theorem d_O_isTwice_68 : decode prog_12_method_22_code 68 = .ok (.iconst 1, 1) := by decide +kernel
theorem d_O_isTwice_69 : decode prog_12_method_22_code 69 = .ok (.goto (4), 3) := by decide +kernel
theorem d_O_isTwice_72 : decode prog_12_method_22_code 72 = .ok (.iconst 0, 1) := by decide +kernel
theorem d_O_isTwice_73 : decode prog_12_method_22_code 73 = .ok (.istore 5, 2) := by decide +kernel
theorem d_O_isTwice_75 : decode prog_12_method_22_code 75 = .ok (.iinc 6 (1), 3) := by decide +kernel
theorem d_O_isTwice_78 : decode prog_12_method_22_code 78 = .ok (.goto (-64), 3) := by decide +kernel
theorem d_O_isTwice_81 : decode prog_12_method_22_code 81 = .ok (.iload 5, 2) := by decide +kernel
theorem d_O_isTwice_83 : decode prog_12_method_22_code 83 = .ok (.ireturn, 1) := by decide +kernel
def Y_O_isTwice : sdY := ("SettingsDeskModel", prog_12_method_22_code, 7, (some .boolean), .code y_O_isTwice prog_12_method_22_code 7 (some .boolean) :: sdB0, { frames := 2, cells := 0, slots := 0, locals := 45 }, 0, 0, [])
theorem cw_O_isTwice_O_isSomething_108 : sd_cwV Y_O_isTwice Y_O_isSomething y_O_isSomething 108 3 "SettingsDeskModel" := ⟨sd_goodV q480 q482 q483 q459 q481, ⟨_, rfl⟩, ⟨rfl, rfl, rfl, rfl⟩, ⟨rfl, by decide, by decide, by decide +kernel⟩, ⟨by decide, by decide⟩⟩
theorem cw_O_isTwice_O_valueOf_111 : sd_cwV Y_O_isTwice Y_O_valueOf y_O_valueOf 111 3 "SettingsDeskModel" := ⟨sd_goodV q484 q486 q487 q459 q485, ⟨_, rfl⟩, ⟨rfl, rfl, rfl, rfl⟩, ⟨rfl, by decide, by decide, by decide +kernel⟩, ⟨by decide, by decide⟩⟩
section
variable {l : Launch} {D : va_G} {dA : Nat → ClassId} {b n : Nat} {ad : Nat → Nat} {L : Nat → sdL} {sc : Option (Nat × Nat × (Nat → Int32))}
def k_O_isTwice_73 (Q : Int32 → sdM → Prop) (k14 : sdM → Int32 → Int32 → Int32 → Int32 → Int32 → Prop) (M : sdM) (x2 : Int32) (x3 : Int32) (x4 : Int32) (x6 : Int32) (s0 : Int32) : Prop := k14 M x2 x3 x4 s0 (x6 + 1)
set_option maxHeartbeats 1000000 in
theorem t_O_isTwice_73 (hA : sd_ad b n ad) (hT : l.stackTraces = false) (hO : isO n L dA) {Q : Int32 → sdM → Prop} {k14 : sdM → Int32 → Int32 → Int32 → Int32 → Int32 → Prop} (hk14 : ∀ (M : sdM) (x2 : Int32) (x3 : Int32) (x4 : Int32) (x5 : Int32) (x6 : Int32), k14 M x2 x3 x4 x5 x6 → sdW l (sdE0 sc) Y_O_isTwice D (sd_tys dA) b n ad L ad (sd_H D (sdE0 sc).1 n ad L) (sd_qi Q) sd_xf 14 [(0, .ref 116), (2, .int x2), (3, .int x3), (4, .int x4), (5, .int x5), (6, .int x6)] [] M 0 0) (M : sdM) (x2 : Int32) (x3 : Int32) (x4 : Int32) (x6 : Int32) (s0 : Int32) (hw : k_O_isTwice_73 Q k14 M x2 x3 x4 x6 s0) : sdW l (sdE0 sc) Y_O_isTwice D (sd_tys dA) b n ad L ad (sd_H D (sdE0 sc).1 n ad L) (sd_qi Q) sd_xf 73 [(0, .ref 116), (2, .int x2), (3, .int x3), (4, .int x4), (6, .int x6)] [.int s0] M 0 0 := by
  unfold k_O_isTwice_73 at hw
  refine x_istore 5 [(5, .int s0), (0, .ref 116), (2, .int x2), (3, .int x3), (4, .int x4), (6, .int x6)] d_O_isTwice_73 (by decide) rfl ?_
  refine x_iinc 6 5 [(6, .int (x6 + 1)), (5, .int s0), (0, .ref 116), (2, .int x2), (3, .int x3), (4, .int x4)] d_O_isTwice_75 rfl (congrArg (HAdd.hAdd x6) (show Int32.ofInt 1 = 1 by decide)) (by decide) rfl ?_
  refine x_goto 14 d_O_isTwice_78 rfl ?_
  refine x_sub [2, 3, 4, 5, 1, 0] [(0, .ref 116), (2, .int x2), (3, .int x3), (4, .int x4), (5, .int s0), (6, .int (x6 + 1))] rfl ?_
  exact hk14 M x2 x3 x4 s0 (x6 + 1) hw
def k_O_isTwice_72 (Q : Int32 → sdM → Prop) (k14 : sdM → Int32 → Int32 → Int32 → Int32 → Int32 → Prop) (M : sdM) (x2 : Int32) (x3 : Int32) (x4 : Int32) (x6 : Int32) : Prop := k_O_isTwice_73 Q k14 M x2 x3 x4 x6 (0 : Int32)
set_option maxHeartbeats 1000000 in
theorem t_O_isTwice_72 (hA : sd_ad b n ad) (hT : l.stackTraces = false) (hO : isO n L dA) {Q : Int32 → sdM → Prop} {k14 : sdM → Int32 → Int32 → Int32 → Int32 → Int32 → Prop} (hk14 : ∀ (M : sdM) (x2 : Int32) (x3 : Int32) (x4 : Int32) (x5 : Int32) (x6 : Int32), k14 M x2 x3 x4 x5 x6 → sdW l (sdE0 sc) Y_O_isTwice D (sd_tys dA) b n ad L ad (sd_H D (sdE0 sc).1 n ad L) (sd_qi Q) sd_xf 14 [(0, .ref 116), (2, .int x2), (3, .int x3), (4, .int x4), (5, .int x5), (6, .int x6)] [] M 0 0) (M : sdM) (x2 : Int32) (x3 : Int32) (x4 : Int32) (x6 : Int32) (hw : k_O_isTwice_72 Q k14 M x2 x3 x4 x6) : sdW l (sdE0 sc) Y_O_isTwice D (sd_tys dA) b n ad L ad (sd_H D (sdE0 sc).1 n ad L) (sd_qi Q) sd_xf 72 [(0, .ref 116), (2, .int x2), (3, .int x3), (4, .int x4), (6, .int x6)] [] M 0 0 := by
  unfold k_O_isTwice_72 at hw
  refine x_iconst (v := 0) d_O_isTwice_72 (by decide) ?_
  exact t_O_isTwice_73 hA hT hO hk14 M x2 x3 x4 x6 (0 : Int32) hw
def k_O_isTwice_68 (Q : Int32 → sdM → Prop) (k14 : sdM → Int32 → Int32 → Int32 → Int32 → Int32 → Prop) (M : sdM) (x2 : Int32) (x3 : Int32) (x4 : Int32) (x6 : Int32) : Prop := k_O_isTwice_73 Q k14 M x2 x3 x4 x6 (1 : Int32)
set_option maxHeartbeats 1000000 in
theorem t_O_isTwice_68 (hA : sd_ad b n ad) (hT : l.stackTraces = false) (hO : isO n L dA) {Q : Int32 → sdM → Prop} {k14 : sdM → Int32 → Int32 → Int32 → Int32 → Int32 → Prop} (hk14 : ∀ (M : sdM) (x2 : Int32) (x3 : Int32) (x4 : Int32) (x5 : Int32) (x6 : Int32), k14 M x2 x3 x4 x5 x6 → sdW l (sdE0 sc) Y_O_isTwice D (sd_tys dA) b n ad L ad (sd_H D (sdE0 sc).1 n ad L) (sd_qi Q) sd_xf 14 [(0, .ref 116), (2, .int x2), (3, .int x3), (4, .int x4), (5, .int x5), (6, .int x6)] [] M 0 0) (M : sdM) (x2 : Int32) (x3 : Int32) (x4 : Int32) (x6 : Int32) (hw : k_O_isTwice_68 Q k14 M x2 x3 x4 x6) : sdW l (sdE0 sc) Y_O_isTwice D (sd_tys dA) b n ad L ad (sd_H D (sdE0 sc).1 n ad L) (sd_qi Q) sd_xf 68 [(0, .ref 116), (2, .int x2), (3, .int x3), (4, .int x4), (6, .int x6)] [] M 0 0 := by
  unfold k_O_isTwice_68 at hw
  refine x_iconst (v := 1) d_O_isTwice_68 (by decide) ?_
  refine x_goto 73 d_O_isTwice_69 rfl ?_
  exact t_O_isTwice_73 hA hT hO hk14 M x2 x3 x4 x6 (1 : Int32) hw
def h_O_isTwice_14 (Q : Int32 → sdM → Prop) : Nat → sdM → Int32 → Int32 → Int32 → Int32 → Int32 → Prop
  | 0, _, _, _, _, _, _ => False
  | N + 1, M, x2, x3, x4, x5, x6 => (x3 ≤ x6 → sdB x5 ∧ Q x5 M) ∧ (¬ x3 ≤ x6 → (¬ x5 = 0 → k_O_isTwice_68 Q (fun M x2 x3 x4 x5 x6 => h_O_isTwice_14 Q N M x2 x3 x4 x5 x6) M x2 x3 x4 x6) ∧ (x5 = 0 → w_O_isSomething M x6 x2 x4 (fun r10 M9 => (r10 = 0 → k_O_isTwice_72 Q (fun M x2 x3 x4 x5 x6 => h_O_isTwice_14 Q N M x2 x3 x4 x5 x6) M9 x2 x3 x4 x6) ∧ (¬ r10 = 0 → w_O_isSomething M9 x3 x2 x4 (fun r12 M11 => (r12 = 0 → k_O_isTwice_72 Q (fun M x2 x3 x4 x5 x6 => h_O_isTwice_14 Q N M x2 x3 x4 x5 x6) M11 x2 x3 x4 x6) ∧ (¬ r12 = 0 → w_O_valueOf M11 x6 x2 x4 (fun r14 M13 => w_O_valueOf M13 x3 x2 x4 (fun r16 M15 => (¬ r14 = r16 → k_O_isTwice_72 Q (fun M x2 x3 x4 x5 x6 => h_O_isTwice_14 Q N M x2 x3 x4 x5 x6) M15 x2 x3 x4 x6) ∧ (r14 = r16 → k_O_isTwice_68 Q (fun M x2 x3 x4 x5 x6 => h_O_isTwice_14 Q N M x2 x3 x4 x5 x6) M15 x2 x3 x4 x6)))))))))
set_option maxHeartbeats 1000000 in
theorem t_O_isTwice_14 (hA : sd_ad b n ad) (hT : l.stackTraces = false) (hO : isO n L dA) {Q : Int32 → sdM → Prop} (N : Nat) : ∀ (M : sdM) (x2 : Int32) (x3 : Int32) (x4 : Int32) (x5 : Int32) (x6 : Int32), h_O_isTwice_14 Q N M x2 x3 x4 x5 x6 → sdW l (sdE0 sc) Y_O_isTwice D (sd_tys dA) b n ad L ad (sd_H D (sdE0 sc).1 n ad L) (sd_qi Q) sd_xf 14 [(0, .ref 116), (2, .int x2), (3, .int x3), (4, .int x4), (5, .int x5), (6, .int x6)] [] M 0 0 := by
  induction N with
  | zero => intro M x2 x3 x4 x5 x6 hw; exact hw.elim
  | succ N ih =>
    intro M x2 x3 x4 x5 x6 hw
    rw [h_O_isTwice_14] at hw
    refine x_iload 6 5 d_O_isTwice_14 rfl ?_
    refine x_iload_n 3 2 d_O_isTwice_16 rfl rfl ?_
    refine x_icmp_ge 81 d_O_isTwice_17 rfl (fun hc => ?_) (fun hc => ?_)
    · have hw := hw.1 hc
      refine x_iload 5 4 d_O_isTwice_81 rfl ?_
      exact x_zret d_O_isTwice_83 rfl (sdB_n hw.1) (fun _ h => h) ⟨_, rfl, hw.2⟩
    · have hw := hw.2 hc
      refine x_iload 5 4 d_O_isTwice_20 rfl ?_
      refine x_if_ne 68 d_O_isTwice_22 rfl (fun hc => ?_) (fun hc => ?_)
      · have hw := hw.1 hc
        refine x_sub [0, 1, 2, 3, 5] [(0, .ref 116), (2, .int x2), (3, .int x3), (4, .int x4), (6, .int x6)] rfl ?_
        exact t_O_isTwice_68 hA hT hO (fun M x2 x3 x4 x5 x6  hw => ih M x2 x3 x4 x5 x6 hw) M x2 x3 x4 x6 hw
      · have hw := hw.2 hc
        refine x_aload_n 0 0 d_O_isTwice_25 rfl rfl ?_
        refine x_iload 6 5 d_O_isTwice_26 rfl ?_
        refine x_iload_n 2 1 d_O_isTwice_28 rfl rfl ?_
        refine x_iload 4 3 d_O_isTwice_29 rfl ?_
        refine x_callVi (As := [.int x6, .int x2, .int x4]) (t := 116) (rest := []) (rc := 0) (rs := 0) (c_O_isSomething hA hT hO hw) cw_O_isTwice_O_isSomething_108 hO.1 hO.2.1 rfl d_O_isTwice_31 rfl rfl (Nat.le_of_ble_eq_true rfl) rfl (fun _ _ h => h.elim) (fun _ _ h => h) (fun r10 M9 hw => ?_)
        refine x_if_eq 72 d_O_isTwice_34 rfl (fun hc => ?_) (fun hc => ?_)
        · have hw := hw.1 hc
          refine x_sub [0, 1, 2, 3, 5] [(0, .ref 116), (2, .int x2), (3, .int x3), (4, .int x4), (6, .int x6)] rfl ?_
          exact t_O_isTwice_72 hA hT hO (fun M x2 x3 x4 x5 x6  hw => ih M x2 x3 x4 x5 x6 hw) M9 x2 x3 x4 x6 hw
        · have hw := hw.2 hc
          refine x_aload_n 0 0 d_O_isTwice_37 rfl rfl ?_
          refine x_iload_n 3 2 d_O_isTwice_38 rfl rfl ?_
          refine x_iload_n 2 1 d_O_isTwice_39 rfl rfl ?_
          refine x_iload 4 3 d_O_isTwice_40 rfl ?_
          refine x_callVi (As := [.int x3, .int x2, .int x4]) (t := 116) (rest := []) (rc := 0) (rs := 0) (c_O_isSomething hA hT hO hw) cw_O_isTwice_O_isSomething_108 hO.1 hO.2.1 rfl d_O_isTwice_42 rfl rfl (Nat.le_of_ble_eq_true rfl) rfl (fun _ _ h => h.elim) (fun _ _ h => h) (fun r12 M11 hw => ?_)
          refine x_if_eq 72 d_O_isTwice_45 rfl (fun hc => ?_) (fun hc => ?_)
          · have hw := hw.1 hc
            refine x_sub [0, 1, 2, 3, 5] [(0, .ref 116), (2, .int x2), (3, .int x3), (4, .int x4), (6, .int x6)] rfl ?_
            exact t_O_isTwice_72 hA hT hO (fun M x2 x3 x4 x5 x6  hw => ih M x2 x3 x4 x5 x6 hw) M11 x2 x3 x4 x6 hw
          · have hw := hw.2 hc
            refine x_aload_n 0 0 d_O_isTwice_48 rfl rfl ?_
            refine x_iload 6 5 d_O_isTwice_49 rfl ?_
            refine x_iload_n 2 1 d_O_isTwice_51 rfl rfl ?_
            refine x_iload 4 3 d_O_isTwice_52 rfl ?_
            refine x_callVi (As := [.int x6, .int x2, .int x4]) (t := 116) (rest := []) (rc := 0) (rs := 0) (c_O_valueOf hA hT hO hw) cw_O_isTwice_O_valueOf_111 hO.1 hO.2.1 rfl d_O_isTwice_54 rfl rfl (Nat.le_of_ble_eq_true rfl) rfl (fun _ _ h => h.elim) (fun _ _ h => h) (fun r14 M13 hw => ?_)
            refine x_aload_n 0 0 d_O_isTwice_57 rfl rfl ?_
            refine x_iload_n 3 2 d_O_isTwice_58 rfl rfl ?_
            refine x_iload_n 2 1 d_O_isTwice_59 rfl rfl ?_
            refine x_iload 4 3 d_O_isTwice_60 rfl ?_
            refine x_callVi (As := [.int x3, .int x2, .int x4]) (t := 116) (rest := [.int r14]) (rc := 0) (rs := 0) (c_O_valueOf hA hT hO hw) cw_O_isTwice_O_valueOf_111 hO.1 hO.2.1 rfl d_O_isTwice_62 rfl rfl (Nat.le_of_ble_eq_true rfl) rfl (fun _ _ h => h.elim) (fun _ _ h => h) (fun r16 M15 hw => ?_)
            refine x_icmp_ne 72 d_O_isTwice_65 rfl (fun hc => ?_) (fun hc => ?_)
            · have hw := hw.1 hc
              refine x_sub [0, 1, 2, 3, 5] [(0, .ref 116), (2, .int x2), (3, .int x3), (4, .int x4), (6, .int x6)] rfl ?_
              exact t_O_isTwice_72 hA hT hO (fun M x2 x3 x4 x5 x6  hw => ih M x2 x3 x4 x5 x6 hw) M15 x2 x3 x4 x6 hw
            · have hw := hw.2 hc
              refine x_sub [0, 1, 2, 3, 5] [(0, .ref 116), (2, .int x2), (3, .int x3), (4, .int x4), (6, .int x6)] rfl ?_
              exact t_O_isTwice_68 hA hT hO (fun M x2 x3 x4 x5 x6  hw => ih M x2 x3 x4 x5 x6 hw) M15 x2 x3 x4 x6 hw
def w_O_isTwice (M : sdM) (a1 : Int32) (a2 : Int32) (a3 : Int32) (a4 : Int32) (Q : Int32 → sdM → Prop) : Prop := ∃ N9 : Nat, h_O_isTwice_14 Q N9 M a2 a3 a4 (0 : Int32) (((48 : Int32) * a1) + ((12 : Int32) * a2))
set_option maxHeartbeats 1000000 in
theorem c_O_isTwice {a1 : Int32} {a2 : Int32} {a3 : Int32} {a4 : Int32} (hA : sd_ad b n ad) (hT : l.stackTraces = false) (hO : isO n L dA) {Q : Int32 → sdM → Prop} {M : sdM} (hw : w_O_isTwice M a1 a2 a3 a4 Q) : sd_Cn l (sdE0 sc) y_O_isTwice Y_O_isTwice.2.2.2.2.1 Y_O_isTwice.2.2.2.2.2.1 0 0 D (sd_tys dA) b n ad L M [.ref 116, .int a1, .int a2, .int a3, .int a4] (sd_qi Q) sd_xf := by
  refine sd_enter (Y := Y_O_isTwice) rfl rfl rfl rfl (Nat.le_of_ble_eq_true rfl) ?_
  show sdW l (sdE0 sc) Y_O_isTwice D (sd_tys dA) b n ad L ad (sd_H D (sdE0 sc).1 n ad L) (sd_qi Q) sd_xf 0 [(0, .ref 116), (1, .int a1), (2, .int a2), (3, .int a3), (4, .int a4)] [] M 0 0
  unfold w_O_isTwice at hw
  refine x_iconst (v := 0) d_O_isTwice_0 (by decide) ?_
  refine x_istore 5 [(5, .int (0 : Int32)), (0, .ref 116), (1, .int a1), (2, .int a2), (3, .int a3), (4, .int a4)] d_O_isTwice_1 (by decide) rfl ?_
  refine x_bipush (v := 48) d_O_isTwice_3 (by decide) ?_
  refine x_iload_n 1 2 d_O_isTwice_5 rfl rfl ?_
  refine x_imul d_O_isTwice_6 ?_
  refine x_bipush (v := 12) d_O_isTwice_7 (by decide) ?_
  refine x_iload_n 2 3 d_O_isTwice_9 rfl rfl ?_
  refine x_imul d_O_isTwice_10 ?_
  refine x_iadd d_O_isTwice_11 ?_
  refine x_istore 6 [(6, .int (((48 : Int32) * a1) + ((12 : Int32) * a2))), (5, .int (0 : Int32)), (0, .ref 116), (1, .int a1), (2, .int a2), (3, .int a3), (4, .int a4)] d_O_isTwice_12 (by decide) rfl ?_
  refine x_sub [2, 4, 5, 6, 1, 0] [(0, .ref 116), (2, .int a2), (3, .int a3), (4, .int a4), (5, .int (0 : Int32)), (6, .int (((48 : Int32) * a1) + ((12 : Int32) * a2)))] rfl ?_
  obtain ⟨N9, hw⟩ := hw
  exact t_O_isTwice_14 hA hT hO N9 M a2 a3 a4 (0 : Int32) (((48 : Int32) * a1) + ((12 : Int32) * a2)) hw
end
theorem q488 : (.methodLink "SettingsDeskModel" 118 ⟨"SettingsDeskModel", "isTwice", "(IIII)Z"⟩ : Cond) ∈ sdB0 := sd_tb5 86 rfl rfl
theorem q489 : (.code ⟨"SettingsDeskModel", "isTwice", "(IIII)Z"⟩ prog_12_method_22_code 7 (some .boolean) : Cond) ∈ sdB0 := sd_tb5 89 rfl rfl
theorem q490 : (.instanceMethod ⟨"SettingsDeskModel", "isTwice", "(IIII)Z"⟩ : Cond) ∈ sdB0 := sd_tb5 88 rfl rfl
theorem q491 : (.selects "SettingsDeskModel" ⟨"SettingsDeskModel", "isTwice", "(IIII)Z"⟩ ⟨"SettingsDeskModel", "isTwice", "(IIII)Z"⟩ : Cond) ∈ sdB0 := sd_tbp (q := (⟨"SettingsDeskModel", "isTwice", "(IIII)Z"⟩, 35)) (List.mem_of_getElem? (i := 24) rfl)
theorem q492 : (.methodLink "SettingsDeskModel" 115 ⟨"SettingsDeskModel", "find", "(III)I"⟩ : Cond) ∈ sdB0 := sd_tb5 82 rfl rfl
theorem q493 : (.code ⟨"SettingsDeskModel", "find", "(III)I"⟩ prog_12_method_11_code 6 (some .int) : Cond) ∈ sdB0 := sd_tb5 85 rfl rfl
theorem q494 : (.instanceMethod ⟨"SettingsDeskModel", "find", "(III)I"⟩ : Cond) ∈ sdB0 := sd_tb5 84 rfl rfl
theorem q495 : (.selects "SettingsDeskModel" ⟨"SettingsDeskModel", "find", "(III)I"⟩ ⟨"SettingsDeskModel", "find", "(III)I"⟩ : Cond) ∈ sdB0 := sd_tbp (q := (⟨"SettingsDeskModel", "find", "(III)I"⟩, 35)) (List.mem_of_getElem? (i := 23) rfl)
abbrev y_O_isWrong : MethodName := ⟨"SettingsDeskModel", "isWrong", "(IIIII)Z"⟩
theorem d_O_isWrong_0 : decode prog_12_method_23_code 0 = .ok (.iconst 4, 1) := by decide +kernel
theorem d_O_isWrong_1 : decode prog_12_method_23_code 1 = .ok (.iload_n 3, 1) := by decide +kernel
theorem d_O_isWrong_2 : decode prog_12_method_23_code 2 = .ok (.imul, 1) := by decide +kernel
theorem d_O_isWrong_3 : decode prog_12_method_23_code 3 = .ok (.iload 5, 2) := by decide +kernel
theorem d_O_isWrong_5 : decode prog_12_method_23_code 5 = .ok (.iadd, 1) := by decide +kernel
theorem d_O_isWrong_6 : decode prog_12_method_23_code 6 = .ok (.istore 6, 2) := by decide +kernel
theorem d_O_isWrong_8 : decode prog_12_method_23_code 8 = .ok (.iload_n 1, 1) := by decide +kernel
theorem d_O_isWrong_9 : decode prog_12_method_23_code 9 = .ok (.iconst 1, 1) := by decide +kernel
theorem d_O_isWrong_10 : decode prog_12_method_23_code 10 = .ok (.if_icmp .ne (34), 3) := by decide +kernel
theorem d_O_isWrong_13 : decode prog_12_method_23_code 13 = .ok (.aload_n 0, 1) := by decide +kernel
theorem d_O_isWrong_14 : decode prog_12_method_23_code 14 = .ok (.getfield 27, 3) := by decide +kernel
theorem d_O_isWrong_17 : decode prog_12_method_23_code 17 = .ok (.iload 6, 2) := by decide +kernel
theorem d_O_isWrong_19 : decode prog_12_method_23_code 19 = .ok (.iaload, 1) := by decide +kernel
theorem d_O_isWrong_20 : decode prog_12_method_23_code 20 = .ok (.iconst 1, 1) := by decide +kernel
theorem d_O_isWrong_21 : decode prog_12_method_23_code 21 = .ok (.iand, 1) := by decide +kernel
theorem d_O_isWrong_22 : decode prog_12_method_23_code 22 = .ok (.iconst 1, 1) := by decide +kernel
theorem d_O_isWrong_23 : decode prog_12_method_23_code 23 = .ok (.if_icmp .ne (19), 3) := by decide +kernel
theorem d_O_isWrong_26 : decode prog_12_method_23_code 26 = .ok (.aload_n 0, 1) := by decide +kernel
theorem d_O_isWrong_27 : decode prog_12_method_23_code 27 = .ok (.iload 4, 2) := by decide +kernel
theorem d_O_isWrong_29 : decode prog_12_method_23_code 29 = .ok (.iload_n 3, 1) := by decide +kernel
theorem d_O_isWrong_30 : decode prog_12_method_23_code 30 = .ok (.iload 5, 2) := by decide +kernel
theorem d_O_isWrong_32 : decode prog_12_method_23_code 32 = .ok (.invokevirtual 108, 3) := by decide +kernel
theorem d_O_isWrong_35 : decode prog_12_method_23_code 35 = .ok (.ifCond .ne (7), 3) := by decide +kernel
theorem d_O_isWrong_38 : decode prog_12_method_23_code 38 = .ok (.iconst 1, 1) := by decide +kernel
theorem d_O_isWrong_39 : decode prog_12_method_23_code 39 = .ok (.goto (4), 3) := by decide +kernel
theorem d_O_isWrong_42 : decode prog_12_method_23_code 42 = .ok (.iconst 0, 1) := by decide +kernel
theorem d_O_isWrong_43 : decode prog_12_method_23_code 43 = .ok (.ireturn, 1) := by decide +kernel
theorem d_O_isWrong_44 : decode prog_12_method_23_code 44 = .ok (.iload_n 1, 1) := by decide +kernel
theorem d_O_isWrong_45 : decode prog_12_method_23_code 45 = .ok (.iconst 2, 1) := by decide +kernel
theorem d_O_isWrong_46 : decode prog_12_method_23_code 46 = .ok (.if_icmp .ne (55), 3) := by decide +kernel
theorem d_O_isWrong_49 : decode prog_12_method_23_code 49 = .ok (.aload_n 0, 1) := by decide +kernel
theorem d_O_isWrong_50 : decode prog_12_method_23_code 50 = .ok (.getfield 17, 3) := by decide +kernel
theorem d_O_isWrong_53 : decode prog_12_method_23_code 53 = .ok (.iload 6, 2) := by decide +kernel
theorem d_O_isWrong_55 : decode prog_12_method_23_code 55 = .ok (.baload, 1) := by decide +kernel
theorem d_O_isWrong_56 : decode prog_12_method_23_code 56 = .ok (.ifCond .eq (43), 3) := by decide +kernel
theorem d_O_isWrong_59 : decode prog_12_method_23_code 59 = .ok (.aload_n 0, 1) := by decide +kernel
theorem d_O_isWrong_60 : decode prog_12_method_23_code 60 = .ok (.iload 4, 2) := by decide +kernel
theorem d_O_isWrong_62 : decode prog_12_method_23_code 62 = .ok (.iload_n 3, 1) := by decide +kernel
theorem d_O_isWrong_63 : decode prog_12_method_23_code 63 = .ok (.iload 5, 2) := by decide +kernel
theorem d_O_isWrong_65 : decode prog_12_method_23_code 65 = .ok (.invokevirtual 108, 3) := by decide +kernel
theorem d_O_isWrong_68 : decode prog_12_method_23_code 68 = .ok (.ifCond .eq (31), 3) := by decide +kernel
theorem d_O_isWrong_71 : decode prog_12_method_23_code 71 = .ok (.aload_n 0, 1) := by decide +kernel
theorem d_O_isWrong_72 : decode prog_12_method_23_code 72 = .ok (.iload_n 2, 1) := by decide +kernel
theorem d_O_isWrong_73 : decode prog_12_method_23_code 73 = .ok (.aload_n 0, 1) := by decide +kernel
theorem d_O_isWrong_74 : decode prog_12_method_23_code 74 = .ok (.getfield 21, 3) := by decide +kernel
theorem d_O_isWrong_77 : decode prog_12_method_23_code 77 = .ok (.iload 6, 2) := by decide +kernel
theorem d_O_isWrong_79 : decode prog_12_method_23_code 79 = .ok (.iaload, 1) := by decide +kernel
theorem d_O_isWrong_80 : decode prog_12_method_23_code 80 = .ok (.aload_n 0, 1) := by decide +kernel
theorem d_O_isWrong_81 : decode prog_12_method_23_code 81 = .ok (.iload 4, 2) := by decide +kernel
theorem d_O_isWrong_83 : decode prog_12_method_23_code 83 = .ok (.iload_n 3, 1) := by decide +kernel
theorem d_O_isWrong_84 : decode prog_12_method_23_code 84 = .ok (.iload 5, 2) := by decide +kernel
theorem d_O_isWrong_86 : decode prog_12_method_23_code 86 = .ok (.invokevirtual 111, 3) := by decide +kernel
theorem d_O_isWrong_89 : decode prog_12_method_23_code 89 = .ok (.invokevirtual 115, 3) := by decide +kernel
theorem d_O_isWrong_92 : decode prog_12_method_23_code 92 = .ok (.ifCond .ge (7), 3) := by decide +kernel
theorem d_O_isWrong_95 : decode prog_12_method_23_code 95 = .ok (.iconst 1, 1) := by decide +kernel
theorem d_O_isWrong_96 : decode prog_12_method_23_code 96 = .ok (.goto (4), 3) := by decide +kernel
theorem d_O_isWrong_99 : decode prog_12_method_23_code 99 = .ok (.iconst 0, 1) := by decide +kernel
theorem d_O_isWrong_100 : decode prog_12_method_23_code 100 = .ok (.ireturn, 1) := by decide +kernel
theorem d_O_isWrong_101 : decode prog_12_method_23_code 101 = .ok (.aload_n 0, 1) := by decide +kernel
theorem d_O_isWrong_102 : decode prog_12_method_23_code 102 = .ok (.getfield 27, 3) := by decide +kernel
theorem d_O_isWrong_105 : decode prog_12_method_23_code 105 = .ok (.iload 6, 2) := by decide +kernel
theorem d_O_isWrong_107 : decode prog_12_method_23_code 107 = .ok (.iaload, 1) := by decide +kernel
theorem d_O_isWrong_108 : decode prog_12_method_23_code 108 = .ok (.iconst 2, 1) := by decide +kernel
theorem d_O_isWrong_109 : decode prog_12_method_23_code 109 = .ok (.iand, 1) := by decide +kernel
theorem d_O_isWrong_110 : decode prog_12_method_23_code 110 = .ok (.iconst 2, 1) := by decide +kernel
theorem d_O_isWrong_111 : decode prog_12_method_23_code 111 = .ok (.if_icmp .ne (20), 3) := by decide +kernel
theorem d_O_isWrong_114 : decode prog_12_method_23_code 114 = .ok (.aload_n 0, 1) := by decide +kernel
theorem d_O_isWrong_115 : decode prog_12_method_23_code 115 = .ok (.iload_n 2, 1) := by decide +kernel
theorem d_O_isWrong_116 : decode prog_12_method_23_code 116 = .ok (.iload_n 3, 1) := by decide +kernel
theorem d_O_isWrong_117 : decode prog_12_method_23_code 117 = .ok (.iload 4, 2) := by decide +kernel
theorem d_O_isWrong_119 : decode prog_12_method_23_code 119 = .ok (.iload 5, 2) := by decide +kernel
theorem d_O_isWrong_121 : decode prog_12_method_23_code 121 = .ok (.invokevirtual 118, 3) := by decide +kernel
theorem d_O_isWrong_124 : decode prog_12_method_23_code 124 = .ok (.ifCond .eq (7), 3) := by decide +kernel
theorem d_O_isWrong_127 : decode prog_12_method_23_code 127 = .ok (.iconst 1, 1) := by decide +kernel
theorem d_O_isWrong_128 : decode prog_12_method_23_code 128 = .ok (.goto (4), 3) := by decide +kernel
theorem d_O_isWrong_131 : decode prog_12_method_23_code 131 = .ok (.iconst 0, 1) := by decide +kernel
theorem d_O_isWrong_132 : decode prog_12_method_23_code 132 = .ok (.ireturn, 1) := by decide +kernel
def Y_O_isWrong : sdY := ("SettingsDeskModel", prog_12_method_23_code, 7, (some .boolean), .code y_O_isWrong prog_12_method_23_code 7 (some .boolean) :: sdB0, { frames := 3, cells := 0, slots := 0, locals := 71 }, 0, 0, [])
theorem cw_O_isWrong_O_isTwice_118 : sd_cwV Y_O_isWrong Y_O_isTwice y_O_isTwice 118 4 "SettingsDeskModel" := ⟨sd_goodV q488 q490 q491 q459 q489, ⟨_, rfl⟩, ⟨rfl, rfl, rfl, rfl⟩, ⟨rfl, by decide, by decide, by decide +kernel⟩, ⟨by decide, by decide⟩⟩
theorem cw_O_isWrong_O_isSomething_108 : sd_cwV Y_O_isWrong Y_O_isSomething y_O_isSomething 108 3 "SettingsDeskModel" := ⟨sd_goodV q480 q482 q483 q459 q481, ⟨_, rfl⟩, ⟨rfl, rfl, rfl, rfl⟩, ⟨rfl, by decide, by decide, by decide +kernel⟩, ⟨by decide, by decide⟩⟩
theorem cw_O_isWrong_O_valueOf_111 : sd_cwV Y_O_isWrong Y_O_valueOf y_O_valueOf 111 3 "SettingsDeskModel" := ⟨sd_goodV q484 q486 q487 q459 q485, ⟨_, rfl⟩, ⟨rfl, rfl, rfl, rfl⟩, ⟨rfl, by decide, by decide, by decide +kernel⟩, ⟨by decide, by decide⟩⟩
theorem cw_O_isWrong_O_find_115 : sd_cwV Y_O_isWrong Y_O_find y_O_find 115 3 "SettingsDeskModel" := ⟨sd_goodV q492 q494 q495 q459 q493, ⟨_, rfl⟩, ⟨rfl, rfl, rfl, rfl⟩, ⟨rfl, by decide, by decide, by decide +kernel⟩, ⟨by decide, by decide⟩⟩
section
variable {l : Launch} {D : va_G} {dA : Nat → ClassId} {b n : Nat} {ad : Nat → Nat} {L : Nat → sdL} {sc : Option (Nat × Nat × (Nat → Int32))}
def k_O_isWrong_132 (Q : Int32 → sdM → Prop) (M : sdM) (s0 : Int32) : Prop := sdB s0 ∧ Q s0 M
set_option maxHeartbeats 1000000 in
theorem t_O_isWrong_132 (hA : sd_ad b n ad) (hT : l.stackTraces = false) (hO : isO n L dA) {Q : Int32 → sdM → Prop} (M : sdM) (s0 : Int32) (hw : k_O_isWrong_132 Q M s0) : sdW l (sdE0 sc) Y_O_isWrong D (sd_tys dA) b n ad L ad (sd_H D (sdE0 sc).1 n ad L) (sd_qi Q) sd_xf 132 [] [.int s0] M 0 0 := by
  unfold k_O_isWrong_132 at hw
  exact x_zret d_O_isWrong_132 rfl (sdB_n hw.1) (fun _ h => h) ⟨_, rfl, hw.2⟩
def k_O_isWrong_131 (Q : Int32 → sdM → Prop) (M : sdM) : Prop := k_O_isWrong_132 Q M (0 : Int32)
set_option maxHeartbeats 1000000 in
theorem t_O_isWrong_131 (hA : sd_ad b n ad) (hT : l.stackTraces = false) (hO : isO n L dA) {Q : Int32 → sdM → Prop} (M : sdM) (hw : k_O_isWrong_131 Q M ) : sdW l (sdE0 sc) Y_O_isWrong D (sd_tys dA) b n ad L ad (sd_H D (sdE0 sc).1 n ad L) (sd_qi Q) sd_xf 131 [] [] M 0 0 := by
  unfold k_O_isWrong_131 at hw
  refine x_iconst (v := 0) d_O_isWrong_131 (by decide) ?_
  exact t_O_isWrong_132 hA hT hO M (0 : Int32) hw
def k_O_isWrong_100 (Q : Int32 → sdM → Prop) (M : sdM) (s0 : Int32) : Prop := sdB s0 ∧ Q s0 M
set_option maxHeartbeats 1000000 in
theorem t_O_isWrong_100 (hA : sd_ad b n ad) (hT : l.stackTraces = false) (hO : isO n L dA) {Q : Int32 → sdM → Prop} (M : sdM) (s0 : Int32) (hw : k_O_isWrong_100 Q M s0) : sdW l (sdE0 sc) Y_O_isWrong D (sd_tys dA) b n ad L ad (sd_H D (sdE0 sc).1 n ad L) (sd_qi Q) sd_xf 100 [] [.int s0] M 0 0 := by
  unfold k_O_isWrong_100 at hw
  exact x_zret d_O_isWrong_100 rfl (sdB_n hw.1) (fun _ h => h) ⟨_, rfl, hw.2⟩
def k_O_isWrong_99 (Q : Int32 → sdM → Prop) (M : sdM) : Prop := k_O_isWrong_100 Q M (0 : Int32)
set_option maxHeartbeats 1000000 in
theorem t_O_isWrong_99 (hA : sd_ad b n ad) (hT : l.stackTraces = false) (hO : isO n L dA) {Q : Int32 → sdM → Prop} (M : sdM) (hw : k_O_isWrong_99 Q M ) : sdW l (sdE0 sc) Y_O_isWrong D (sd_tys dA) b n ad L ad (sd_H D (sdE0 sc).1 n ad L) (sd_qi Q) sd_xf 99 [] [] M 0 0 := by
  unfold k_O_isWrong_99 at hw
  refine x_iconst (v := 0) d_O_isWrong_99 (by decide) ?_
  exact t_O_isWrong_100 hA hT hO M (0 : Int32) hw
def k_O_isWrong_43 (Q : Int32 → sdM → Prop) (M : sdM) (s0 : Int32) : Prop := sdB s0 ∧ Q s0 M
set_option maxHeartbeats 1000000 in
theorem t_O_isWrong_43 (hA : sd_ad b n ad) (hT : l.stackTraces = false) (hO : isO n L dA) {Q : Int32 → sdM → Prop} (M : sdM) (s0 : Int32) (hw : k_O_isWrong_43 Q M s0) : sdW l (sdE0 sc) Y_O_isWrong D (sd_tys dA) b n ad L ad (sd_H D (sdE0 sc).1 n ad L) (sd_qi Q) sd_xf 43 [] [.int s0] M 0 0 := by
  unfold k_O_isWrong_43 at hw
  exact x_zret d_O_isWrong_43 rfl (sdB_n hw.1) (fun _ h => h) ⟨_, rfl, hw.2⟩
def k_O_isWrong_42 (Q : Int32 → sdM → Prop) (M : sdM) : Prop := k_O_isWrong_43 Q M (0 : Int32)
set_option maxHeartbeats 1000000 in
theorem t_O_isWrong_42 (hA : sd_ad b n ad) (hT : l.stackTraces = false) (hO : isO n L dA) {Q : Int32 → sdM → Prop} (M : sdM) (hw : k_O_isWrong_42 Q M ) : sdW l (sdE0 sc) Y_O_isWrong D (sd_tys dA) b n ad L ad (sd_H D (sdE0 sc).1 n ad L) (sd_qi Q) sd_xf 42 [] [] M 0 0 := by
  unfold k_O_isWrong_42 at hw
  refine x_iconst (v := 0) d_O_isWrong_42 (by decide) ?_
  exact t_O_isWrong_43 hA hT hO M (0 : Int32) hw
def w_O_isWrong (M : sdM) (a1 : Int32) (a2 : Int32) (a3 : Int32) (a4 : Int32) (a5 : Int32) (Q : Int32 → sdM → Prop) : Prop := (¬ a1 = (1 : Int32) → (¬ a1 = (2 : Int32) → vp_in (((4 : Int32) * a3) + a5) 16 ∧ (¬ ((M 121 (((4 : Int32) * a3) + a5).toNatClampNeg) &&& (2 : Int32)) = (2 : Int32) → k_O_isWrong_131 Q M) ∧ (((M 121 (((4 : Int32) * a3) + a5).toNatClampNeg) &&& (2 : Int32)) = (2 : Int32) → w_O_isTwice M a2 a3 a4 a5 (fun r17 M16 => (r17 = 0 → k_O_isWrong_131 Q M16) ∧ (¬ r17 = 0 → k_O_isWrong_132 Q M16 (1 : Int32))))) ∧ (a1 = (2 : Int32) → vp_in (((4 : Int32) * a3) + a5) 16 ∧ ((M 118 (((4 : Int32) * a3) + a5).toNatClampNeg) = 0 → k_O_isWrong_99 Q M) ∧ (¬ (M 118 (((4 : Int32) * a3) + a5).toNatClampNeg) = 0 → w_O_isSomething M a4 a3 a5 (fun r20 M19 => (r20 = 0 → k_O_isWrong_99 Q M19) ∧ (¬ r20 = 0 → vp_in (((4 : Int32) * a3) + a5) 16 ∧ w_O_valueOf M19 a4 a3 a5 (fun r23 M22 => w_O_find M22 a2 (M19 119 (((4 : Int32) * a3) + a5).toNatClampNeg) r23 (fun r25 M24 => (0 ≤ r25 → k_O_isWrong_99 Q M24) ∧ (¬ 0 ≤ r25 → k_O_isWrong_100 Q M24 (1 : Int32))))))))) ∧ (a1 = (1 : Int32) → vp_in (((4 : Int32) * a3) + a5) 16 ∧ (¬ ((M 121 (((4 : Int32) * a3) + a5).toNatClampNeg) &&& (1 : Int32)) = (1 : Int32) → k_O_isWrong_42 Q M) ∧ (((M 121 (((4 : Int32) * a3) + a5).toNatClampNeg) &&& (1 : Int32)) = (1 : Int32) → w_O_isSomething M a4 a3 a5 (fun r28 M27 => (¬ r28 = 0 → k_O_isWrong_42 Q M27) ∧ (r28 = 0 → k_O_isWrong_43 Q M27 (1 : Int32)))))
set_option maxHeartbeats 1000000 in
theorem c_O_isWrong {a1 : Int32} {a2 : Int32} {a3 : Int32} {a4 : Int32} {a5 : Int32} (hA : sd_ad b n ad) (hT : l.stackTraces = false) (hO : isO n L dA) {Q : Int32 → sdM → Prop} {M : sdM} (hw : w_O_isWrong M a1 a2 a3 a4 a5 Q) : sd_Cn l (sdE0 sc) y_O_isWrong Y_O_isWrong.2.2.2.2.1 Y_O_isWrong.2.2.2.2.2.1 0 0 D (sd_tys dA) b n ad L M [.ref 116, .int a1, .int a2, .int a3, .int a4, .int a5] (sd_qi Q) sd_xf := by
  refine sd_enter (Y := Y_O_isWrong) rfl rfl rfl rfl (Nat.le_of_ble_eq_true rfl) ?_
  show sdW l (sdE0 sc) Y_O_isWrong D (sd_tys dA) b n ad L ad (sd_H D (sdE0 sc).1 n ad L) (sd_qi Q) sd_xf 0 [(0, .ref 116), (1, .int a1), (2, .int a2), (3, .int a3), (4, .int a4), (5, .int a5)] [] M 0 0
  unfold w_O_isWrong at hw
  refine x_iconst (v := 4) d_O_isWrong_0 (by decide) ?_
  refine x_iload_n 3 3 d_O_isWrong_1 rfl rfl ?_
  refine x_imul d_O_isWrong_2 ?_
  refine x_iload 5 5 d_O_isWrong_3 rfl ?_
  refine x_iadd d_O_isWrong_5 ?_
  refine x_istore 6 [(6, .int (((4 : Int32) * a3) + a5)), (0, .ref 116), (1, .int a1), (2, .int a2), (3, .int a3), (4, .int a4), (5, .int a5)] d_O_isWrong_6 (by decide) rfl ?_
  refine x_iload_n 1 2 d_O_isWrong_8 rfl rfl ?_
  refine x_iconst (v := 1) d_O_isWrong_9 (by decide) ?_
  refine x_icmp_ne 44 d_O_isWrong_10 rfl (fun hc => ?_) (fun hc => ?_)
  · have hw := hw.1 hc
    refine x_iload_n 1 2 d_O_isWrong_44 rfl rfl ?_
    refine x_iconst (v := 2) d_O_isWrong_45 (by decide) ?_
    refine x_icmp_ne 101 d_O_isWrong_46 rfl (fun hc => ?_) (fun hc => ?_)
    · have hw := hw.1 hc
      refine x_aload_n 0 1 d_O_isWrong_101 rfl rfl ?_
      refine x_getr 7 121 d_O_isWrong_102 hO.1 hO.2.1 rfl rfl (by decide) lay_O (List.mem_cons_of_mem _ q454) rfl ?_
      refine x_iload 6 0 d_O_isWrong_105 rfl ?_
      obtain ⟨hi15, hw⟩ := hw
      refine x_iald d_O_isWrong_107 hO.flags.1 hO.flags.2 rfl hi15 ?_
      refine x_iconst (v := 2) d_O_isWrong_108 (by decide) ?_
      refine x_iand d_O_isWrong_109 ?_
      refine x_iconst (v := 2) d_O_isWrong_110 (by decide) ?_
      refine x_icmp_ne 131 d_O_isWrong_111 rfl (fun hc => ?_) (fun hc => ?_)
      · have hw := hw.1 hc
        refine x_sub [] [] rfl ?_
        exact t_O_isWrong_131 hA hT hO M hw
      · have hw := hw.2 hc
        refine x_aload_n 0 1 d_O_isWrong_114 rfl rfl ?_
        refine x_iload_n 2 3 d_O_isWrong_115 rfl rfl ?_
        refine x_iload_n 3 4 d_O_isWrong_116 rfl rfl ?_
        refine x_iload 4 5 d_O_isWrong_117 rfl ?_
        refine x_iload 5 6 d_O_isWrong_119 rfl ?_
        refine x_callVi (As := [.int a2, .int a3, .int a4, .int a5]) (t := 116) (rest := []) (rc := 0) (rs := 0) (c_O_isTwice hA hT hO hw) cw_O_isWrong_O_isTwice_118 hO.1 hO.2.1 rfl d_O_isWrong_121 rfl rfl (Nat.le_of_ble_eq_true rfl) rfl (fun _ _ h => h.elim) (fun _ _ h => h) (fun r17 M16 hw => ?_)
        refine x_if_eq 131 d_O_isWrong_124 rfl (fun hc => ?_) (fun hc => ?_)
        · have hw := hw.1 hc
          refine x_sub [] [] rfl ?_
          exact t_O_isWrong_131 hA hT hO M16 hw
        · have hw := hw.2 hc
          refine x_iconst (v := 1) d_O_isWrong_127 (by decide) ?_
          refine x_goto 132 d_O_isWrong_128 rfl ?_
          refine x_sub [] [] rfl ?_
          exact t_O_isWrong_132 hA hT hO M16 (1 : Int32) hw
    · have hw := hw.2 hc
      refine x_aload_n 0 1 d_O_isWrong_49 rfl rfl ?_
      refine x_getr 4 118 d_O_isWrong_50 hO.1 hO.2.1 rfl rfl (by decide) lay_O (List.mem_cons_of_mem _ q451) rfl ?_
      refine x_iload 6 0 d_O_isWrong_53 rfl ?_
      obtain ⟨hi18, hw⟩ := hw
      refine x_zald d_O_isWrong_55 hO.refers.1 hO.refers.2 rfl hi18 ?_
      refine x_if_eq 99 d_O_isWrong_56 rfl (fun hc => ?_) (fun hc => ?_)
      · have hw := hw.1 hc
        refine x_sub [] [] rfl ?_
        exact t_O_isWrong_99 hA hT hO M hw
      · have hw := hw.2 hc
        refine x_aload_n 0 1 d_O_isWrong_59 rfl rfl ?_
        refine x_iload 4 5 d_O_isWrong_60 rfl ?_
        refine x_iload_n 3 4 d_O_isWrong_62 rfl rfl ?_
        refine x_iload 5 6 d_O_isWrong_63 rfl ?_
        refine x_callVi (As := [.int a4, .int a3, .int a5]) (t := 116) (rest := []) (rc := 0) (rs := 0) (c_O_isSomething hA hT hO hw) cw_O_isWrong_O_isSomething_108 hO.1 hO.2.1 rfl d_O_isWrong_65 rfl rfl (Nat.le_of_ble_eq_true rfl) rfl (fun _ _ h => h.elim) (fun _ _ h => h) (fun r20 M19 hw => ?_)
        refine x_if_eq 99 d_O_isWrong_68 rfl (fun hc => ?_) (fun hc => ?_)
        · have hw := hw.1 hc
          refine x_sub [] [] rfl ?_
          exact t_O_isWrong_99 hA hT hO M19 hw
        · have hw := hw.2 hc
          refine x_aload_n 0 1 d_O_isWrong_71 rfl rfl ?_
          refine x_iload_n 2 3 d_O_isWrong_72 rfl rfl ?_
          refine x_aload_n 0 1 d_O_isWrong_73 rfl rfl ?_
          refine x_getr 5 119 d_O_isWrong_74 hO.1 hO.2.1 rfl rfl (by decide) lay_O (List.mem_cons_of_mem _ q452) rfl ?_
          refine x_iload 6 0 d_O_isWrong_77 rfl ?_
          obtain ⟨hi21, hw⟩ := hw
          refine x_iald d_O_isWrong_79 hO.lows.1 hO.lows.2 rfl hi21 ?_
          refine x_aload_n 0 1 d_O_isWrong_80 rfl rfl ?_
          refine x_iload 4 5 d_O_isWrong_81 rfl ?_
          refine x_iload_n 3 4 d_O_isWrong_83 rfl rfl ?_
          refine x_iload 5 6 d_O_isWrong_84 rfl ?_
          refine x_callVi (As := [.int a4, .int a3, .int a5]) (t := 116) (rest := [.int (M19 119 (((4 : Int32) * a3) + a5).toNatClampNeg), .int a2, .ref 116]) (rc := 0) (rs := 0) (c_O_valueOf hA hT hO hw) cw_O_isWrong_O_valueOf_111 hO.1 hO.2.1 rfl d_O_isWrong_86 rfl rfl (Nat.le_of_ble_eq_true rfl) rfl (fun _ _ h => h.elim) (fun _ _ h => h) (fun r23 M22 hw => ?_)
          refine x_callVi (As := [.int a2, .int (M19 119 (((4 : Int32) * a3) + a5).toNatClampNeg), .int r23]) (t := 116) (rest := []) (rc := 0) (rs := 0) (c_O_find hA hT hO hw) cw_O_isWrong_O_find_115 hO.1 hO.2.1 rfl d_O_isWrong_89 rfl rfl (Nat.le_of_ble_eq_true rfl) rfl (fun _ _ h => h.elim) (fun _ _ h => h) (fun r25 M24 hw => ?_)
          refine x_if_ge 99 d_O_isWrong_92 rfl (fun hc => ?_) (fun hc => ?_)
          · have hw := hw.1 hc
            refine x_sub [] [] rfl ?_
            exact t_O_isWrong_99 hA hT hO M24 hw
          · have hw := hw.2 hc
            refine x_iconst (v := 1) d_O_isWrong_95 (by decide) ?_
            refine x_goto 100 d_O_isWrong_96 rfl ?_
            refine x_sub [] [] rfl ?_
            exact t_O_isWrong_100 hA hT hO M24 (1 : Int32) hw
  · have hw := hw.2 hc
    refine x_aload_n 0 1 d_O_isWrong_13 rfl rfl ?_
    refine x_getr 7 121 d_O_isWrong_14 hO.1 hO.2.1 rfl rfl (by decide) lay_O (List.mem_cons_of_mem _ q454) rfl ?_
    refine x_iload 6 0 d_O_isWrong_17 rfl ?_
    obtain ⟨hi26, hw⟩ := hw
    refine x_iald d_O_isWrong_19 hO.flags.1 hO.flags.2 rfl hi26 ?_
    refine x_iconst (v := 1) d_O_isWrong_20 (by decide) ?_
    refine x_iand d_O_isWrong_21 ?_
    refine x_iconst (v := 1) d_O_isWrong_22 (by decide) ?_
    refine x_icmp_ne 42 d_O_isWrong_23 rfl (fun hc => ?_) (fun hc => ?_)
    · have hw := hw.1 hc
      refine x_sub [] [] rfl ?_
      exact t_O_isWrong_42 hA hT hO M hw
    · have hw := hw.2 hc
      refine x_aload_n 0 1 d_O_isWrong_26 rfl rfl ?_
      refine x_iload 4 5 d_O_isWrong_27 rfl ?_
      refine x_iload_n 3 4 d_O_isWrong_29 rfl rfl ?_
      refine x_iload 5 6 d_O_isWrong_30 rfl ?_
      refine x_callVi (As := [.int a4, .int a3, .int a5]) (t := 116) (rest := []) (rc := 0) (rs := 0) (c_O_isSomething hA hT hO hw) cw_O_isWrong_O_isSomething_108 hO.1 hO.2.1 rfl d_O_isWrong_32 rfl rfl (Nat.le_of_ble_eq_true rfl) rfl (fun _ _ h => h.elim) (fun _ _ h => h) (fun r28 M27 hw => ?_)
      refine x_if_ne 42 d_O_isWrong_35 rfl (fun hc => ?_) (fun hc => ?_)
      · have hw := hw.1 hc
        refine x_sub [] [] rfl ?_
        exact t_O_isWrong_42 hA hT hO M27 hw
      · have hw := hw.2 hc
        refine x_iconst (v := 1) d_O_isWrong_38 (by decide) ?_
        refine x_goto 43 d_O_isWrong_39 rfl ?_
        refine x_sub [] [] rfl ?_
        exact t_O_isWrong_43 hA hT hO M27 (1 : Int32) hw
end
abbrev y_O_isBroken : MethodName := ⟨"SettingsDeskModel", "isBroken", "(II)Z"⟩
theorem d_O_isBroken_0 : decode prog_12_method_24_code 0 = .ok (.aload_n 0, 1) := by decide +kernel
theorem d_O_isBroken_1 : decode prog_12_method_24_code 1 = .ok (.getfield 36, 3) := by decide +kernel
theorem d_O_isBroken_4 : decode prog_12_method_24_code 4 = .ok (.iload_n 1, 1) := by decide +kernel
theorem d_O_isBroken_5 : decode prog_12_method_24_code 5 = .ok (.iaload, 1) := by decide +kernel
theorem d_O_isBroken_6 : decode prog_12_method_24_code 6 = .ok (.istore_n 3, 1) := by decide +kernel
theorem d_O_isBroken_7 : decode prog_12_method_24_code 7 = .ok (.aload_n 0, 1) := by decide +kernel
theorem d_O_isBroken_8 : decode prog_12_method_24_code 8 = .ok (.iload_n 2, 1) := by decide +kernel
theorem d_O_isBroken_9 : decode prog_12_method_24_code 9 = .ok (.iload_n 3, 1) := by decide +kernel
theorem d_O_isBroken_10 : decode prog_12_method_24_code 10 = .ok (.aload_n 0, 1) := by decide +kernel
theorem d_O_isBroken_11 : decode prog_12_method_24_code 11 = .ok (.getfield 39, 3) := by decide +kernel
theorem d_O_isBroken_14 : decode prog_12_method_24_code 14 = .ok (.iload_n 1, 1) := by decide +kernel
theorem d_O_isBroken_15 : decode prog_12_method_24_code 15 = .ok (.iaload, 1) := by decide +kernel
theorem d_O_isBroken_16 : decode prog_12_method_24_code 16 = .ok (.invokevirtual 108, 3) := by decide +kernel
theorem d_O_isBroken_19 : decode prog_12_method_24_code 19 = .ok (.ifCond .eq (28), 3) := by decide +kernel
theorem d_O_isBroken_22 : decode prog_12_method_24_code 22 = .ok (.aload_n 0, 1) := by decide +kernel
theorem d_O_isBroken_23 : decode prog_12_method_24_code 23 = .ok (.iload_n 2, 1) := by decide +kernel
theorem d_O_isBroken_24 : decode prog_12_method_24_code 24 = .ok (.iload_n 3, 1) := by decide +kernel
theorem d_O_isBroken_25 : decode prog_12_method_24_code 25 = .ok (.aload_n 0, 1) := by decide +kernel
theorem d_O_isBroken_26 : decode prog_12_method_24_code 26 = .ok (.getfield 39, 3) := by decide +kernel
theorem d_O_isBroken_29 : decode prog_12_method_24_code 29 = .ok (.iload_n 1, 1) := by decide +kernel
theorem d_O_isBroken_30 : decode prog_12_method_24_code 30 = .ok (.iaload, 1) := by decide +kernel
theorem d_O_isBroken_31 : decode prog_12_method_24_code 31 = .ok (.invokevirtual 111, 3) := by decide +kernel
theorem d_O_isBroken_34 : decode prog_12_method_24_code 34 = .ok (.aload_n 0, 1) := by decide +kernel
theorem d_O_isBroken_35 : decode prog_12_method_24_code 35 = .ok (.getfield 42, 3) := by decide +kernel
theorem d_O_isBroken_38 : decode prog_12_method_24_code 38 = .ok (.iload_n 1, 1) := by decide +kernel
theorem d_O_isBroken_39 : decode prog_12_method_24_code 39 = .ok (.iaload, 1) := by decide +kernel
theorem d_O_isBroken_40 : decode prog_12_method_24_code 40 = .ok (.if_icmp .ne (7), 3) := by decide +kernel
theorem d_O_isBroken_43 : decode prog_12_method_24_code 43 = .ok (.iconst 1, 1) := by decide +kernel
theorem d_O_isBroken_44 : decode prog_12_method_24_code 44 = .ok (.goto (4), 3) := by decide +kernel
theorem d_O_isBroken_47 : decode prog_12_method_24_code 47 = .ok (.iconst 0, 1) := by decide +kernel
theorem d_O_isBroken_48 : decode prog_12_method_24_code 48 = .ok (.istore 4, 2) := by decide +kernel
theorem d_O_isBroken_50 : decode prog_12_method_24_code 50 = .ok (.iload 4, 2) := by decide +kernel
theorem d_O_isBroken_52 : decode prog_12_method_24_code 52 = .ok (.ifCond .eq (28), 3) := by decide +kernel
theorem d_O_isBroken_55 : decode prog_12_method_24_code 55 = .ok (.aload_n 0, 1) := by decide +kernel
theorem d_O_isBroken_56 : decode prog_12_method_24_code 56 = .ok (.iload_n 2, 1) := by decide +kernel
theorem d_O_isBroken_57 : decode prog_12_method_24_code 57 = .ok (.iload_n 3, 1) := by decide +kernel
theorem d_O_isBroken_58 : decode prog_12_method_24_code 58 = .ok (.aload_n 0, 1) := by decide +kernel
theorem d_O_isBroken_59 : decode prog_12_method_24_code 59 = .ok (.getfield 45, 3) := by decide +kernel
theorem d_O_isBroken_62 : decode prog_12_method_24_code 62 = .ok (.iload_n 1, 1) := by decide +kernel
theorem d_O_isBroken_63 : decode prog_12_method_24_code 63 = .ok (.iaload, 1) := by decide +kernel
theorem d_O_isBroken_64 : decode prog_12_method_24_code 64 = .ok (.invokevirtual 108, 3) := by decide +kernel
theorem d_O_isBroken_67 : decode prog_12_method_24_code 67 = .ok (.aload_n 0, 1) := by decide +kernel
theorem d_O_isBroken_68 : decode prog_12_method_24_code 68 = .ok (.getfield 48, 3) := by decide +kernel
theorem d_O_isBroken_71 : decode prog_12_method_24_code 71 = .ok (.iload_n 1, 1) := by decide +kernel
theorem d_O_isBroken_72 : decode prog_12_method_24_code 72 = .ok (.baload, 1) := by decide +kernel
theorem d_O_isBroken_73 : decode prog_12_method_24_code 73 = .ok (.if_icmp .eq (7), 3) := by decide +kernel
theorem d_O_isBroken_76 : decode prog_12_method_24_code 76 = .ok (.iconst 1, 1) := by decide +kernel
theorem d_O_isBroken_77 : decode prog_12_method_24_code 77 = .ok (.goto (4), 3) := by decide +kernel
theorem d_O_isBroken_80 : decode prog_12_method_24_code 80 = .ok (.iconst 0, 1) := by decide +kernel
theorem d_O_isBroken_81 : decode prog_12_method_24_code 81 = .ok (.ireturn, 1) := by decide +kernel
def Y_O_isBroken : sdY := ("SettingsDeskModel", prog_12_method_24_code, 5, (some .boolean), .code y_O_isBroken prog_12_method_24_code 5 (some .boolean) :: sdB0, { frames := 2, cells := 0, slots := 0, locals := 45 }, 0, 0, [])
theorem cw_O_isBroken_O_isSomething_108 : sd_cwV Y_O_isBroken Y_O_isSomething y_O_isSomething 108 3 "SettingsDeskModel" := ⟨sd_goodV q480 q482 q483 q459 q481, ⟨_, rfl⟩, ⟨rfl, rfl, rfl, rfl⟩, ⟨rfl, by decide, by decide, by decide +kernel⟩, ⟨by decide, by decide⟩⟩
theorem cw_O_isBroken_O_valueOf_111 : sd_cwV Y_O_isBroken Y_O_valueOf y_O_valueOf 111 3 "SettingsDeskModel" := ⟨sd_goodV q484 q486 q487 q459 q485, ⟨_, rfl⟩, ⟨rfl, rfl, rfl, rfl⟩, ⟨rfl, by decide, by decide, by decide +kernel⟩, ⟨by decide, by decide⟩⟩
section
variable {l : Launch} {D : va_G} {dA : Nat → ClassId} {b n : Nat} {ad : Nat → Nat} {L : Nat → sdL} {sc : Option (Nat × Nat × (Nat → Int32))}
def k_O_isBroken_81 (Q : Int32 → sdM → Prop) (M : sdM) (s0 : Int32) : Prop := sdB s0 ∧ Q s0 M
set_option maxHeartbeats 1000000 in
theorem t_O_isBroken_81 (hA : sd_ad b n ad) (hT : l.stackTraces = false) (hO : isO n L dA) {Q : Int32 → sdM → Prop} (M : sdM) (s0 : Int32) (hw : k_O_isBroken_81 Q M s0) : sdW l (sdE0 sc) Y_O_isBroken D (sd_tys dA) b n ad L ad (sd_H D (sdE0 sc).1 n ad L) (sd_qi Q) sd_xf 81 [] [.int s0] M 0 0 := by
  unfold k_O_isBroken_81 at hw
  exact x_zret d_O_isBroken_81 rfl (sdB_n hw.1) (fun _ h => h) ⟨_, rfl, hw.2⟩
def k_O_isBroken_80 (Q : Int32 → sdM → Prop) (M : sdM) : Prop := k_O_isBroken_81 Q M (0 : Int32)
set_option maxHeartbeats 1000000 in
theorem t_O_isBroken_80 (hA : sd_ad b n ad) (hT : l.stackTraces = false) (hO : isO n L dA) {Q : Int32 → sdM → Prop} (M : sdM) (hw : k_O_isBroken_80 Q M ) : sdW l (sdE0 sc) Y_O_isBroken D (sd_tys dA) b n ad L ad (sd_H D (sdE0 sc).1 n ad L) (sd_qi Q) sd_xf 80 [] [] M 0 0 := by
  unfold k_O_isBroken_80 at hw
  refine x_iconst (v := 0) d_O_isBroken_80 (by decide) ?_
  exact t_O_isBroken_81 hA hT hO M (0 : Int32) hw
def k_O_isBroken_48 (Q : Int32 → sdM → Prop) (M : sdM) (x1 : Int32) (x2 : Int32) (x3 : Int32) (s0 : Int32) : Prop := (s0 = 0 → k_O_isBroken_80 Q M) ∧ (¬ s0 = 0 → vp_in x1 4 ∧ w_O_isSomething M x2 x3 (M 127 x1.toNatClampNeg) (fun r15 M14 => vp_in x1 4 ∧ (r15 = (M14 128 x1.toNatClampNeg) → k_O_isBroken_80 Q M14) ∧ (¬ r15 = (M14 128 x1.toNatClampNeg) → k_O_isBroken_81 Q M14 (1 : Int32))))
set_option maxHeartbeats 1000000 in
theorem t_O_isBroken_48 (hA : sd_ad b n ad) (hT : l.stackTraces = false) (hO : isO n L dA) {Q : Int32 → sdM → Prop} (M : sdM) (x1 : Int32) (x2 : Int32) (x3 : Int32) (s0 : Int32) (hw : k_O_isBroken_48 Q M x1 x2 x3 s0) : sdW l (sdE0 sc) Y_O_isBroken D (sd_tys dA) b n ad L ad (sd_H D (sdE0 sc).1 n ad L) (sd_qi Q) sd_xf 48 [(0, .ref 116), (1, .int x1), (2, .int x2), (3, .int x3)] [.int s0] M 0 0 := by
  unfold k_O_isBroken_48 at hw
  refine x_istore 4 [(4, .int s0), (0, .ref 116), (1, .int x1), (2, .int x2), (3, .int x3)] d_O_isBroken_48 (by decide) rfl ?_
  refine x_iload 4 0 d_O_isBroken_50 rfl ?_
  refine x_if_eq 80 d_O_isBroken_52 rfl (fun hc => ?_) (fun hc => ?_)
  · have hw := hw.1 hc
    refine x_sub [] [] rfl ?_
    exact t_O_isBroken_80 hA hT hO M hw
  · have hw := hw.2 hc
    refine x_aload_n 0 1 d_O_isBroken_55 rfl rfl ?_
    refine x_iload_n 2 3 d_O_isBroken_56 rfl rfl ?_
    refine x_iload_n 3 4 d_O_isBroken_57 rfl rfl ?_
    refine x_aload_n 0 1 d_O_isBroken_58 rfl rfl ?_
    refine x_getr 14 127 d_O_isBroken_59 hO.1 hO.2.1 rfl rfl (by decide) lay_O (List.mem_cons_of_mem _ q470) rfl ?_
    refine x_iload_n 1 2 d_O_isBroken_62 rfl rfl ?_
    obtain ⟨hi13, hw⟩ := hw
    refine x_iald d_O_isBroken_63 hO.ruleB.1 hO.ruleB.2 rfl hi13 ?_
    refine x_callVi (As := [.int x2, .int x3, .int (M 127 x1.toNatClampNeg)]) (t := 116) (rest := []) (rc := 0) (rs := 0) (c_O_isSomething hA hT hO hw) cw_O_isBroken_O_isSomething_108 hO.1 hO.2.1 rfl d_O_isBroken_64 rfl rfl (Nat.le_of_ble_eq_true rfl) rfl (fun _ _ h => h.elim) (fun _ _ h => h) (fun r15 M14 hw => ?_)
    refine x_aload_n 0 1 d_O_isBroken_67 rfl rfl ?_
    refine x_getr 15 128 d_O_isBroken_68 hO.1 hO.2.1 rfl rfl (by decide) lay_O (List.mem_cons_of_mem _ q471) rfl ?_
    refine x_iload_n 1 2 d_O_isBroken_71 rfl rfl ?_
    obtain ⟨hi16, hw⟩ := hw
    refine x_zald d_O_isBroken_72 hO.ruleThere.1 hO.ruleThere.2 rfl hi16 ?_
    refine x_icmp_eq 80 d_O_isBroken_73 rfl (fun hc => ?_) (fun hc => ?_)
    · have hw := hw.1 hc
      refine x_sub [] [] rfl ?_
      exact t_O_isBroken_80 hA hT hO M14 hw
    · have hw := hw.2 hc
      refine x_iconst (v := 1) d_O_isBroken_76 (by decide) ?_
      refine x_goto 81 d_O_isBroken_77 rfl ?_
      refine x_sub [] [] rfl ?_
      exact t_O_isBroken_81 hA hT hO M14 (1 : Int32) hw
def k_O_isBroken_47 (Q : Int32 → sdM → Prop) (M : sdM) (x1 : Int32) (x2 : Int32) (x3 : Int32) : Prop := k_O_isBroken_48 Q M x1 x2 x3 (0 : Int32)
set_option maxHeartbeats 1000000 in
theorem t_O_isBroken_47 (hA : sd_ad b n ad) (hT : l.stackTraces = false) (hO : isO n L dA) {Q : Int32 → sdM → Prop} (M : sdM) (x1 : Int32) (x2 : Int32) (x3 : Int32) (hw : k_O_isBroken_47 Q M x1 x2 x3) : sdW l (sdE0 sc) Y_O_isBroken D (sd_tys dA) b n ad L ad (sd_H D (sdE0 sc).1 n ad L) (sd_qi Q) sd_xf 47 [(0, .ref 116), (1, .int x1), (2, .int x2), (3, .int x3)] [] M 0 0 := by
  unfold k_O_isBroken_47 at hw
  refine x_iconst (v := 0) d_O_isBroken_47 (by decide) ?_
  exact t_O_isBroken_48 hA hT hO M x1 x2 x3 (0 : Int32) hw
def w_O_isBroken (M : sdM) (a1 : Int32) (a2 : Int32) (Q : Int32 → sdM → Prop) : Prop := vp_in a1 4 ∧ vp_in a1 4 ∧ w_O_isSomething M a2 (M 124 a1.toNatClampNeg) (M 125 a1.toNatClampNeg) (fun r20 M19 => (r20 = 0 → k_O_isBroken_47 Q M19 a1 a2 (M 124 a1.toNatClampNeg)) ∧ (¬ r20 = 0 → vp_in a1 4 ∧ w_O_valueOf M19 a2 (M 124 a1.toNatClampNeg) (M19 125 a1.toNatClampNeg) (fun r23 M22 => vp_in a1 4 ∧ (¬ r23 = (M22 126 a1.toNatClampNeg) → k_O_isBroken_47 Q M22 a1 a2 (M 124 a1.toNatClampNeg)) ∧ (r23 = (M22 126 a1.toNatClampNeg) → k_O_isBroken_48 Q M22 a1 a2 (M 124 a1.toNatClampNeg) (1 : Int32)))))
set_option maxHeartbeats 1000000 in
theorem c_O_isBroken {a1 : Int32} {a2 : Int32} (hA : sd_ad b n ad) (hT : l.stackTraces = false) (hO : isO n L dA) {Q : Int32 → sdM → Prop} {M : sdM} (hw : w_O_isBroken M a1 a2 Q) : sd_Cn l (sdE0 sc) y_O_isBroken Y_O_isBroken.2.2.2.2.1 Y_O_isBroken.2.2.2.2.2.1 0 0 D (sd_tys dA) b n ad L M [.ref 116, .int a1, .int a2] (sd_qi Q) sd_xf := by
  refine sd_enter (Y := Y_O_isBroken) rfl rfl rfl rfl (Nat.le_of_ble_eq_true rfl) ?_
  show sdW l (sdE0 sc) Y_O_isBroken D (sd_tys dA) b n ad L ad (sd_H D (sdE0 sc).1 n ad L) (sd_qi Q) sd_xf 0 [(0, .ref 116), (1, .int a1), (2, .int a2)] [] M 0 0
  unfold w_O_isBroken at hw
  refine x_aload_n 0 0 d_O_isBroken_0 rfl rfl ?_
  refine x_getr 11 124 d_O_isBroken_1 hO.1 hO.2.1 rfl rfl (by decide) lay_O (List.mem_cons_of_mem _ q467) rfl ?_
  refine x_iload_n 1 1 d_O_isBroken_4 rfl rfl ?_
  obtain ⟨hi17, hw⟩ := hw
  refine x_iald d_O_isBroken_5 hO.ruleList.1 hO.ruleList.2 rfl hi17 ?_
  refine x_istore_n 3 [(3, .int (M 124 a1.toNatClampNeg)), (0, .ref 116), (1, .int a1), (2, .int a2)] d_O_isBroken_6 rfl (by decide) rfl ?_
  refine x_aload_n 0 1 d_O_isBroken_7 rfl rfl ?_
  refine x_iload_n 2 3 d_O_isBroken_8 rfl rfl ?_
  refine x_iload_n 3 0 d_O_isBroken_9 rfl rfl ?_
  refine x_aload_n 0 1 d_O_isBroken_10 rfl rfl ?_
  refine x_getr 12 125 d_O_isBroken_11 hO.1 hO.2.1 rfl rfl (by decide) lay_O (List.mem_cons_of_mem _ q468) rfl ?_
  refine x_iload_n 1 2 d_O_isBroken_14 rfl rfl ?_
  obtain ⟨hi18, hw⟩ := hw
  refine x_iald d_O_isBroken_15 hO.ruleA.1 hO.ruleA.2 rfl hi18 ?_
  refine x_callVi (As := [.int a2, .int (M 124 a1.toNatClampNeg), .int (M 125 a1.toNatClampNeg)]) (t := 116) (rest := []) (rc := 0) (rs := 0) (c_O_isSomething hA hT hO hw) cw_O_isBroken_O_isSomething_108 hO.1 hO.2.1 rfl d_O_isBroken_16 rfl rfl (Nat.le_of_ble_eq_true rfl) rfl (fun _ _ h => h.elim) (fun _ _ h => h) (fun r20 M19 hw => ?_)
  refine x_if_eq 47 d_O_isBroken_19 rfl (fun hc => ?_) (fun hc => ?_)
  · have hw := hw.1 hc
    refine x_sub [1, 2, 3, 0] [(0, .ref 116), (1, .int a1), (2, .int a2), (3, .int (M 124 a1.toNatClampNeg))] rfl ?_
    exact t_O_isBroken_47 hA hT hO M19 a1 a2 (M 124 a1.toNatClampNeg) hw
  · have hw := hw.2 hc
    refine x_aload_n 0 1 d_O_isBroken_22 rfl rfl ?_
    refine x_iload_n 2 3 d_O_isBroken_23 rfl rfl ?_
    refine x_iload_n 3 0 d_O_isBroken_24 rfl rfl ?_
    refine x_aload_n 0 1 d_O_isBroken_25 rfl rfl ?_
    refine x_getr 12 125 d_O_isBroken_26 hO.1 hO.2.1 rfl rfl (by decide) lay_O (List.mem_cons_of_mem _ q468) rfl ?_
    refine x_iload_n 1 2 d_O_isBroken_29 rfl rfl ?_
    obtain ⟨hi21, hw⟩ := hw
    refine x_iald d_O_isBroken_30 hO.ruleA.1 hO.ruleA.2 rfl hi21 ?_
    refine x_callVi (As := [.int a2, .int (M 124 a1.toNatClampNeg), .int (M19 125 a1.toNatClampNeg)]) (t := 116) (rest := []) (rc := 0) (rs := 0) (c_O_valueOf hA hT hO hw) cw_O_isBroken_O_valueOf_111 hO.1 hO.2.1 rfl d_O_isBroken_31 rfl rfl (Nat.le_of_ble_eq_true rfl) rfl (fun _ _ h => h.elim) (fun _ _ h => h) (fun r23 M22 hw => ?_)
    refine x_aload_n 0 1 d_O_isBroken_34 rfl rfl ?_
    refine x_getr 13 126 d_O_isBroken_35 hO.1 hO.2.1 rfl rfl (by decide) lay_O (List.mem_cons_of_mem _ q469) rfl ?_
    refine x_iload_n 1 2 d_O_isBroken_38 rfl rfl ?_
    obtain ⟨hi24, hw⟩ := hw
    refine x_iald d_O_isBroken_39 hO.ruleValue.1 hO.ruleValue.2 rfl hi24 ?_
    refine x_icmp_ne 47 d_O_isBroken_40 rfl (fun hc => ?_) (fun hc => ?_)
    · have hw := hw.1 hc
      refine x_sub [1, 2, 3, 0] [(0, .ref 116), (1, .int a1), (2, .int a2), (3, .int (M 124 a1.toNatClampNeg))] rfl ?_
      exact t_O_isBroken_47 hA hT hO M22 a1 a2 (M 124 a1.toNatClampNeg) hw
    · have hw := hw.2 hc
      refine x_iconst (v := 1) d_O_isBroken_43 (by decide) ?_
      refine x_goto 48 d_O_isBroken_44 rfl ?_
      refine x_sub [1, 2, 3, 0] [(0, .ref 116), (1, .int a1), (2, .int a2), (3, .int (M 124 a1.toNatClampNeg))] rfl ?_
      exact t_O_isBroken_48 hA hT hO M22 a1 a2 (M 124 a1.toNatClampNeg) (1 : Int32) hw
end
theorem q496 : (.fieldLink "SettingsDeskModel" 126 "SettingsDeskModel" "foundLeaf" "I" : Cond) ∈ sdB0 := sd_tb4 192 rfl rfl
theorem q497 : (.methodLink "SettingsDeskModel" 122 ⟨"SettingsDeskModel", "isWrong", "(IIIII)Z"⟩ : Cond) ∈ sdB0 := sd_tb5 66 rfl rfl
theorem q498 : (.code ⟨"SettingsDeskModel", "isWrong", "(IIIII)Z"⟩ prog_12_method_23_code 7 (some .boolean) : Cond) ∈ sdB0 := sd_tb5 69 rfl rfl
theorem q499 : (.instanceMethod ⟨"SettingsDeskModel", "isWrong", "(IIIII)Z"⟩ : Cond) ∈ sdB0 := sd_tb5 68 rfl rfl
theorem q500 : (.selects "SettingsDeskModel" ⟨"SettingsDeskModel", "isWrong", "(IIIII)Z"⟩ ⟨"SettingsDeskModel", "isWrong", "(IIIII)Z"⟩ : Cond) ∈ sdB0 := sd_tbp (q := (⟨"SettingsDeskModel", "isWrong", "(IIIII)Z"⟩, 35)) (List.mem_of_getElem? (i := 19) rfl)
theorem q501 : (.methodLink "SettingsDeskModel" 129 ⟨"SettingsDeskModel", "isBroken", "(II)Z"⟩ : Cond) ∈ sdB0 := sd_tb5 90 rfl rfl
theorem q502 : (.code ⟨"SettingsDeskModel", "isBroken", "(II)Z"⟩ prog_12_method_24_code 5 (some .boolean) : Cond) ∈ sdB0 := sd_tb5 93 rfl rfl
theorem q503 : (.instanceMethod ⟨"SettingsDeskModel", "isBroken", "(II)Z"⟩ : Cond) ∈ sdB0 := sd_tb5 92 rfl rfl
theorem q504 : (.selects "SettingsDeskModel" ⟨"SettingsDeskModel", "isBroken", "(II)Z"⟩ ⟨"SettingsDeskModel", "isBroken", "(II)Z"⟩ : Cond) ∈ sdB0 := sd_tbp (q := (⟨"SettingsDeskModel", "isBroken", "(II)Z"⟩, 35)) (List.mem_of_getElem? (i := 25) rfl)
abbrev y_O_wrongEntry : MethodName := ⟨"SettingsDeskModel", "wrongEntry", "(III)I"⟩
theorem d_O_wrongEntry_0 : decode prog_12_method_25_code 0 = .ok (.iconst 1, 1) := by decide +kernel
theorem d_O_wrongEntry_1 : decode prog_12_method_25_code 1 = .ok (.istore 4, 2) := by decide +kernel
theorem d_O_wrongEntry_3 : decode prog_12_method_25_code 3 = .ok (.iload 4, 2) := by decide +kernel
theorem d_O_wrongEntry_5 : decode prog_12_method_25_code 5 = .ok (.iconst 4, 1) := by decide +kernel
theorem d_O_wrongEntry_6 : decode prog_12_method_25_code 6 = .ok (.if_icmp .ge (52), 3) := by decide +kernel
theorem d_O_wrongEntry_9 : decode prog_12_method_25_code 9 = .ok (.iconst 0, 1) := by decide +kernel
theorem d_O_wrongEntry_10 : decode prog_12_method_25_code 10 = .ok (.istore 5, 2) := by decide +kernel
theorem d_O_wrongEntry_12 : decode prog_12_method_25_code 12 = .ok (.iload 5, 2) := by decide +kernel
theorem d_O_wrongEntry_14 : decode prog_12_method_25_code 14 = .ok (.aload_n 0, 1) := by decide +kernel
theorem d_O_wrongEntry_15 : decode prog_12_method_25_code 15 = .ok (.getfield 13, 3) := by decide +kernel
theorem d_O_wrongEntry_18 : decode prog_12_method_25_code 18 = .ok (.iload_n 2, 1) := by decide +kernel
theorem d_O_wrongEntry_19 : decode prog_12_method_25_code 19 = .ok (.iaload, 1) := by decide +kernel
theorem d_O_wrongEntry_20 : decode prog_12_method_25_code 20 = .ok (.if_icmp .ge (32), 3) := by decide +kernel
theorem d_O_wrongEntry_23 : decode prog_12_method_25_code 23 = .ok (.aload_n 0, 1) := by decide +kernel
theorem d_O_wrongEntry_24 : decode prog_12_method_25_code 24 = .ok (.iload 4, 2) := by decide +kernel
theorem d_O_wrongEntry_26 : decode prog_12_method_25_code 26 = .ok (.iload_n 1, 1) := by decide +kernel
theorem d_O_wrongEntry_27 : decode prog_12_method_25_code 27 = .ok (.iload_n 2, 1) := by decide +kernel
theorem d_O_wrongEntry_28 : decode prog_12_method_25_code 28 = .ok (.iload_n 3, 1) := by decide +kernel
theorem d_O_wrongEntry_29 : decode prog_12_method_25_code 29 = .ok (.iload 5, 2) := by decide +kernel
theorem d_O_wrongEntry_31 : decode prog_12_method_25_code 31 = .ok (.invokevirtual 122, 3) := by decide +kernel
theorem d_O_wrongEntry_34 : decode prog_12_method_25_code 34 = .ok (.ifCond .eq (12), 3) := by decide +kernel
theorem d_O_wrongEntry_37 : decode prog_12_method_25_code 37 = .ok (.aload_n 0, 1) := by decide +kernel
theorem d_O_wrongEntry_38 : decode prog_12_method_25_code 38 = .ok (.iload 5, 2) := by decide +kernel
theorem d_O_wrongEntry_40 : decode prog_12_method_25_code 40 = .ok (.putfield 126, 3) := by decide +kernel
theorem d_O_wrongEntry_43 : decode prog_12_method_25_code 43 = .ok (.iload 4, 2) := by decide +kernel
theorem d_O_wrongEntry_45 : decode prog_12_method_25_code 45 = .ok (.ireturn, 1) := by decide +kernel
theorem d_O_wrongEntry_46 : decode prog_12_method_25_code 46 = .ok (.iinc 5 (1), 3) := by decide +kernel
theorem d_O_wrongEntry_49 : decode prog_12_method_25_code 49 = .ok (.goto (-37), 3) := by decide +kernel
theorem d_O_wrongEntry_52 : decode prog_12_method_25_code 52 = .ok (.iinc 4 (1), 3) := by decide +kernel
theorem d_O_wrongEntry_55 : decode prog_12_method_25_code 55 = .ok (.goto (-52), 3) := by decide +kernel
theorem d_O_wrongEntry_58 : decode prog_12_method_25_code 58 = .ok (.iconst 0, 1) := by decide +kernel
theorem d_O_wrongEntry_59 : decode prog_12_method_25_code 59 = .ok (.istore 4, 2) := by decide +kernel
theorem d_O_wrongEntry_61 : decode prog_12_method_25_code 61 = .ok (.iload 4, 2) := by decide +kernel
theorem d_O_wrongEntry_63 : decode prog_12_method_25_code 63 = .ok (.aload_n 0, 1) := by decide +kernel
theorem d_O_wrongEntry_64 : decode prog_12_method_25_code 64 = .ok (.getfield 87, 3) := by decide +kernel
theorem d_O_wrongEntry_67 : decode prog_12_method_25_code 67 = .ok (.if_icmp .ge (38), 3) := by decide +kernel
theorem d_O_wrongEntry_70 : decode prog_12_method_25_code 70 = .ok (.aload_n 0, 1) := by decide +kernel
theorem d_O_wrongEntry_71 : decode prog_12_method_25_code 71 = .ok (.getfield 36, 3) := by decide +kernel
theorem d_O_wrongEntry_74 : decode prog_12_method_25_code 74 = .ok (.iload 4, 2) := by decide +kernel
theorem d_O_wrongEntry_76 : decode prog_12_method_25_code 76 = .ok (.iaload, 1) := by decide +kernel
theorem d_O_wrongEntry_77 : decode prog_12_method_25_code 77 = .ok (.iload_n 2, 1) := by decide +kernel
theorem d_O_wrongEntry_78 : decode prog_12_method_25_code 78 = .ok (.if_icmp .ne (21), 3) := by decide +kernel
theorem d_O_wrongEntry_81 : decode prog_12_method_25_code 81 = .ok (.aload_n 0, 1) := by decide +kernel
theorem d_O_wrongEntry_82 : decode prog_12_method_25_code 82 = .ok (.iload 4, 2) := by decide +kernel
theorem d_O_wrongEntry_84 : decode prog_12_method_25_code 84 = .ok (.iload_n 3, 1) := by decide +kernel
theorem d_O_wrongEntry_85 : decode prog_12_method_25_code 85 = .ok (.invokevirtual 129, 3) := by decide +kernel
theorem d_O_wrongEntry_88 : decode prog_12_method_25_code 88 = .ok (.ifCond .eq (11), 3) := by decide +kernel
theorem d_O_wrongEntry_91 : decode prog_12_method_25_code 91 = .ok (.aload_n 0, 1) := by decide +kernel
theorem d_O_wrongEntry_92 : decode prog_12_method_25_code 92 = .ok (.iload 4, 2) := by decide +kernel
theorem d_O_wrongEntry_94 : decode prog_12_method_25_code 94 = .ok (.putfield 126, 3) := by decide +kernel
theorem d_O_wrongEntry_97 : decode prog_12_method_25_code 97 = .ok (.iconst 4, 1) := by decide +kernel
theorem d_O_wrongEntry_98 : decode prog_12_method_25_code 98 = .ok (.ireturn, 1) := by decide +kernel
theorem d_O_wrongEntry_99 : decode prog_12_method_25_code 99 = .ok (.iinc 4 (1), 3) := by decide +kernel
theorem d_O_wrongEntry_102 : decode prog_12_method_25_code 102 = .ok (.goto (-41), 3) := by decide +kernel
theorem d_O_wrongEntry_105 : decode prog_12_method_25_code 105 = .ok (.iconst 0, 1) := by decide +kernel
theorem d_O_wrongEntry_106 : decode prog_12_method_25_code 106 = .ok (.ireturn, 1) := by decide +kernel
def Y_O_wrongEntry : sdY := ("SettingsDeskModel", prog_12_method_25_code, 6, (some .int), .code y_O_wrongEntry prog_12_method_25_code 6 (some .int) :: sdB0, { frames := 4, cells := 0, slots := 0, locals := 97 }, 0, 0, [])
theorem cw_O_wrongEntry_O_isWrong_122 : sd_cwV Y_O_wrongEntry Y_O_isWrong y_O_isWrong 122 5 "SettingsDeskModel" := ⟨sd_goodV q497 q499 q500 q459 q498, ⟨_, rfl⟩, ⟨rfl, rfl, rfl, rfl⟩, ⟨rfl, by decide, by decide, by decide +kernel⟩, ⟨by decide, by decide⟩⟩
theorem cw_O_wrongEntry_O_isBroken_129 : sd_cwV Y_O_wrongEntry Y_O_isBroken y_O_isBroken 129 2 "SettingsDeskModel" := ⟨sd_goodV q501 q503 q504 q459 q502, ⟨_, rfl⟩, ⟨rfl, rfl, rfl, rfl⟩, ⟨rfl, by decide, by decide, by decide +kernel⟩, ⟨by decide, by decide⟩⟩
section
variable {l : Launch} {D : va_G} {dA : Nat → ClassId} {b n : Nat} {ad : Nat → Nat} {L : Nat → sdL} {sc : Option (Nat × Nat × (Nat → Int32))}
def k_O_wrongEntry_99 (Q : Int32 → sdM → Prop) (k61 : sdM → Int32 → Int32 → Int32 → Prop) (M : sdM) (x2 : Int32) (x3 : Int32) (x4 : Int32) : Prop := k61 M x2 x3 (x4 + 1)
set_option maxHeartbeats 1000000 in
theorem t_O_wrongEntry_99 (hA : sd_ad b n ad) (hT : l.stackTraces = false) (hO : isO n L dA) {Q : Int32 → sdM → Prop} {k61 : sdM → Int32 → Int32 → Int32 → Prop} (hk61 : ∀ (M : sdM) (x2 : Int32) (x3 : Int32) (x4 : Int32), k61 M x2 x3 x4 → sdW l (sdE0 sc) Y_O_wrongEntry D (sd_tys dA) b n ad L ad (sd_H D (sdE0 sc).1 n ad L) (sd_qi Q) sd_xf 61 [(0, .ref 116), (2, .int x2), (3, .int x3), (4, .int x4)] [] M 0 0) (M : sdM) (x2 : Int32) (x3 : Int32) (x4 : Int32) (hw : k_O_wrongEntry_99 Q k61 M x2 x3 x4) : sdW l (sdE0 sc) Y_O_wrongEntry D (sd_tys dA) b n ad L ad (sd_H D (sdE0 sc).1 n ad L) (sd_qi Q) sd_xf 99 [(0, .ref 116), (2, .int x2), (3, .int x3), (4, .int x4)] [] M 0 0 := by
  unfold k_O_wrongEntry_99 at hw
  refine x_iinc 4 3 [(4, .int (x4 + 1)), (0, .ref 116), (2, .int x2), (3, .int x3)] d_O_wrongEntry_99 rfl (congrArg (HAdd.hAdd x4) (show Int32.ofInt 1 = 1 by decide)) (by decide) rfl ?_
  refine x_goto 61 d_O_wrongEntry_102 rfl ?_
  refine x_sub [1, 2, 3, 0] [(0, .ref 116), (2, .int x2), (3, .int x3), (4, .int (x4 + 1))] rfl ?_
  exact hk61 M x2 x3 (x4 + 1) hw
def h_O_wrongEntry_61 (Q : Int32 → sdM → Prop) : Nat → sdM → Int32 → Int32 → Int32 → Prop
  | 0, _, _, _, _ => False
  | N + 1, M, x2, x3, x4 => ((M 116 10) ≤ x4 → Q (0 : Int32) M) ∧ (¬ (M 116 10) ≤ x4 → vp_in x4 4 ∧ (¬ (M 124 x4.toNatClampNeg) = x2 → k_O_wrongEntry_99 Q (fun M x2 x3 x4 => h_O_wrongEntry_61 Q N M x2 x3 x4) M x2 x3 x4) ∧ ((M 124 x4.toNatClampNeg) = x2 → w_O_isBroken M x4 x3 (fun r13 M12 => (r13 = 0 → k_O_wrongEntry_99 Q (fun M x2 x3 x4 => h_O_wrongEntry_61 Q N M x2 x3 x4) M12 x2 x3 x4) ∧ (¬ r13 = 0 → ∀ M14 : sdM, M14 = sd_s M12 116 33 x4 → Q (4 : Int32) M14))))
set_option maxHeartbeats 1000000 in
theorem t_O_wrongEntry_61 (hA : sd_ad b n ad) (hT : l.stackTraces = false) (hO : isO n L dA) {Q : Int32 → sdM → Prop} (N : Nat) : ∀ (M : sdM) (x2 : Int32) (x3 : Int32) (x4 : Int32), h_O_wrongEntry_61 Q N M x2 x3 x4 → sdW l (sdE0 sc) Y_O_wrongEntry D (sd_tys dA) b n ad L ad (sd_H D (sdE0 sc).1 n ad L) (sd_qi Q) sd_xf 61 [(0, .ref 116), (2, .int x2), (3, .int x3), (4, .int x4)] [] M 0 0 := by
  induction N with
  | zero => intro M x2 x3 x4 hw; exact hw.elim
  | succ N ih =>
    intro M x2 x3 x4 hw
    rw [h_O_wrongEntry_61] at hw
    refine x_iload 4 3 d_O_wrongEntry_61 rfl ?_
    refine x_aload_n 0 0 d_O_wrongEntry_63 rfl rfl ?_
    refine x_geti 10 d_O_wrongEntry_64 hO.1 hO.2.1 rfl rfl (by decide) lay_O (List.mem_cons_of_mem _ q466) rfl ?_
    refine x_icmp_ge 105 d_O_wrongEntry_67 rfl (fun hc => ?_) (fun hc => ?_)
    · have hw := hw.1 hc
      refine x_iconst (v := 0) d_O_wrongEntry_105 (by decide) ?_
      exact x_iret d_O_wrongEntry_106 rfl (fun _ h => h) ⟨_, rfl, hw⟩
    · have hw := hw.2 hc
      refine x_aload_n 0 0 d_O_wrongEntry_70 rfl rfl ?_
      refine x_getr 11 124 d_O_wrongEntry_71 hO.1 hO.2.1 rfl rfl (by decide) lay_O (List.mem_cons_of_mem _ q467) rfl ?_
      refine x_iload 4 3 d_O_wrongEntry_74 rfl ?_
      obtain ⟨hi11, hw⟩ := hw
      refine x_iald d_O_wrongEntry_76 hO.ruleList.1 hO.ruleList.2 rfl hi11 ?_
      refine x_iload_n 2 1 d_O_wrongEntry_77 rfl rfl ?_
      refine x_icmp_ne 99 d_O_wrongEntry_78 rfl (fun hc => ?_) (fun hc => ?_)
      · have hw := hw.1 hc
        exact t_O_wrongEntry_99 hA hT hO (fun M x2 x3 x4  hw => ih M x2 x3 x4 hw) M x2 x3 x4 hw
      · have hw := hw.2 hc
        refine x_aload_n 0 0 d_O_wrongEntry_81 rfl rfl ?_
        refine x_iload 4 3 d_O_wrongEntry_82 rfl ?_
        refine x_iload_n 3 2 d_O_wrongEntry_84 rfl rfl ?_
        refine x_callVi (As := [.int x4, .int x3]) (t := 116) (rest := []) (rc := 0) (rs := 0) (c_O_isBroken hA hT hO hw) cw_O_wrongEntry_O_isBroken_129 hO.1 hO.2.1 rfl d_O_wrongEntry_85 rfl rfl (Nat.le_of_ble_eq_true rfl) rfl (fun _ _ h => h.elim) (fun _ _ h => h) (fun r13 M12 hw => ?_)
        refine x_if_eq 99 d_O_wrongEntry_88 rfl (fun hc => ?_) (fun hc => ?_)
        · have hw := hw.1 hc
          exact t_O_wrongEntry_99 hA hT hO (fun M x2 x3 x4  hw => ih M x2 x3 x4 hw) M12 x2 x3 x4 hw
        · have hw := hw.2 hc
          refine x_aload_n 0 0 d_O_wrongEntry_91 rfl rfl ?_
          refine x_iload 4 3 d_O_wrongEntry_92 rfl ?_
          refine x_puti 33 (ty := .int) hA d_O_wrongEntry_94 hO.1 hO.2.1 rfl rfl (by decide) lay_O (List.mem_cons_of_mem _ q496) rfl ty_O ty_O_ok nm_O rfl (by decide +kernel) rfl rfl (fun M14 e15 => ?_)
          have hw := hw M14 e15
          clear e15
          refine x_iconst (v := 4) d_O_wrongEntry_97 (by decide) ?_
          exact x_iret d_O_wrongEntry_98 rfl (fun _ h => h) ⟨_, rfl, hw⟩
def h_O_wrongEntry_12 (Q : Int32 → sdM → Prop) (k3 : sdM → Int32 → Int32 → Int32 → Int32 → Prop) : Nat → sdM → Int32 → Int32 → Int32 → Int32 → Int32 → Prop
  | 0, _, _, _, _, _, _ => False
  | N + 1, M, x1, x2, x3, x4, x5 => vp_in x2 4 ∧ ((M 117 x2.toNatClampNeg) ≤ x5 → k3 M x1 x2 x3 (x4 + 1)) ∧ (¬ (M 117 x2.toNatClampNeg) ≤ x5 → w_O_isWrong M x4 x1 x2 x3 x5 (fun r18 M17 => (r18 = 0 → h_O_wrongEntry_12 Q k3 N M17 x1 x2 x3 x4 (x5 + 1)) ∧ (¬ r18 = 0 → ∀ M19 : sdM, M19 = sd_s M17 116 33 x5 → Q x4 M19)))
set_option maxHeartbeats 1000000 in
theorem t_O_wrongEntry_12 (hA : sd_ad b n ad) (hT : l.stackTraces = false) (hO : isO n L dA) {Q : Int32 → sdM → Prop} {k3 : sdM → Int32 → Int32 → Int32 → Int32 → Prop} (hk3 : ∀ (M : sdM) (x1 : Int32) (x2 : Int32) (x3 : Int32) (x4 : Int32), k3 M x1 x2 x3 x4 → sdW l (sdE0 sc) Y_O_wrongEntry D (sd_tys dA) b n ad L ad (sd_H D (sdE0 sc).1 n ad L) (sd_qi Q) sd_xf 3 [(0, .ref 116), (1, .int x1), (2, .int x2), (3, .int x3), (4, .int x4)] [] M 0 0) (N : Nat) : ∀ (M : sdM) (x1 : Int32) (x2 : Int32) (x3 : Int32) (x4 : Int32) (x5 : Int32), h_O_wrongEntry_12 Q k3 N M x1 x2 x3 x4 x5 → sdW l (sdE0 sc) Y_O_wrongEntry D (sd_tys dA) b n ad L ad (sd_H D (sdE0 sc).1 n ad L) (sd_qi Q) sd_xf 12 [(0, .ref 116), (1, .int x1), (2, .int x2), (3, .int x3), (4, .int x4), (5, .int x5)] [] M 0 0 := by
  induction N with
  | zero => intro M x1 x2 x3 x4 x5 hw; exact hw.elim
  | succ N ih =>
    intro M x1 x2 x3 x4 x5 hw
    rw [h_O_wrongEntry_12] at hw
    refine x_iload 5 5 d_O_wrongEntry_12 rfl ?_
    refine x_aload_n 0 0 d_O_wrongEntry_14 rfl rfl ?_
    refine x_getr 3 117 d_O_wrongEntry_15 hO.1 hO.2.1 rfl rfl (by decide) lay_O (List.mem_cons_of_mem _ q450) rfl ?_
    refine x_iload_n 2 2 d_O_wrongEntry_18 rfl rfl ?_
    obtain ⟨hi16, hw⟩ := hw
    refine x_iald d_O_wrongEntry_19 hO.leaves.1 hO.leaves.2 rfl hi16 ?_
    refine x_icmp_ge 52 d_O_wrongEntry_20 rfl (fun hc => ?_) (fun hc => ?_)
    · have hw := hw.1 hc
      refine x_iinc 4 4 [(4, .int (x4 + 1)), (0, .ref 116), (1, .int x1), (2, .int x2), (3, .int x3), (5, .int x5)] d_O_wrongEntry_52 rfl (congrArg (HAdd.hAdd x4) (show Int32.ofInt 1 = 1 by decide)) (by decide) rfl ?_
      refine x_goto 3 d_O_wrongEntry_55 rfl ?_
      refine x_sub [1, 2, 3, 4, 0] [(0, .ref 116), (1, .int x1), (2, .int x2), (3, .int x3), (4, .int (x4 + 1))] rfl ?_
      exact hk3 M x1 x2 x3 (x4 + 1) hw
    · have hw := hw.2 hc
      refine x_aload_n 0 0 d_O_wrongEntry_23 rfl rfl ?_
      refine x_iload 4 4 d_O_wrongEntry_24 rfl ?_
      refine x_iload_n 1 1 d_O_wrongEntry_26 rfl rfl ?_
      refine x_iload_n 2 2 d_O_wrongEntry_27 rfl rfl ?_
      refine x_iload_n 3 3 d_O_wrongEntry_28 rfl rfl ?_
      refine x_iload 5 5 d_O_wrongEntry_29 rfl ?_
      refine x_callVi (As := [.int x4, .int x1, .int x2, .int x3, .int x5]) (t := 116) (rest := []) (rc := 0) (rs := 0) (c_O_isWrong hA hT hO hw) cw_O_wrongEntry_O_isWrong_122 hO.1 hO.2.1 rfl d_O_wrongEntry_31 rfl rfl (Nat.le_of_ble_eq_true rfl) rfl (fun _ _ h => h.elim) (fun _ _ h => h) (fun r18 M17 hw => ?_)
      refine x_if_eq 46 d_O_wrongEntry_34 rfl (fun hc => ?_) (fun hc => ?_)
      · have hw := hw.1 hc
        refine x_iinc 5 5 [(5, .int (x5 + 1)), (0, .ref 116), (1, .int x1), (2, .int x2), (3, .int x3), (4, .int x4)] d_O_wrongEntry_46 rfl (congrArg (HAdd.hAdd x5) (show Int32.ofInt 1 = 1 by decide)) (by decide) rfl ?_
        refine x_goto 12 d_O_wrongEntry_49 rfl ?_
        refine x_sub [1, 2, 3, 4, 5, 0] [(0, .ref 116), (1, .int x1), (2, .int x2), (3, .int x3), (4, .int x4), (5, .int (x5 + 1))] rfl ?_
        exact ih M17 x1 x2 x3 x4 (x5 + 1) hw
      · have hw := hw.2 hc
        refine x_aload_n 0 0 d_O_wrongEntry_37 rfl rfl ?_
        refine x_iload 5 5 d_O_wrongEntry_38 rfl ?_
        refine x_puti 33 (ty := .int) hA d_O_wrongEntry_40 hO.1 hO.2.1 rfl rfl (by decide) lay_O (List.mem_cons_of_mem _ q496) rfl ty_O ty_O_ok nm_O rfl (by decide +kernel) rfl rfl (fun M19 e20 => ?_)
        have hw := hw M19 e20
        clear e20
        refine x_iload 4 4 d_O_wrongEntry_43 rfl ?_
        exact x_iret d_O_wrongEntry_45 rfl (fun _ h => h) ⟨_, rfl, hw⟩
def h_O_wrongEntry_3 (Q : Int32 → sdM → Prop) : Nat → sdM → Int32 → Int32 → Int32 → Int32 → Prop
  | 0, _, _, _, _, _ => False
  | N + 1, M, x1, x2, x3, x4 => ((4 : Int32) ≤ x4 → ∃ N9 : Nat, h_O_wrongEntry_61 Q N9 M x2 x3 (0 : Int32)) ∧ (¬ (4 : Int32) ≤ x4 → ∃ N9 : Nat, h_O_wrongEntry_12 Q (fun M x1 x2 x3 x4 => h_O_wrongEntry_3 Q N M x1 x2 x3 x4) N9 M x1 x2 x3 x4 (0 : Int32))
set_option maxHeartbeats 1000000 in
theorem t_O_wrongEntry_3 (hA : sd_ad b n ad) (hT : l.stackTraces = false) (hO : isO n L dA) {Q : Int32 → sdM → Prop} (N : Nat) : ∀ (M : sdM) (x1 : Int32) (x2 : Int32) (x3 : Int32) (x4 : Int32), h_O_wrongEntry_3 Q N M x1 x2 x3 x4 → sdW l (sdE0 sc) Y_O_wrongEntry D (sd_tys dA) b n ad L ad (sd_H D (sdE0 sc).1 n ad L) (sd_qi Q) sd_xf 3 [(0, .ref 116), (1, .int x1), (2, .int x2), (3, .int x3), (4, .int x4)] [] M 0 0 := by
  induction N with
  | zero => intro M x1 x2 x3 x4 hw; exact hw.elim
  | succ N ih =>
    intro M x1 x2 x3 x4 hw
    rw [h_O_wrongEntry_3] at hw
    refine x_iload 4 4 d_O_wrongEntry_3 rfl ?_
    refine x_iconst (v := 4) d_O_wrongEntry_5 (by decide) ?_
    refine x_icmp_ge 58 d_O_wrongEntry_6 rfl (fun hc => ?_) (fun hc => ?_)
    · have hw := hw.1 hc
      refine x_iconst (v := 0) d_O_wrongEntry_58 (by decide) ?_
      refine x_istore 4 [(4, .int (0 : Int32)), (0, .ref 116), (1, .int x1), (2, .int x2), (3, .int x3)] d_O_wrongEntry_59 (by decide) rfl ?_
      refine x_sub [1, 3, 4, 0] [(0, .ref 116), (2, .int x2), (3, .int x3), (4, .int (0 : Int32))] rfl ?_
      obtain ⟨N9, hw⟩ := hw
      exact t_O_wrongEntry_61 hA hT hO N9 M x2 x3 (0 : Int32) hw
    · have hw := hw.2 hc
      refine x_iconst (v := 0) d_O_wrongEntry_9 (by decide) ?_
      refine x_istore 5 [(5, .int (0 : Int32)), (0, .ref 116), (1, .int x1), (2, .int x2), (3, .int x3), (4, .int x4)] d_O_wrongEntry_10 (by decide) rfl ?_
      refine x_sub [1, 2, 3, 4, 5, 0] [(0, .ref 116), (1, .int x1), (2, .int x2), (3, .int x3), (4, .int x4), (5, .int (0 : Int32))] rfl ?_
      obtain ⟨N9, hw⟩ := hw
      exact t_O_wrongEntry_12 hA hT hO (fun M x1 x2 x3 x4  hw => ih M x1 x2 x3 x4 hw) N9 M x1 x2 x3 x4 (0 : Int32) hw
def w_O_wrongEntry (M : sdM) (a1 : Int32) (a2 : Int32) (a3 : Int32) (Q : Int32 → sdM → Prop) : Prop := ∃ N9 : Nat, h_O_wrongEntry_3 Q N9 M a1 a2 a3 (1 : Int32)
set_option maxHeartbeats 1000000 in
theorem c_O_wrongEntry {a1 : Int32} {a2 : Int32} {a3 : Int32} (hA : sd_ad b n ad) (hT : l.stackTraces = false) (hO : isO n L dA) {Q : Int32 → sdM → Prop} {M : sdM} (hw : w_O_wrongEntry M a1 a2 a3 Q) : sd_Cn l (sdE0 sc) y_O_wrongEntry Y_O_wrongEntry.2.2.2.2.1 Y_O_wrongEntry.2.2.2.2.2.1 0 0 D (sd_tys dA) b n ad L M [.ref 116, .int a1, .int a2, .int a3] (sd_qi Q) sd_xf := by
  refine sd_enter (Y := Y_O_wrongEntry) rfl rfl rfl rfl (Nat.le_of_ble_eq_true rfl) ?_
  show sdW l (sdE0 sc) Y_O_wrongEntry D (sd_tys dA) b n ad L ad (sd_H D (sdE0 sc).1 n ad L) (sd_qi Q) sd_xf 0 [(0, .ref 116), (1, .int a1), (2, .int a2), (3, .int a3)] [] M 0 0
  unfold w_O_wrongEntry at hw
  refine x_iconst (v := 1) d_O_wrongEntry_0 (by decide) ?_
  refine x_istore 4 [(4, .int (1 : Int32)), (0, .ref 116), (1, .int a1), (2, .int a2), (3, .int a3)] d_O_wrongEntry_1 (by decide) rfl ?_
  refine x_sub [1, 2, 3, 4, 0] [(0, .ref 116), (1, .int a1), (2, .int a2), (3, .int a3), (4, .int (1 : Int32))] rfl ?_
  obtain ⟨N9, hw⟩ := hw
  exact t_O_wrongEntry_3 hA hT hO N9 M a1 a2 a3 (1 : Int32) hw
end
theorem q505 : (.fieldLink "SettingsDeskModel" 132 "SettingsDeskModel" "foundList" "I" : Cond) ∈ sdB0 := sd_tb4 190 rfl rfl
theorem q506 : (.fieldLink "SettingsDeskModel" 135 "SettingsDeskModel" "foundKey" "I" : Cond) ∈ sdB0 := sd_tb4 191 rfl rfl
theorem q507 : (.methodLink "SettingsDeskModel" 138 ⟨"SettingsDeskModel", "wrongEntry", "(III)I"⟩ : Cond) ∈ sdB0 := sd_tb5 62 rfl rfl
theorem q508 : (.code ⟨"SettingsDeskModel", "wrongEntry", "(III)I"⟩ prog_12_method_25_code 6 (some .int) : Cond) ∈ sdB0 := sd_tb5 65 rfl rfl
theorem q509 : (.instanceMethod ⟨"SettingsDeskModel", "wrongEntry", "(III)I"⟩ : Cond) ∈ sdB0 := sd_tb5 64 rfl rfl
theorem q510 : (.selects "SettingsDeskModel" ⟨"SettingsDeskModel", "wrongEntry", "(III)I"⟩ ⟨"SettingsDeskModel", "wrongEntry", "(III)I"⟩ : Cond) ∈ sdB0 := sd_tbp (q := (⟨"SettingsDeskModel", "wrongEntry", "(III)I"⟩, 35)) (List.mem_of_getElem? (i := 18) rfl)
abbrev y_O_faultOf : MethodName := ⟨"SettingsDeskModel", "faultOf", "(I)I"⟩
theorem d_O_faultOf_0 : decode prog_12_method_26_code 0 = .ok (.iconst 0, 1) := by decide +kernel
theorem d_O_faultOf_1 : decode prog_12_method_26_code 1 = .ok (.istore_n 2, 1) := by decide +kernel
theorem d_O_faultOf_2 : decode prog_12_method_26_code 2 = .ok (.iload_n 2, 1) := by decide +kernel
theorem d_O_faultOf_3 : decode prog_12_method_26_code 3 = .ok (.aload_n 0, 1) := by decide +kernel
theorem d_O_faultOf_4 : decode prog_12_method_26_code 4 = .ok (.getfield 7, 3) := by decide +kernel
theorem d_O_faultOf_7 : decode prog_12_method_26_code 7 = .ok (.if_icmp .ge (41), 3) := by decide +kernel
theorem d_O_faultOf_10 : decode prog_12_method_26_code 10 = .ok (.aload_n 0, 1) := by decide +kernel
theorem d_O_faultOf_11 : decode prog_12_method_26_code 11 = .ok (.getfield 51, 3) := by decide +kernel
theorem d_O_faultOf_14 : decode prog_12_method_26_code 14 = .ok (.iconst 4, 1) := by decide +kernel
theorem d_O_faultOf_15 : decode prog_12_method_26_code 15 = .ok (.iload_n 1, 1) := by decide +kernel
theorem d_O_faultOf_16 : decode prog_12_method_26_code 16 = .ok (.imul, 1) := by decide +kernel
theorem d_O_faultOf_17 : decode prog_12_method_26_code 17 = .ok (.iload_n 2, 1) := by decide +kernel
theorem d_O_faultOf_18 : decode prog_12_method_26_code 18 = .ok (.iadd, 1) := by decide +kernel
theorem d_O_faultOf_19 : decode prog_12_method_26_code 19 = .ok (.iaload, 1) := by decide +kernel
theorem d_O_faultOf_20 : decode prog_12_method_26_code 20 = .ok (.bipush (6), 2) := by decide +kernel
theorem d_O_faultOf_22 : decode prog_12_method_26_code 22 = .ok (.if_icmp .le (20), 3) := by decide +kernel
theorem d_O_faultOf_25 : decode prog_12_method_26_code 25 = .ok (.aload_n 0, 1) := by decide +kernel
theorem d_O_faultOf_26 : decode prog_12_method_26_code 26 = .ok (.iload_n 2, 1) := by decide +kernel
theorem d_O_faultOf_27 : decode prog_12_method_26_code 27 = .ok (.putfield 132, 3) := by decide +kernel
theorem d_O_faultOf_30 : decode prog_12_method_26_code 30 = .ok (.aload_n 0, 1) := by decide +kernel
theorem d_O_faultOf_31 : decode prog_12_method_26_code 31 = .ok (.iconst (-1), 1) := by decide +kernel
theorem d_O_faultOf_32 : decode prog_12_method_26_code 32 = .ok (.putfield 135, 3) := by decide +kernel
theorem d_O_faultOf_35 : decode prog_12_method_26_code 35 = .ok (.aload_n 0, 1) := by decide +kernel
theorem d_O_faultOf_36 : decode prog_12_method_26_code 36 = .ok (.iconst (-1), 1) := by decide +kernel
theorem d_O_faultOf_37 : decode prog_12_method_26_code 37 = .ok (.putfield 126, 3) := by decide +kernel
theorem d_O_faultOf_40 : decode prog_12_method_26_code 40 = .ok (.iconst 5, 1) := by decide +kernel
theorem d_O_faultOf_41 : decode prog_12_method_26_code 41 = .ok (.ireturn, 1) := by decide +kernel
theorem d_O_faultOf_42 : decode prog_12_method_26_code 42 = .ok (.iinc 2 (1), 3) := by decide +kernel
theorem d_O_faultOf_45 : decode prog_12_method_26_code 45 = .ok (.goto (-43), 3) := by decide +kernel
theorem d_O_faultOf_48 : decode prog_12_method_26_code 48 = .ok (.iconst 0, 1) := by decide +kernel
theorem d_O_faultOf_49 : decode prog_12_method_26_code 49 = .ok (.istore_n 2, 1) := by decide +kernel
theorem d_O_faultOf_50 : decode prog_12_method_26_code 50 = .ok (.iload_n 2, 1) := by decide +kernel
theorem d_O_faultOf_51 : decode prog_12_method_26_code 51 = .ok (.aload_n 0, 1) := by decide +kernel
theorem d_O_faultOf_52 : decode prog_12_method_26_code 52 = .ok (.getfield 7, 3) := by decide +kernel
theorem d_O_faultOf_55 : decode prog_12_method_26_code 55 = .ok (.if_icmp .ge (83), 3) := by decide +kernel
theorem d_O_faultOf_58 : decode prog_12_method_26_code 58 = .ok (.iconst 0, 1) := by decide +kernel
theorem d_O_faultOf_59 : decode prog_12_method_26_code 59 = .ok (.istore_n 3, 1) := by decide +kernel
theorem d_O_faultOf_60 : decode prog_12_method_26_code 60 = .ok (.iload_n 3, 1) := by decide +kernel
theorem d_O_faultOf_61 : decode prog_12_method_26_code 61 = .ok (.aload_n 0, 1) := by decide +kernel
theorem d_O_faultOf_62 : decode prog_12_method_26_code 62 = .ok (.getfield 51, 3) := by decide +kernel
theorem d_O_faultOf_65 : decode prog_12_method_26_code 65 = .ok (.iconst 4, 1) := by decide +kernel
theorem d_O_faultOf_66 : decode prog_12_method_26_code 66 = .ok (.iload_n 1, 1) := by decide +kernel
theorem d_O_faultOf_67 : decode prog_12_method_26_code 67 = .ok (.imul, 1) := by decide +kernel
theorem d_O_faultOf_68 : decode prog_12_method_26_code 68 = .ok (.iload_n 2, 1) := by decide +kernel
theorem d_O_faultOf_69 : decode prog_12_method_26_code 69 = .ok (.iadd, 1) := by decide +kernel
theorem d_O_faultOf_70 : decode prog_12_method_26_code 70 = .ok (.iaload, 1) := by decide +kernel
theorem d_O_faultOf_71 : decode prog_12_method_26_code 71 = .ok (.if_icmp .ge (61), 3) := by decide +kernel
theorem d_O_faultOf_74 : decode prog_12_method_26_code 74 = .ok (.aload_n 0, 1) := by decide +kernel
theorem d_O_faultOf_75 : decode prog_12_method_26_code 75 = .ok (.iload_n 1, 1) := by decide +kernel
theorem d_O_faultOf_76 : decode prog_12_method_26_code 76 = .ok (.iload_n 2, 1) := by decide +kernel
theorem d_O_faultOf_77 : decode prog_12_method_26_code 77 = .ok (.bipush (48), 2) := by decide +kernel
theorem d_O_faultOf_79 : decode prog_12_method_26_code 79 = .ok (.iload_n 1, 1) := by decide +kernel
theorem d_O_faultOf_80 : decode prog_12_method_26_code 80 = .ok (.imul, 1) := by decide +kernel
theorem d_O_faultOf_81 : decode prog_12_method_26_code 81 = .ok (.bipush (12), 2) := by decide +kernel
theorem d_O_faultOf_83 : decode prog_12_method_26_code 83 = .ok (.iload_n 2, 1) := by decide +kernel
theorem d_O_faultOf_84 : decode prog_12_method_26_code 84 = .ok (.imul, 1) := by decide +kernel
theorem d_O_faultOf_85 : decode prog_12_method_26_code 85 = .ok (.iadd, 1) := by decide +kernel
theorem d_O_faultOf_86 : decode prog_12_method_26_code 86 = .ok (.iload_n 3, 1) := by decide +kernel
theorem d_O_faultOf_87 : decode prog_12_method_26_code 87 = .ok (.iadd, 1) := by decide +kernel
theorem d_O_faultOf_88 : decode prog_12_method_26_code 88 = .ok (.invokevirtual 138, 3) := by decide +kernel
theorem d_O_faultOf_91 : decode prog_12_method_26_code 91 = .ok (.istore 4, 2) := by decide +kernel
theorem d_O_faultOf_93 : decode prog_12_method_26_code 93 = .ok (.iload 4, 2) := by decide +kernel
theorem d_O_faultOf_95 : decode prog_12_method_26_code 95 = .ok (.ifCond .le (31), 3) := by decide +kernel
theorem d_O_faultOf_98 : decode prog_12_method_26_code 98 = .ok (.aload_n 0, 1) := by decide +kernel
theorem d_O_faultOf_99 : decode prog_12_method_26_code 99 = .ok (.iload_n 2, 1) := by decide +kernel
theorem d_O_faultOf_100 : decode prog_12_method_26_code 100 = .ok (.putfield 132, 3) := by decide +kernel
theorem d_O_faultOf_103 : decode prog_12_method_26_code 103 = .ok (.aload_n 0, 1) := by decide +kernel
theorem d_O_faultOf_104 : decode prog_12_method_26_code 104 = .ok (.aload_n 0, 1) := by decide +kernel
theorem d_O_faultOf_105 : decode prog_12_method_26_code 105 = .ok (.getfield 54, 3) := by decide +kernel
theorem d_O_faultOf_108 : decode prog_12_method_26_code 108 = .ok (.bipush (48), 2) := by decide +kernel
theorem d_O_faultOf_110 : decode prog_12_method_26_code 110 = .ok (.iload_n 1, 1) := by decide +kernel
theorem d_O_faultOf_111 : decode prog_12_method_26_code 111 = .ok (.imul, 1) := by decide +kernel
theorem d_O_faultOf_112 : decode prog_12_method_26_code 112 = .ok (.bipush (12), 2) := by decide +kernel
theorem d_O_faultOf_114 : decode prog_12_method_26_code 114 = .ok (.iload_n 2, 1) := by decide +kernel
theorem d_O_faultOf_115 : decode prog_12_method_26_code 115 = .ok (.imul, 1) := by decide +kernel
theorem d_O_faultOf_116 : decode prog_12_method_26_code 116 = .ok (.iadd, 1) := by decide +kernel
theorem d_O_faultOf_117 : decode prog_12_method_26_code 117 = .ok (.iload_n 3, 1) := by decide +kernel
theorem d_O_faultOf_118 : decode prog_12_method_26_code 118 = .ok (.iadd, 1) := by decide +kernel
theorem d_O_faultOf_119 : decode prog_12_method_26_code 119 = .ok (.iaload, 1) := by decide +kernel
theorem d_O_faultOf_120 : decode prog_12_method_26_code 120 = .ok (.putfield 135, 3) := by decide +kernel
theorem d_O_faultOf_123 : decode prog_12_method_26_code 123 = .ok (.iload 4, 2) := by decide +kernel
theorem d_O_faultOf_125 : decode prog_12_method_26_code 125 = .ok (.ireturn, 1) := by decide +kernel
theorem d_O_faultOf_126 : decode prog_12_method_26_code 126 = .ok (.iinc 3 (1), 3) := by decide +kernel
theorem d_O_faultOf_129 : decode prog_12_method_26_code 129 = .ok (.goto (-69), 3) := by decide +kernel
theorem d_O_faultOf_132 : decode prog_12_method_26_code 132 = .ok (.iinc 2 (1), 3) := by decide +kernel
theorem d_O_faultOf_135 : decode prog_12_method_26_code 135 = .ok (.goto (-85), 3) := by decide +kernel
theorem d_O_faultOf_138 : decode prog_12_method_26_code 138 = .ok (.iconst 0, 1) := by decide +kernel
theorem d_O_faultOf_139 : decode prog_12_method_26_code 139 = .ok (.ireturn, 1) := by decide +kernel
def Y_O_faultOf : sdY := ("SettingsDeskModel", prog_12_method_26_code, 5, (some .int), .code y_O_faultOf prog_12_method_26_code 5 (some .int) :: sdB0, { frames := 5, cells := 0, slots := 0, locals := 122 }, 0, 0, [])
theorem cw_O_faultOf_O_wrongEntry_138 : sd_cwV Y_O_faultOf Y_O_wrongEntry y_O_wrongEntry 138 3 "SettingsDeskModel" := ⟨sd_goodV q507 q509 q510 q459 q508, ⟨_, rfl⟩, ⟨rfl, rfl, rfl, rfl⟩, ⟨rfl, by decide, by decide, by decide +kernel⟩, ⟨by decide, by decide⟩⟩
section
variable {l : Launch} {D : va_G} {dA : Nat → ClassId} {b n : Nat} {ad : Nat → Nat} {L : Nat → sdL} {sc : Option (Nat × Nat × (Nat → Int32))}
def h_O_faultOf_60 (Q : Int32 → sdM → Prop) (k50 : sdM → Int32 → Int32 → Prop) : Nat → sdM → Int32 → Int32 → Int32 → Prop
  | 0, _, _, _, _ => False
  | N + 1, M, x1, x2, x3 => vp_in (((4 : Int32) * x1) + x2) 68 ∧ ((M 129 (((4 : Int32) * x1) + x2).toNatClampNeg) ≤ x3 → k50 M x1 (x2 + 1)) ∧ (¬ (M 129 (((4 : Int32) * x1) + x2).toNatClampNeg) ≤ x3 → w_O_wrongEntry M x1 x2 ((((48 : Int32) * x1) + ((12 : Int32) * x2)) + x3) (fun r18 M17 => (r18 ≤ 0 → h_O_faultOf_60 Q k50 N M17 x1 x2 (x3 + 1)) ∧ (¬ r18 ≤ 0 → ∀ M19 : sdM, M19 = sd_s M17 116 31 x2 → vp_in ((((48 : Int32) * x1) + ((12 : Int32) * x2)) + x3) 816 ∧ ∀ M22 : sdM, M22 = sd_s M19 116 32 (M19 130 ((((48 : Int32) * x1) + ((12 : Int32) * x2)) + x3).toNatClampNeg) → Q r18 M22)))
set_option maxHeartbeats 1000000 in
theorem t_O_faultOf_60 (hA : sd_ad b n ad) (hT : l.stackTraces = false) (hO : isO n L dA) {Q : Int32 → sdM → Prop} {k50 : sdM → Int32 → Int32 → Prop} (hk50 : ∀ (M : sdM) (x1 : Int32) (x2 : Int32), k50 M x1 x2 → sdW l (sdE0 sc) Y_O_faultOf D (sd_tys dA) b n ad L ad (sd_H D (sdE0 sc).1 n ad L) (sd_qi Q) sd_xf 50 [(0, .ref 116), (1, .int x1), (2, .int x2)] [] M 0 0) (N : Nat) : ∀ (M : sdM) (x1 : Int32) (x2 : Int32) (x3 : Int32), h_O_faultOf_60 Q k50 N M x1 x2 x3 → sdW l (sdE0 sc) Y_O_faultOf D (sd_tys dA) b n ad L ad (sd_H D (sdE0 sc).1 n ad L) (sd_qi Q) sd_xf 60 [(0, .ref 116), (1, .int x1), (2, .int x2), (3, .int x3)] [] M 0 0 := by
  induction N with
  | zero => intro M x1 x2 x3 hw; exact hw.elim
  | succ N ih =>
    intro M x1 x2 x3 hw
    rw [h_O_faultOf_60] at hw
    refine x_iload_n 3 3 d_O_faultOf_60 rfl rfl ?_
    refine x_aload_n 0 0 d_O_faultOf_61 rfl rfl ?_
    refine x_getr 16 129 d_O_faultOf_62 hO.1 hO.2.1 rfl rfl (by decide) lay_O (List.mem_cons_of_mem _ q478) rfl ?_
    refine x_iconst (v := 4) d_O_faultOf_65 (by decide) ?_
    refine x_iload_n 1 1 d_O_faultOf_66 rfl rfl ?_
    refine x_imul d_O_faultOf_67 ?_
    refine x_iload_n 2 2 d_O_faultOf_68 rfl rfl ?_
    refine x_iadd d_O_faultOf_69 ?_
    obtain ⟨hi16, hw⟩ := hw
    refine x_iald d_O_faultOf_70 hO.sizes.1 hO.sizes.2 rfl hi16 ?_
    refine x_icmp_ge 132 d_O_faultOf_71 rfl (fun hc => ?_) (fun hc => ?_)
    · have hw := hw.1 hc
      refine x_iinc 2 2 [(2, .int (x2 + 1)), (0, .ref 116), (1, .int x1), (3, .int x3)] d_O_faultOf_132 rfl (congrArg (HAdd.hAdd x2) (show Int32.ofInt 1 = 1 by decide)) (by decide) rfl ?_
      refine x_goto 50 d_O_faultOf_135 rfl ?_
      refine x_sub [1, 2, 0] [(0, .ref 116), (1, .int x1), (2, .int (x2 + 1))] rfl ?_
      exact hk50 M x1 (x2 + 1) hw
    · have hw := hw.2 hc
      refine x_aload_n 0 0 d_O_faultOf_74 rfl rfl ?_
      refine x_iload_n 1 1 d_O_faultOf_75 rfl rfl ?_
      refine x_iload_n 2 2 d_O_faultOf_76 rfl rfl ?_
      refine x_bipush (v := 48) d_O_faultOf_77 (by decide) ?_
      refine x_iload_n 1 1 d_O_faultOf_79 rfl rfl ?_
      refine x_imul d_O_faultOf_80 ?_
      refine x_bipush (v := 12) d_O_faultOf_81 (by decide) ?_
      refine x_iload_n 2 2 d_O_faultOf_83 rfl rfl ?_
      refine x_imul d_O_faultOf_84 ?_
      refine x_iadd d_O_faultOf_85 ?_
      refine x_iload_n 3 3 d_O_faultOf_86 rfl rfl ?_
      refine x_iadd d_O_faultOf_87 ?_
      refine x_callVi (As := [.int x1, .int x2, .int ((((48 : Int32) * x1) + ((12 : Int32) * x2)) + x3)]) (t := 116) (rest := []) (rc := 0) (rs := 0) (c_O_wrongEntry hA hT hO hw) cw_O_faultOf_O_wrongEntry_138 hO.1 hO.2.1 rfl d_O_faultOf_88 rfl rfl (Nat.le_of_ble_eq_true rfl) rfl (fun _ _ h => h.elim) (fun _ _ h => h) (fun r18 M17 hw => ?_)
      refine x_istore 4 [(4, .int r18), (0, .ref 116), (1, .int x1), (2, .int x2), (3, .int x3)] d_O_faultOf_91 (by decide) rfl ?_
      refine x_iload 4 0 d_O_faultOf_93 rfl ?_
      refine x_if_le 126 d_O_faultOf_95 rfl (fun hc => ?_) (fun hc => ?_)
      · have hw := hw.1 hc
        refine x_iinc 3 4 [(3, .int (x3 + 1)), (4, .int r18), (0, .ref 116), (1, .int x1), (2, .int x2)] d_O_faultOf_126 rfl (congrArg (HAdd.hAdd x3) (show Int32.ofInt 1 = 1 by decide)) (by decide) rfl ?_
        refine x_goto 60 d_O_faultOf_129 rfl ?_
        refine x_sub [2, 3, 4, 0] [(0, .ref 116), (1, .int x1), (2, .int x2), (3, .int (x3 + 1))] rfl ?_
        exact ih M17 x1 x2 (x3 + 1) hw
      · have hw := hw.2 hc
        refine x_aload_n 0 1 d_O_faultOf_98 rfl rfl ?_
        refine x_iload_n 2 3 d_O_faultOf_99 rfl rfl ?_
        refine x_puti 31 (ty := .int) hA d_O_faultOf_100 hO.1 hO.2.1 rfl rfl (by decide) lay_O (List.mem_cons_of_mem _ q505) rfl ty_O ty_O_ok nm_O rfl (by decide +kernel) rfl rfl (fun M19 e20 => ?_)
        have hw := hw M19 e20
        clear e20
        refine x_aload_n 0 1 d_O_faultOf_103 rfl rfl ?_
        refine x_aload_n 0 1 d_O_faultOf_104 rfl rfl ?_
        refine x_getr 17 130 d_O_faultOf_105 hO.1 hO.2.1 rfl rfl (by decide) lay_O (List.mem_cons_of_mem _ q479) rfl ?_
        refine x_bipush (v := 48) d_O_faultOf_108 (by decide) ?_
        refine x_iload_n 1 2 d_O_faultOf_110 rfl rfl ?_
        refine x_imul d_O_faultOf_111 ?_
        refine x_bipush (v := 12) d_O_faultOf_112 (by decide) ?_
        refine x_iload_n 2 3 d_O_faultOf_114 rfl rfl ?_
        refine x_imul d_O_faultOf_115 ?_
        refine x_iadd d_O_faultOf_116 ?_
        refine x_iload_n 3 4 d_O_faultOf_117 rfl rfl ?_
        refine x_iadd d_O_faultOf_118 ?_
        obtain ⟨hi21, hw⟩ := hw
        refine x_iald d_O_faultOf_119 hO.keys.1 hO.keys.2 rfl hi21 ?_
        refine x_puti 32 (ty := .int) hA d_O_faultOf_120 hO.1 hO.2.1 rfl rfl (by decide) lay_O (List.mem_cons_of_mem _ q506) rfl ty_O ty_O_ok nm_O rfl (by decide +kernel) rfl rfl (fun M22 e23 => ?_)
        have hw := hw M22 e23
        clear e23
        refine x_iload 4 0 d_O_faultOf_123 rfl ?_
        exact x_iret d_O_faultOf_125 rfl (fun _ h => h) ⟨_, rfl, hw⟩
def h_O_faultOf_50 (Q : Int32 → sdM → Prop) : Nat → sdM → Int32 → Int32 → Prop
  | 0, _, _, _ => False
  | N + 1, M, x1, x2 => ((M 116 2) ≤ x2 → Q (0 : Int32) M) ∧ (¬ (M 116 2) ≤ x2 → ∃ N9 : Nat, h_O_faultOf_60 Q (fun M x1 x2 => h_O_faultOf_50 Q N M x1 x2) N9 M x1 x2 (0 : Int32))
set_option maxHeartbeats 1000000 in
theorem t_O_faultOf_50 (hA : sd_ad b n ad) (hT : l.stackTraces = false) (hO : isO n L dA) {Q : Int32 → sdM → Prop} (N : Nat) : ∀ (M : sdM) (x1 : Int32) (x2 : Int32), h_O_faultOf_50 Q N M x1 x2 → sdW l (sdE0 sc) Y_O_faultOf D (sd_tys dA) b n ad L ad (sd_H D (sdE0 sc).1 n ad L) (sd_qi Q) sd_xf 50 [(0, .ref 116), (1, .int x1), (2, .int x2)] [] M 0 0 := by
  induction N with
  | zero => intro M x1 x2 hw; exact hw.elim
  | succ N ih =>
    intro M x1 x2 hw
    rw [h_O_faultOf_50] at hw
    refine x_iload_n 2 2 d_O_faultOf_50 rfl rfl ?_
    refine x_aload_n 0 0 d_O_faultOf_51 rfl rfl ?_
    refine x_geti 2 d_O_faultOf_52 hO.1 hO.2.1 rfl rfl (by decide) lay_O (List.mem_cons_of_mem _ q449) rfl ?_
    refine x_icmp_ge 138 d_O_faultOf_55 rfl (fun hc => ?_) (fun hc => ?_)
    · have hw := hw.1 hc
      refine x_iconst (v := 0) d_O_faultOf_138 (by decide) ?_
      exact x_iret d_O_faultOf_139 rfl (fun _ h => h) ⟨_, rfl, hw⟩
    · have hw := hw.2 hc
      refine x_iconst (v := 0) d_O_faultOf_58 (by decide) ?_
      refine x_istore_n 3 [(3, .int (0 : Int32)), (0, .ref 116), (1, .int x1), (2, .int x2)] d_O_faultOf_59 rfl (by decide) rfl ?_
      refine x_sub [1, 2, 3, 0] [(0, .ref 116), (1, .int x1), (2, .int x2), (3, .int (0 : Int32))] rfl ?_
      obtain ⟨N9, hw⟩ := hw
      exact t_O_faultOf_60 hA hT hO (fun M x1 x2  hw => ih M x1 x2 hw) N9 M x1 x2 (0 : Int32) hw
def h_O_faultOf_2 (Q : Int32 → sdM → Prop) : Nat → sdM → Int32 → Int32 → Prop
  | 0, _, _, _ => False
  | N + 1, M, x1, x2 => ((M 116 2) ≤ x2 → ∃ N9 : Nat, h_O_faultOf_50 Q N9 M x1 (0 : Int32)) ∧ (¬ (M 116 2) ≤ x2 → vp_in (((4 : Int32) * x1) + x2) 68 ∧ ((M 129 (((4 : Int32) * x1) + x2).toNatClampNeg) ≤ (6 : Int32) → h_O_faultOf_2 Q N M x1 (x2 + 1)) ∧ (¬ (M 129 (((4 : Int32) * x1) + x2).toNatClampNeg) ≤ (6 : Int32) → ∀ M25 : sdM, M25 = sd_s M 116 31 x2 → ∀ M27 : sdM, M27 = sd_s M25 116 32 (-1 : Int32) → ∀ M29 : sdM, M29 = sd_s M27 116 33 (-1 : Int32) → Q (5 : Int32) M29))
set_option maxHeartbeats 1000000 in
theorem t_O_faultOf_2 (hA : sd_ad b n ad) (hT : l.stackTraces = false) (hO : isO n L dA) {Q : Int32 → sdM → Prop} (N : Nat) : ∀ (M : sdM) (x1 : Int32) (x2 : Int32), h_O_faultOf_2 Q N M x1 x2 → sdW l (sdE0 sc) Y_O_faultOf D (sd_tys dA) b n ad L ad (sd_H D (sdE0 sc).1 n ad L) (sd_qi Q) sd_xf 2 [(0, .ref 116), (1, .int x1), (2, .int x2)] [] M 0 0 := by
  induction N with
  | zero => intro M x1 x2 hw; exact hw.elim
  | succ N ih =>
    intro M x1 x2 hw
    rw [h_O_faultOf_2] at hw
    refine x_iload_n 2 2 d_O_faultOf_2 rfl rfl ?_
    refine x_aload_n 0 0 d_O_faultOf_3 rfl rfl ?_
    refine x_geti 2 d_O_faultOf_4 hO.1 hO.2.1 rfl rfl (by decide) lay_O (List.mem_cons_of_mem _ q449) rfl ?_
    refine x_icmp_ge 48 d_O_faultOf_7 rfl (fun hc => ?_) (fun hc => ?_)
    · have hw := hw.1 hc
      refine x_iconst (v := 0) d_O_faultOf_48 (by decide) ?_
      refine x_istore_n 2 [(2, .int (0 : Int32)), (0, .ref 116), (1, .int x1)] d_O_faultOf_49 rfl (by decide) rfl ?_
      refine x_sub [1, 2, 0] [(0, .ref 116), (1, .int x1), (2, .int (0 : Int32))] rfl ?_
      obtain ⟨N9, hw⟩ := hw
      exact t_O_faultOf_50 hA hT hO N9 M x1 (0 : Int32) hw
    · have hw := hw.2 hc
      refine x_aload_n 0 0 d_O_faultOf_10 rfl rfl ?_
      refine x_getr 16 129 d_O_faultOf_11 hO.1 hO.2.1 rfl rfl (by decide) lay_O (List.mem_cons_of_mem _ q478) rfl ?_
      refine x_iconst (v := 4) d_O_faultOf_14 (by decide) ?_
      refine x_iload_n 1 1 d_O_faultOf_15 rfl rfl ?_
      refine x_imul d_O_faultOf_16 ?_
      refine x_iload_n 2 2 d_O_faultOf_17 rfl rfl ?_
      refine x_iadd d_O_faultOf_18 ?_
      obtain ⟨hi24, hw⟩ := hw
      refine x_iald d_O_faultOf_19 hO.sizes.1 hO.sizes.2 rfl hi24 ?_
      refine x_bipush (v := 6) d_O_faultOf_20 (by decide) ?_
      refine x_icmp_le 42 d_O_faultOf_22 rfl (fun hc => ?_) (fun hc => ?_)
      · have hw := hw.1 hc
        refine x_iinc 2 2 [(2, .int (x2 + 1)), (0, .ref 116), (1, .int x1)] d_O_faultOf_42 rfl (congrArg (HAdd.hAdd x2) (show Int32.ofInt 1 = 1 by decide)) (by decide) rfl ?_
        refine x_goto 2 d_O_faultOf_45 rfl ?_
        refine x_sub [1, 2, 0] [(0, .ref 116), (1, .int x1), (2, .int (x2 + 1))] rfl ?_
        exact ih M x1 (x2 + 1) hw
      · have hw := hw.2 hc
        refine x_aload_n 0 0 d_O_faultOf_25 rfl rfl ?_
        refine x_iload_n 2 2 d_O_faultOf_26 rfl rfl ?_
        refine x_puti 31 (ty := .int) hA d_O_faultOf_27 hO.1 hO.2.1 rfl rfl (by decide) lay_O (List.mem_cons_of_mem _ q505) rfl ty_O ty_O_ok nm_O rfl (by decide +kernel) rfl rfl (fun M25 e26 => ?_)
        have hw := hw M25 e26
        clear e26
        refine x_aload_n 0 0 d_O_faultOf_30 rfl rfl ?_
        refine x_iconst (v := (-1)) d_O_faultOf_31 (by decide) ?_
        refine x_puti 32 (ty := .int) hA d_O_faultOf_32 hO.1 hO.2.1 rfl rfl (by decide) lay_O (List.mem_cons_of_mem _ q506) rfl ty_O ty_O_ok nm_O rfl (by decide +kernel) rfl rfl (fun M27 e28 => ?_)
        have hw := hw M27 e28
        clear e28
        refine x_aload_n 0 0 d_O_faultOf_35 rfl rfl ?_
        refine x_iconst (v := (-1)) d_O_faultOf_36 (by decide) ?_
        refine x_puti 33 (ty := .int) hA d_O_faultOf_37 hO.1 hO.2.1 rfl rfl (by decide) lay_O (List.mem_cons_of_mem _ q496) rfl ty_O ty_O_ok nm_O rfl (by decide +kernel) rfl rfl (fun M29 e30 => ?_)
        have hw := hw M29 e30
        clear e30
        refine x_iconst (v := 5) d_O_faultOf_40 (by decide) ?_
        exact x_iret d_O_faultOf_41 rfl (fun _ h => h) ⟨_, rfl, hw⟩
def w_O_faultOf (M : sdM) (a1 : Int32) (Q : Int32 → sdM → Prop) : Prop := ∃ N9 : Nat, h_O_faultOf_2 Q N9 M a1 (0 : Int32)
set_option maxHeartbeats 1000000 in
theorem c_O_faultOf {a1 : Int32} (hA : sd_ad b n ad) (hT : l.stackTraces = false) (hO : isO n L dA) {Q : Int32 → sdM → Prop} {M : sdM} (hw : w_O_faultOf M a1 Q) : sd_Cn l (sdE0 sc) y_O_faultOf Y_O_faultOf.2.2.2.2.1 Y_O_faultOf.2.2.2.2.2.1 0 0 D (sd_tys dA) b n ad L M [.ref 116, .int a1] (sd_qi Q) sd_xf := by
  refine sd_enter (Y := Y_O_faultOf) rfl rfl rfl rfl (Nat.le_of_ble_eq_true rfl) ?_
  show sdW l (sdE0 sc) Y_O_faultOf D (sd_tys dA) b n ad L ad (sd_H D (sdE0 sc).1 n ad L) (sd_qi Q) sd_xf 0 [(0, .ref 116), (1, .int a1)] [] M 0 0
  unfold w_O_faultOf at hw
  refine x_iconst (v := 0) d_O_faultOf_0 (by decide) ?_
  refine x_istore_n 2 [(2, .int (0 : Int32)), (0, .ref 116), (1, .int a1)] d_O_faultOf_1 rfl (by decide) rfl ?_
  refine x_sub [1, 2, 0] [(0, .ref 116), (1, .int a1), (2, .int (0 : Int32))] rfl ?_
  obtain ⟨N9, hw⟩ := hw
  exact t_O_faultOf_2 hA hT hO N9 M a1 (0 : Int32) hw
end
theorem q511 : (.methodLink "SettingsDeskModel" 90 ⟨"SettingsDeskModel", "faultOf", "(I)I"⟩ : Cond) ∈ sdB0 := sd_tb5 58 rfl rfl
theorem q512 : (.code ⟨"SettingsDeskModel", "faultOf", "(I)I"⟩ prog_12_method_26_code 5 (some .int) : Cond) ∈ sdB0 := sd_tb5 61 rfl rfl
theorem q513 : (.instanceMethod ⟨"SettingsDeskModel", "faultOf", "(I)I"⟩ : Cond) ∈ sdB0 := sd_tb5 60 rfl rfl
theorem q514 : (.selects "SettingsDeskModel" ⟨"SettingsDeskModel", "faultOf", "(I)I"⟩ ⟨"SettingsDeskModel", "faultOf", "(I)I"⟩ : Cond) ∈ sdB0 := sd_tbp (q := (⟨"SettingsDeskModel", "faultOf", "(I)I"⟩, 35)) (List.mem_of_getElem? (i := 17) rfl)
abbrev y_O_ready : MethodName := ⟨"SettingsDeskModel", "ready", "()Z"⟩
theorem d_O_ready_0 : decode prog_12_method_10_code 0 = .ok (.aload_n 0, 1) := by decide +kernel
theorem d_O_ready_1 : decode prog_12_method_10_code 1 = .ok (.aload_n 0, 1) := by decide +kernel
theorem d_O_ready_2 : decode prog_12_method_10_code 2 = .ok (.getfield 76, 3) := by decide +kernel
theorem d_O_ready_5 : decode prog_12_method_10_code 5 = .ok (.ifCond .ne (10), 3) := by decide +kernel
theorem d_O_ready_8 : decode prog_12_method_10_code 8 = .ok (.aload_n 0, 1) := by decide +kernel
theorem d_O_ready_9 : decode prog_12_method_10_code 9 = .ok (.getfield 80, 3) := by decide +kernel
theorem d_O_ready_12 : decode prog_12_method_10_code 12 = .ok (.ifCond .eq (7), 3) := by decide +kernel
theorem d_O_ready_15 : decode prog_12_method_10_code 15 = .ok (.iconst 1, 1) := by decide +kernel
theorem d_O_ready_16 : decode prog_12_method_10_code 16 = .ok (.goto (4), 3) := by decide +kernel
theorem d_O_ready_19 : decode prog_12_method_10_code 19 = .ok (.iconst 0, 1) := by decide +kernel
theorem d_O_ready_20 : decode prog_12_method_10_code 20 = .ok (.putfield 69, 3) := by decide +kernel
theorem d_O_ready_23 : decode prog_12_method_10_code 23 = .ok (.aload_n 0, 1) := by decide +kernel
theorem d_O_ready_24 : decode prog_12_method_10_code 24 = .ok (.getfield 69, 3) := by decide +kernel
theorem d_O_ready_27 : decode prog_12_method_10_code 27 = .ok (.ifCond .le (5), 3) := by decide +kernel
theorem d_O_ready_30 : decode prog_12_method_10_code 30 = .ok (.iconst 0, 1) := by decide +kernel
theorem d_O_ready_31 : decode prog_12_method_10_code 31 = .ok (.ireturn, 1) := by decide +kernel
theorem d_O_ready_32 : decode prog_12_method_10_code 32 = .ok (.aload_n 0, 1) := by decide +kernel
theorem d_O_ready_33 : decode prog_12_method_10_code 33 = .ok (.iconst 1, 1) := by decide +kernel
theorem d_O_ready_34 : decode prog_12_method_10_code 34 = .ok (.putfield 80, 3) := by decide +kernel
theorem d_O_ready_37 : decode prog_12_method_10_code 37 = .ok (.aload_n 0, 1) := by decide +kernel
theorem d_O_ready_38 : decode prog_12_method_10_code 38 = .ok (.iconst 0, 1) := by decide +kernel
theorem d_O_ready_39 : decode prog_12_method_10_code 39 = .ok (.invokevirtual 90, 3) := by decide +kernel
theorem d_O_ready_42 : decode prog_12_method_10_code 42 = .ok (.ifCond .ne (7), 3) := by decide +kernel
theorem d_O_ready_45 : decode prog_12_method_10_code 45 = .ok (.iconst 1, 1) := by decide +kernel
theorem d_O_ready_46 : decode prog_12_method_10_code 46 = .ok (.goto (4), 3) := by decide +kernel
theorem d_O_ready_49 : decode prog_12_method_10_code 49 = .ok (.iconst 0, 1) := by decide +kernel
theorem d_O_ready_50 : decode prog_12_method_10_code 50 = .ok (.ireturn, 1) := by decide +kernel
def Y_O_ready : sdY := ("SettingsDeskModel", prog_12_method_10_code, 1, (some .boolean), .code y_O_ready prog_12_method_10_code 1 (some .boolean) :: sdB0, { frames := 6, cells := 0, slots := 0, locals := 146 }, 0, 0, [])
theorem cw_O_ready_O_faultOf_90 : sd_cwV Y_O_ready Y_O_faultOf y_O_faultOf 90 1 "SettingsDeskModel" := ⟨sd_goodV q511 q513 q514 q459 q512, ⟨_, rfl⟩, ⟨rfl, rfl, rfl, rfl⟩, ⟨rfl, by decide, by decide, by decide +kernel⟩, ⟨by decide, by decide⟩⟩
section
variable {l : Launch} {D : va_G} {dA : Nat → ClassId} {b n : Nat} {ad : Nat → Nat} {L : Nat → sdL} {sc : Option (Nat × Nat × (Nat → Int32))}
def k_O_ready_50 (Q : Int32 → sdM → Prop) (M : sdM) (s0 : Int32) : Prop := sdB s0 ∧ Q s0 M
set_option maxHeartbeats 1000000 in
theorem t_O_ready_50 (hA : sd_ad b n ad) (hT : l.stackTraces = false) (hO : isO n L dA) {Q : Int32 → sdM → Prop} (M : sdM) (s0 : Int32) (hw : k_O_ready_50 Q M s0) : sdW l (sdE0 sc) Y_O_ready D (sd_tys dA) b n ad L ad (sd_H D (sdE0 sc).1 n ad L) (sd_qi Q) sd_xf 50 [] [.int s0] M 0 0 := by
  unfold k_O_ready_50 at hw
  exact x_zret d_O_ready_50 rfl (sdB_n hw.1) (fun _ h => h) ⟨_, rfl, hw.2⟩
def k_O_ready_20 (Q : Int32 → sdM → Prop) (M : sdM) (s1 : Int32) : Prop := ∀ M8 : sdM, M8 = sd_s M 116 0 s1 → ((M8 116 0) ≤ 0 → sdB (1 : Int32) ∧ ∀ M10 : sdM, M10 = sd_s M8 116 1 (1 : Int32) → w_O_faultOf M10 (0 : Int32) (fun r14 M13 => (¬ r14 = 0 → k_O_ready_50 Q M13 (0 : Int32)) ∧ (r14 = 0 → k_O_ready_50 Q M13 (1 : Int32)))) ∧ (¬ (M8 116 0) ≤ 0 → sdB (0 : Int32) ∧ Q (0 : Int32) M8)
set_option maxHeartbeats 1000000 in
theorem t_O_ready_20 (hA : sd_ad b n ad) (hT : l.stackTraces = false) (hO : isO n L dA) {Q : Int32 → sdM → Prop} (M : sdM) (s1 : Int32) (hw : k_O_ready_20 Q M s1) : sdW l (sdE0 sc) Y_O_ready D (sd_tys dA) b n ad L ad (sd_H D (sdE0 sc).1 n ad L) (sd_qi Q) sd_xf 20 [(0, .ref 116)] [.int s1, .ref 116] M 0 0 := by
  unfold k_O_ready_20 at hw
  refine x_puti 0 (ty := .int) hA d_O_ready_20 hO.1 hO.2.1 rfl rfl (by decide) lay_O (List.mem_cons_of_mem _ q446) rfl ty_O ty_O_ok nm_O rfl (by decide +kernel) rfl rfl (fun M8 e9 => ?_)
  have hw := hw M8 e9
  clear e9
  refine x_aload_n 0 0 d_O_ready_23 rfl rfl ?_
  refine x_geti 0 d_O_ready_24 hO.1 hO.2.1 rfl rfl (by decide) lay_O (List.mem_cons_of_mem _ q446) rfl ?_
  refine x_if_le 32 d_O_ready_27 rfl (fun hc => ?_) (fun hc => ?_)
  · have hw := hw.1 hc
    refine x_aload_n 0 0 d_O_ready_32 rfl rfl ?_
    refine x_iconst (v := 1) d_O_ready_33 (by decide) ?_
    obtain ⟨hb12, hw⟩ := hw
    refine x_puti 1 (ty := .boolean) hA d_O_ready_34 hO.1 hO.2.1 rfl rfl (by decide) lay_O (List.mem_cons_of_mem _ q448) rfl ty_O ty_O_ok nm_O rfl (by decide +kernel) (sdB_n hb12) (sdB_f hb12) (fun M10 e11 => ?_)
    have hw := hw M10 e11
    clear e11
    refine x_aload_n 0 0 d_O_ready_37 rfl rfl ?_
    refine x_iconst (v := 0) d_O_ready_38 (by decide) ?_
    refine x_callVi (As := [.int (0 : Int32)]) (t := 116) (rest := []) (rc := 0) (rs := 0) (c_O_faultOf hA hT hO hw) cw_O_ready_O_faultOf_90 hO.1 hO.2.1 rfl d_O_ready_39 rfl rfl (Nat.le_of_ble_eq_true rfl) rfl (fun _ _ h => h.elim) (fun _ _ h => h) (fun r14 M13 hw => ?_)
    refine x_if_ne 49 d_O_ready_42 rfl (fun hc => ?_) (fun hc => ?_)
    · have hw := hw.1 hc
      refine x_iconst (v := 0) d_O_ready_49 (by decide) ?_
      refine x_sub [] [] rfl ?_
      exact t_O_ready_50 hA hT hO M13 (0 : Int32) hw
    · have hw := hw.2 hc
      refine x_iconst (v := 1) d_O_ready_45 (by decide) ?_
      refine x_goto 50 d_O_ready_46 rfl ?_
      refine x_sub [] [] rfl ?_
      exact t_O_ready_50 hA hT hO M13 (1 : Int32) hw
  · have hw := hw.2 hc
    refine x_iconst (v := 0) d_O_ready_30 (by decide) ?_
    exact x_zret d_O_ready_31 rfl (sdB_n hw.1) (fun _ h => h) ⟨_, rfl, hw.2⟩
def k_O_ready_15 (Q : Int32 → sdM → Prop) (M : sdM) : Prop := k_O_ready_20 Q M (1 : Int32)
set_option maxHeartbeats 1000000 in
theorem t_O_ready_15 (hA : sd_ad b n ad) (hT : l.stackTraces = false) (hO : isO n L dA) {Q : Int32 → sdM → Prop} (M : sdM) (hw : k_O_ready_15 Q M ) : sdW l (sdE0 sc) Y_O_ready D (sd_tys dA) b n ad L ad (sd_H D (sdE0 sc).1 n ad L) (sd_qi Q) sd_xf 15 [(0, .ref 116)] [.ref 116] M 0 0 := by
  unfold k_O_ready_15 at hw
  refine x_iconst (v := 1) d_O_ready_15 (by decide) ?_
  refine x_goto 20 d_O_ready_16 rfl ?_
  exact t_O_ready_20 hA hT hO M (1 : Int32) hw
def w_O_ready (M : sdM) (Q : Int32 → sdM → Prop) : Prop := (¬ (M 116 25) = 0 → k_O_ready_15 Q M) ∧ ((M 116 25) = 0 → ((M 116 1) = 0 → k_O_ready_20 Q M (0 : Int32)) ∧ (¬ (M 116 1) = 0 → k_O_ready_15 Q M))
set_option maxHeartbeats 1000000 in
theorem c_O_ready (hA : sd_ad b n ad) (hT : l.stackTraces = false) (hO : isO n L dA) {Q : Int32 → sdM → Prop} {M : sdM} (hw : w_O_ready M Q) : sd_Cn l (sdE0 sc) y_O_ready Y_O_ready.2.2.2.2.1 Y_O_ready.2.2.2.2.2.1 0 0 D (sd_tys dA) b n ad L M [.ref 116] (sd_qi Q) sd_xf := by
  refine sd_enter (Y := Y_O_ready) rfl rfl rfl rfl (Nat.le_of_ble_eq_true rfl) ?_
  show sdW l (sdE0 sc) Y_O_ready D (sd_tys dA) b n ad L ad (sd_H D (sdE0 sc).1 n ad L) (sd_qi Q) sd_xf 0 [(0, .ref 116)] [] M 0 0
  unfold w_O_ready at hw
  refine x_aload_n 0 0 d_O_ready_0 rfl rfl ?_
  refine x_aload_n 0 0 d_O_ready_1 rfl rfl ?_
  refine x_geti 25 d_O_ready_2 hO.1 hO.2.1 rfl rfl (by decide) lay_O (List.mem_cons_of_mem _ q447) rfl ?_
  refine x_if_ne 15 d_O_ready_5 rfl (fun hc => ?_) (fun hc => ?_)
  · have hw := hw.1 hc
    exact t_O_ready_15 hA hT hO M hw
  · have hw := hw.2 hc
    refine x_aload_n 0 0 d_O_ready_8 rfl rfl ?_
    refine x_geti 1 d_O_ready_9 hO.1 hO.2.1 rfl rfl (by decide) lay_O (List.mem_cons_of_mem _ q448) rfl ?_
    refine x_if_eq 19 d_O_ready_12 rfl (fun hc => ?_) (fun hc => ?_)
    · have hw := hw.1 hc
      refine x_iconst (v := 0) d_O_ready_19 (by decide) ?_
      exact t_O_ready_20 hA hT hO M (0 : Int32) hw
    · have hw := hw.2 hc
      exact t_O_ready_15 hA hT hO M hw
end
abbrev y_O_isDown : MethodName := ⟨"SettingsDeskModel", "isDown", "()Z"⟩
theorem d_O_isDown_0 : decode prog_12_method_28_code 0 = .ok (.aload_n 0, 1) := by decide +kernel
theorem d_O_isDown_1 : decode prog_12_method_28_code 1 = .ok (.getfield 76, 3) := by decide +kernel
theorem d_O_isDown_4 : decode prog_12_method_28_code 4 = .ok (.ifCond .ne (10), 3) := by decide +kernel
theorem d_O_isDown_7 : decode prog_12_method_28_code 7 = .ok (.aload_n 0, 1) := by decide +kernel
theorem d_O_isDown_8 : decode prog_12_method_28_code 8 = .ok (.getfield 80, 3) := by decide +kernel
theorem d_O_isDown_11 : decode prog_12_method_28_code 11 = .ok (.ifCond .ne (7), 3) := by decide +kernel
theorem d_O_isDown_14 : decode prog_12_method_28_code 14 = .ok (.iconst 1, 1) := by decide +kernel
theorem d_O_isDown_15 : decode prog_12_method_28_code 15 = .ok (.goto (4), 3) := by decide +kernel
theorem d_O_isDown_18 : decode prog_12_method_28_code 18 = .ok (.iconst 0, 1) := by decide +kernel
theorem d_O_isDown_19 : decode prog_12_method_28_code 19 = .ok (.ireturn, 1) := by decide +kernel
def Y_O_isDown : sdY := ("SettingsDeskModel", prog_12_method_28_code, 1, (some .boolean), .code y_O_isDown prog_12_method_28_code 1 (some .boolean) :: sdB0, { frames := 0, cells := 0, slots := 0, locals := 0 }, 0, 0, [])
section
variable {l : Launch} {D : va_G} {dA : Nat → ClassId} {b n : Nat} {ad : Nat → Nat} {L : Nat → sdL} {sc : Option (Nat × Nat × (Nat → Int32))}
def k_O_isDown_19 (Q : Int32 → sdM → Prop) (M : sdM) (s0 : Int32) : Prop := sdB s0 ∧ Q s0 M
set_option maxHeartbeats 1000000 in
theorem t_O_isDown_19 (hA : sd_ad b n ad) (hT : l.stackTraces = false) (hO : isO n L dA) {Q : Int32 → sdM → Prop} (M : sdM) (s0 : Int32) (hw : k_O_isDown_19 Q M s0) : sdW l (sdE0 sc) Y_O_isDown D (sd_tys dA) b n ad L ad (sd_H D (sdE0 sc).1 n ad L) (sd_qi Q) sd_xf 19 [] [.int s0] M 0 0 := by
  unfold k_O_isDown_19 at hw
  exact x_zret d_O_isDown_19 rfl (sdB_n hw.1) (fun _ h => h) ⟨_, rfl, hw.2⟩
def k_O_isDown_14 (Q : Int32 → sdM → Prop) (M : sdM) : Prop := k_O_isDown_19 Q M (1 : Int32)
set_option maxHeartbeats 1000000 in
theorem t_O_isDown_14 (hA : sd_ad b n ad) (hT : l.stackTraces = false) (hO : isO n L dA) {Q : Int32 → sdM → Prop} (M : sdM) (hw : k_O_isDown_14 Q M ) : sdW l (sdE0 sc) Y_O_isDown D (sd_tys dA) b n ad L ad (sd_H D (sdE0 sc).1 n ad L) (sd_qi Q) sd_xf 14 [] [] M 0 0 := by
  unfold k_O_isDown_14 at hw
  refine x_iconst (v := 1) d_O_isDown_14 (by decide) ?_
  refine x_goto 19 d_O_isDown_15 rfl ?_
  exact t_O_isDown_19 hA hT hO M (1 : Int32) hw
def w_O_isDown (M : sdM) (Q : Int32 → sdM → Prop) : Prop := (¬ (M 116 25) = 0 → k_O_isDown_14 Q M) ∧ ((M 116 25) = 0 → (¬ (M 116 1) = 0 → k_O_isDown_19 Q M (0 : Int32)) ∧ ((M 116 1) = 0 → k_O_isDown_14 Q M))
set_option maxHeartbeats 1000000 in
theorem c_O_isDown (hA : sd_ad b n ad) (hT : l.stackTraces = false) (hO : isO n L dA) {Q : Int32 → sdM → Prop} {M : sdM} (hw : w_O_isDown M Q) : sd_Cn l (sdE0 sc) y_O_isDown Y_O_isDown.2.2.2.2.1 Y_O_isDown.2.2.2.2.2.1 0 0 D (sd_tys dA) b n ad L M [.ref 116] (sd_qi Q) sd_xf := by
  refine sd_enter (Y := Y_O_isDown) rfl rfl rfl rfl (Nat.le_of_ble_eq_true rfl) ?_
  show sdW l (sdE0 sc) Y_O_isDown D (sd_tys dA) b n ad L ad (sd_H D (sdE0 sc).1 n ad L) (sd_qi Q) sd_xf 0 [(0, .ref 116)] [] M 0 0
  unfold w_O_isDown at hw
  refine x_aload_n 0 0 d_O_isDown_0 rfl rfl ?_
  refine x_geti 25 d_O_isDown_1 hO.1 hO.2.1 rfl rfl (by decide) lay_O (List.mem_cons_of_mem _ q447) rfl ?_
  refine x_if_ne 14 d_O_isDown_4 rfl (fun hc => ?_) (fun hc => ?_)
  · have hw := hw.1 hc
    refine x_sub [] [] rfl ?_
    exact t_O_isDown_14 hA hT hO M hw
  · have hw := hw.2 hc
    refine x_aload_n 0 0 d_O_isDown_7 rfl rfl ?_
    refine x_geti 1 d_O_isDown_8 hO.1 hO.2.1 rfl rfl (by decide) lay_O (List.mem_cons_of_mem _ q448) rfl ?_
    refine x_if_ne 18 d_O_isDown_11 rfl (fun hc => ?_) (fun hc => ?_)
    · have hw := hw.1 hc
      refine x_iconst (v := 0) d_O_isDown_18 (by decide) ?_
      refine x_sub [] [] rfl ?_
      exact t_O_isDown_19 hA hT hO M (0 : Int32) hw
    · have hw := hw.2 hc
      refine x_sub [] [] rfl ?_
      exact t_O_isDown_14 hA hT hO M hw
end
abbrev y_O_isSession : MethodName := ⟨"SettingsDeskModel", "isSession", "(I)Z"⟩
theorem d_O_isSession_0 : decode prog_12_method_5_code 0 = .ok (.iload_n 0, 1) := by decide +kernel
theorem d_O_isSession_1 : decode prog_12_method_5_code 1 = .ok (.ifCond .lt (12), 3) := by decide +kernel
theorem d_O_isSession_4 : decode prog_12_method_5_code 4 = .ok (.iload_n 0, 1) := by decide +kernel
theorem d_O_isSession_5 : decode prog_12_method_5_code 5 = .ok (.iconst 3, 1) := by decide +kernel
theorem d_O_isSession_6 : decode prog_12_method_5_code 6 = .ok (.if_icmp .ge (7), 3) := by decide +kernel
theorem d_O_isSession_9 : decode prog_12_method_5_code 9 = .ok (.iconst 1, 1) := by decide +kernel
theorem d_O_isSession_10 : decode prog_12_method_5_code 10 = .ok (.goto (4), 3) := by decide +kernel
theorem d_O_isSession_13 : decode prog_12_method_5_code 13 = .ok (.iconst 0, 1) := by decide +kernel
theorem d_O_isSession_14 : decode prog_12_method_5_code 14 = .ok (.ireturn, 1) := by decide +kernel
def Y_O_isSession : sdY := ("SettingsDeskModel", prog_12_method_5_code, 1, (some .boolean), .code y_O_isSession prog_12_method_5_code 1 (some .boolean) :: sdB0, { frames := 0, cells := 0, slots := 0, locals := 0 }, 0, 0, [])
section
variable {l : Launch} {D : va_G} {dA : Nat → ClassId} {b n : Nat} {ad : Nat → Nat} {L : Nat → sdL} {sc : Option (Nat × Nat × (Nat → Int32))}
def k_O_isSession_14 (Q : Int32 → sdM → Prop) (M : sdM) (s0 : Int32) : Prop := sdB s0 ∧ Q s0 M
set_option maxHeartbeats 1000000 in
theorem t_O_isSession_14 (hA : sd_ad b n ad) (hT : l.stackTraces = false) {Q : Int32 → sdM → Prop} (M : sdM) (s0 : Int32) (hw : k_O_isSession_14 Q M s0) : sdW l (sdE0 sc) Y_O_isSession D (sd_tys dA) b n ad L ad (sd_H D (sdE0 sc).1 n ad L) (sd_qi Q) sd_xf 14 [] [.int s0] M 0 0 := by
  unfold k_O_isSession_14 at hw
  exact x_zret d_O_isSession_14 rfl (sdB_n hw.1) (fun _ h => h) ⟨_, rfl, hw.2⟩
def k_O_isSession_13 (Q : Int32 → sdM → Prop) (M : sdM) : Prop := k_O_isSession_14 Q M (0 : Int32)
set_option maxHeartbeats 1000000 in
theorem t_O_isSession_13 (hA : sd_ad b n ad) (hT : l.stackTraces = false) {Q : Int32 → sdM → Prop} (M : sdM) (hw : k_O_isSession_13 Q M ) : sdW l (sdE0 sc) Y_O_isSession D (sd_tys dA) b n ad L ad (sd_H D (sdE0 sc).1 n ad L) (sd_qi Q) sd_xf 13 [] [] M 0 0 := by
  unfold k_O_isSession_13 at hw
  refine x_iconst (v := 0) d_O_isSession_13 (by decide) ?_
  exact t_O_isSession_14 hA hT M (0 : Int32) hw
def w_O_isSession (M : sdM) (a0 : Int32) (Q : Int32 → sdM → Prop) : Prop := (a0 < 0 → k_O_isSession_13 Q M) ∧ (¬ a0 < 0 → ((3 : Int32) ≤ a0 → k_O_isSession_13 Q M) ∧ (¬ (3 : Int32) ≤ a0 → k_O_isSession_14 Q M (1 : Int32)))
set_option maxHeartbeats 1000000 in
theorem c_O_isSession {a0 : Int32} (hA : sd_ad b n ad) (hT : l.stackTraces = false) {Q : Int32 → sdM → Prop} {M : sdM} (hw : w_O_isSession M a0 Q) : sd_Cn l (sdE0 sc) y_O_isSession Y_O_isSession.2.2.2.2.1 Y_O_isSession.2.2.2.2.2.1 0 0 D (sd_tys dA) b n ad L M [.int a0] (sd_qi Q) sd_xf := by
  refine sd_enter (Y := Y_O_isSession) rfl rfl rfl rfl (Nat.le_of_ble_eq_true rfl) ?_
  show sdW l (sdE0 sc) Y_O_isSession D (sd_tys dA) b n ad L ad (sd_H D (sdE0 sc).1 n ad L) (sd_qi Q) sd_xf 0 [(0, .int a0)] [] M 0 0
  unfold w_O_isSession at hw
  refine x_iload_n 0 0 d_O_isSession_0 rfl rfl ?_
  refine x_if_lt 13 d_O_isSession_1 rfl (fun hc => ?_) (fun hc => ?_)
  · have hw := hw.1 hc
    refine x_sub [] [] rfl ?_
    exact t_O_isSession_13 hA hT M hw
  · have hw := hw.2 hc
    refine x_iload_n 0 0 d_O_isSession_4 rfl rfl ?_
    refine x_iconst (v := 3) d_O_isSession_5 (by decide) ?_
    refine x_icmp_ge 13 d_O_isSession_6 rfl (fun hc => ?_) (fun hc => ?_)
    · have hw := hw.1 hc
      refine x_sub [] [] rfl ?_
      exact t_O_isSession_13 hA hT M hw
    · have hw := hw.2 hc
      refine x_iconst (v := 1) d_O_isSession_9 (by decide) ?_
      refine x_goto 14 d_O_isSession_10 rfl ?_
      refine x_sub [] [] rfl ?_
      exact t_O_isSession_14 hA hT M (1 : Int32) hw
end
abbrev y_O_put : MethodName := ⟨"SettingsDeskModel", "put", "(II)V"⟩
theorem d_O_put_0 : decode prog_12_method_12_code 0 = .ok (.aload_n 0, 1) := by decide +kernel
theorem d_O_put_1 : decode prog_12_method_12_code 1 = .ok (.getfield 54, 3) := by decide +kernel
theorem d_O_put_4 : decode prog_12_method_12_code 4 = .ok (.iload_n 2, 1) := by decide +kernel
theorem d_O_put_5 : decode prog_12_method_12_code 5 = .ok (.aload_n 0, 1) := by decide +kernel
theorem d_O_put_6 : decode prog_12_method_12_code 6 = .ok (.getfield 54, 3) := by decide +kernel
theorem d_O_put_9 : decode prog_12_method_12_code 9 = .ok (.iload_n 1, 1) := by decide +kernel
theorem d_O_put_10 : decode prog_12_method_12_code 10 = .ok (.iaload, 1) := by decide +kernel
theorem d_O_put_11 : decode prog_12_method_12_code 11 = .ok (.iastore, 1) := by decide +kernel
theorem d_O_put_12 : decode prog_12_method_12_code 12 = .ok (.aload_n 0, 1) := by decide +kernel
theorem d_O_put_13 : decode prog_12_method_12_code 13 = .ok (.getfield 57, 3) := by decide +kernel
theorem d_O_put_16 : decode prog_12_method_12_code 16 = .ok (.iload_n 2, 1) := by decide +kernel
theorem d_O_put_17 : decode prog_12_method_12_code 17 = .ok (.aload_n 0, 1) := by decide +kernel
theorem d_O_put_18 : decode prog_12_method_12_code 18 = .ok (.getfield 57, 3) := by decide +kernel
theorem d_O_put_21 : decode prog_12_method_12_code 21 = .ok (.iload_n 1, 1) := by decide +kernel
theorem d_O_put_22 : decode prog_12_method_12_code 22 = .ok (.iaload, 1) := by decide +kernel
theorem d_O_put_23 : decode prog_12_method_12_code 23 = .ok (.iastore, 1) := by decide +kernel
theorem d_O_put_24 : decode prog_12_method_12_code 24 = .ok (.iconst 0, 1) := by decide +kernel
theorem d_O_put_25 : decode prog_12_method_12_code 25 = .ok (.istore_n 3, 1) := by decide +kernel
theorem d_O_put_26 : decode prog_12_method_12_code 26 = .ok (.iload_n 3, 1) := by decide +kernel
theorem d_O_put_27 : decode prog_12_method_12_code 27 = .ok (.iconst 4, 1) := by decide +kernel
theorem d_O_put_28 : decode prog_12_method_12_code 28 = .ok (.if_icmp .ge (29), 3) := by decide +kernel
theorem d_O_put_31 : decode prog_12_method_12_code 31 = .ok (.aload_n 0, 1) := by decide +kernel
theorem d_O_put_32 : decode prog_12_method_12_code 32 = .ok (.getfield 60, 3) := by decide +kernel
theorem d_O_put_35 : decode prog_12_method_12_code 35 = .ok (.iconst 4, 1) := by decide +kernel
theorem d_O_put_36 : decode prog_12_method_12_code 36 = .ok (.iload_n 2, 1) := by decide +kernel
theorem d_O_put_37 : decode prog_12_method_12_code 37 = .ok (.imul, 1) := by decide +kernel
theorem d_O_put_38 : decode prog_12_method_12_code 38 = .ok (.iload_n 3, 1) := by decide +kernel
theorem d_O_put_39 : decode prog_12_method_12_code 39 = .ok (.iadd, 1) := by decide +kernel
theorem d_O_put_40 : decode prog_12_method_12_code 40 = .ok (.aload_n 0, 1) := by decide +kernel
theorem d_O_put_41 : decode prog_12_method_12_code 41 = .ok (.getfield 60, 3) := by decide +kernel
theorem d_O_put_44 : decode prog_12_method_12_code 44 = .ok (.iconst 4, 1) := by decide +kernel
theorem d_O_put_45 : decode prog_12_method_12_code 45 = .ok (.iload_n 1, 1) := by decide +kernel
theorem d_O_put_46 : decode prog_12_method_12_code 46 = .ok (.imul, 1) := by decide +kernel
theorem d_O_put_47 : decode prog_12_method_12_code 47 = .ok (.iload_n 3, 1) := by decide +kernel
theorem d_O_put_48 : decode prog_12_method_12_code 48 = .ok (.iadd, 1) := by decide +kernel
theorem d_O_put_49 : decode prog_12_method_12_code 49 = .ok (.iaload, 1) := by decide +kernel
theorem d_O_put_50 : decode prog_12_method_12_code 50 = .ok (.iastore, 1) := by decide +kernel
theorem d_O_put_51 : decode prog_12_method_12_code 51 = .ok (.iinc 3 (1), 3) := by decide +kernel
theorem d_O_put_54 : decode prog_12_method_12_code 54 = .ok (.goto (-28), 3) := by decide +kernel
theorem d_O_put_57 : decode prog_12_method_12_code 57 = .ok (.return_, 1) := by decide +kernel
def Y_O_put : sdY := ("SettingsDeskModel", prog_12_method_12_code, 4, none, .code y_O_put prog_12_method_12_code 4 none :: sdB0, { frames := 0, cells := 0, slots := 0, locals := 0 }, 0, 0, [])
section
variable {l : Launch} {D : va_G} {dA : Nat → ClassId} {b n : Nat} {ad : Nat → Nat} {L : Nat → sdL} {sc : Option (Nat × Nat × (Nat → Int32))}
def h_O_put_26 (Q : sdM → Prop) : Nat → sdM → Int32 → Int32 → Int32 → Prop
  | 0, _, _, _, _ => False
  | N + 1, M, x1, x2, x3 => ((4 : Int32) ≤ x3 → Q M) ∧ (¬ (4 : Int32) ≤ x3 → vp_in (((4 : Int32) * x1) + x3) 3264 ∧ vp_in (((4 : Int32) * x2) + x3) 3264 ∧ ∀ M15 : sdM, M15 = sd_s M 132 (((4 : Int32) * x2) + x3).toNatClampNeg (M 132 (((4 : Int32) * x1) + x3).toNatClampNeg) → h_O_put_26 Q N M15 x1 x2 (x3 + 1))
set_option maxHeartbeats 1000000 in
theorem t_O_put_26 (hA : sd_ad b n ad) (hT : l.stackTraces = false) (hO : isO n L dA) {Q : sdM → Prop} (N : Nat) : ∀ (M : sdM) (x1 : Int32) (x2 : Int32) (x3 : Int32), h_O_put_26 Q N M x1 x2 x3 → sdW l (sdE0 sc) Y_O_put D (sd_tys dA) b n ad L ad (sd_H D (sdE0 sc).1 n ad L) (sd_qv Q) sd_xf 26 [(0, .ref 116), (1, .int x1), (2, .int x2), (3, .int x3)] [] M 0 0 := by
  induction N with
  | zero => intro M x1 x2 x3 hw; exact hw.elim
  | succ N ih =>
    intro M x1 x2 x3 hw
    rw [h_O_put_26] at hw
    refine x_iload_n 3 3 d_O_put_26 rfl rfl ?_
    refine x_iconst (v := 4) d_O_put_27 (by decide) ?_
    refine x_icmp_ge 57 d_O_put_28 rfl (fun hc => ?_) (fun hc => ?_)
    · have hw := hw.1 hc
      exact x_vret d_O_put_57 rfl (fun _ h => h) ⟨rfl, hw⟩
    · have hw := hw.2 hc
      refine x_aload_n 0 0 d_O_put_31 rfl rfl ?_
      refine x_getr 19 132 d_O_put_32 hO.1 hO.2.1 rfl rfl (by decide) lay_O (List.mem_cons_of_mem _ q477) rfl ?_
      refine x_iconst (v := 4) d_O_put_35 (by decide) ?_
      refine x_iload_n 2 2 d_O_put_36 rfl rfl ?_
      refine x_imul d_O_put_37 ?_
      refine x_iload_n 3 3 d_O_put_38 rfl rfl ?_
      refine x_iadd d_O_put_39 ?_
      refine x_aload_n 0 0 d_O_put_40 rfl rfl ?_
      refine x_getr 19 132 d_O_put_41 hO.1 hO.2.1 rfl rfl (by decide) lay_O (List.mem_cons_of_mem _ q477) rfl ?_
      refine x_iconst (v := 4) d_O_put_44 (by decide) ?_
      refine x_iload_n 1 1 d_O_put_45 rfl rfl ?_
      refine x_imul d_O_put_46 ?_
      refine x_iload_n 3 3 d_O_put_47 rfl rfl ?_
      refine x_iadd d_O_put_48 ?_
      obtain ⟨hi13, hw⟩ := hw
      refine x_iald d_O_put_49 hO.values.1 hO.values.2 rfl hi13 ?_
      obtain ⟨hi14, hw⟩ := hw
      refine x_iast hA d_O_put_50 hO.values.1 hO.values.2 rfl hi14 (fun M15 e16 => ?_)
      have hw := hw M15 e16
      clear e16
      refine x_iinc 3 3 [(3, .int (x3 + 1)), (0, .ref 116), (1, .int x1), (2, .int x2)] d_O_put_51 rfl (congrArg (HAdd.hAdd x3) (show Int32.ofInt 1 = 1 by decide)) (by decide) rfl ?_
      refine x_goto 26 d_O_put_54 rfl ?_
      refine x_sub [1, 2, 3, 0] [(0, .ref 116), (1, .int x1), (2, .int x2), (3, .int (x3 + 1))] rfl ?_
      exact ih M15 x1 x2 (x3 + 1) hw
def w_O_put (M : sdM) (a1 : Int32) (a2 : Int32) (Q : sdM → Prop) : Prop := vp_in a1 816 ∧ vp_in a2 816 ∧ ∀ M19 : sdM, M19 = sd_s M 130 a2.toNatClampNeg (M 130 a1.toNatClampNeg) → vp_in a1 816 ∧ vp_in a2 816 ∧ ∀ M23 : sdM, M23 = sd_s M19 131 a2.toNatClampNeg (M19 131 a1.toNatClampNeg) → ∃ N9 : Nat, h_O_put_26 Q N9 M23 a1 a2 (0 : Int32)
set_option maxHeartbeats 1000000 in
theorem c_O_put {a1 : Int32} {a2 : Int32} (hA : sd_ad b n ad) (hT : l.stackTraces = false) (hO : isO n L dA) {Q : sdM → Prop} {M : sdM} (hw : w_O_put M a1 a2 Q) : sd_Cn l (sdE0 sc) y_O_put Y_O_put.2.2.2.2.1 Y_O_put.2.2.2.2.2.1 0 0 D (sd_tys dA) b n ad L M [.ref 116, .int a1, .int a2] (sd_qv Q) sd_xf := by
  refine sd_enter (Y := Y_O_put) rfl rfl rfl rfl (Nat.le_of_ble_eq_true rfl) ?_
  show sdW l (sdE0 sc) Y_O_put D (sd_tys dA) b n ad L ad (sd_H D (sdE0 sc).1 n ad L) (sd_qv Q) sd_xf 0 [(0, .ref 116), (1, .int a1), (2, .int a2)] [] M 0 0
  unfold w_O_put at hw
  refine x_aload_n 0 0 d_O_put_0 rfl rfl ?_
  refine x_getr 17 130 d_O_put_1 hO.1 hO.2.1 rfl rfl (by decide) lay_O (List.mem_cons_of_mem _ q479) rfl ?_
  refine x_iload_n 2 2 d_O_put_4 rfl rfl ?_
  refine x_aload_n 0 0 d_O_put_5 rfl rfl ?_
  refine x_getr 17 130 d_O_put_6 hO.1 hO.2.1 rfl rfl (by decide) lay_O (List.mem_cons_of_mem _ q479) rfl ?_
  refine x_iload_n 1 1 d_O_put_9 rfl rfl ?_
  obtain ⟨hi17, hw⟩ := hw
  refine x_iald d_O_put_10 hO.keys.1 hO.keys.2 rfl hi17 ?_
  obtain ⟨hi18, hw⟩ := hw
  refine x_iast hA d_O_put_11 hO.keys.1 hO.keys.2 rfl hi18 (fun M19 e20 => ?_)
  have hw := hw M19 e20
  clear e20
  refine x_aload_n 0 0 d_O_put_12 rfl rfl ?_
  refine x_getr 18 131 d_O_put_13 hO.1 hO.2.1 rfl rfl (by decide) lay_O (List.mem_cons_of_mem _ q472) rfl ?_
  refine x_iload_n 2 2 d_O_put_16 rfl rfl ?_
  refine x_aload_n 0 0 d_O_put_17 rfl rfl ?_
  refine x_getr 18 131 d_O_put_18 hO.1 hO.2.1 rfl rfl (by decide) lay_O (List.mem_cons_of_mem _ q472) rfl ?_
  refine x_iload_n 1 1 d_O_put_21 rfl rfl ?_
  obtain ⟨hi21, hw⟩ := hw
  refine x_iald d_O_put_22 hO.bits.1 hO.bits.2 rfl hi21 ?_
  obtain ⟨hi22, hw⟩ := hw
  refine x_iast hA d_O_put_23 hO.bits.1 hO.bits.2 rfl hi22 (fun M23 e24 => ?_)
  have hw := hw M23 e24
  clear e24
  refine x_iconst (v := 0) d_O_put_24 (by decide) ?_
  refine x_istore_n 3 [(3, .int (0 : Int32)), (0, .ref 116), (1, .int a1), (2, .int a2)] d_O_put_25 rfl (by decide) rfl ?_
  refine x_sub [1, 2, 3, 0] [(0, .ref 116), (1, .int a1), (2, .int a2), (3, .int (0 : Int32))] rfl ?_
  obtain ⟨N9, hw⟩ := hw
  exact t_O_put_26 hA hT hO N9 M23 a1 a2 (0 : Int32) hw
end
theorem q515 : (.methodLink "SettingsDeskModel" 94 ⟨"SettingsDeskModel", "put", "(II)V"⟩ : Cond) ∈ sdB0 := sd_tb5 109 rfl rfl
theorem q516 : (.code ⟨"SettingsDeskModel", "put", "(II)V"⟩ prog_12_method_12_code 4 none : Cond) ∈ sdB0 := sd_tb5 112 rfl rfl
theorem q517 : (.instanceMethod ⟨"SettingsDeskModel", "put", "(II)V"⟩ : Cond) ∈ sdB0 := sd_tb5 111 rfl rfl
theorem q518 : (.selects "SettingsDeskModel" ⟨"SettingsDeskModel", "put", "(II)V"⟩ ⟨"SettingsDeskModel", "put", "(II)V"⟩ : Cond) ∈ sdB0 := sd_tbp (q := (⟨"SettingsDeskModel", "put", "(II)V"⟩, 35)) (List.mem_of_getElem? (i := 28) rfl)
abbrev y_O_copy : MethodName := ⟨"SettingsDeskModel", "copy", "(II)V"⟩
theorem d_O_copy_0 : decode prog_12_method_13_code 0 = .ok (.iconst 0, 1) := by decide +kernel
theorem d_O_copy_1 : decode prog_12_method_13_code 1 = .ok (.istore_n 3, 1) := by decide +kernel
theorem d_O_copy_2 : decode prog_12_method_13_code 2 = .ok (.iload_n 3, 1) := by decide +kernel
theorem d_O_copy_3 : decode prog_12_method_13_code 3 = .ok (.iconst 4, 1) := by decide +kernel
theorem d_O_copy_4 : decode prog_12_method_13_code 4 = .ok (.if_icmp .ge (29), 3) := by decide +kernel
theorem d_O_copy_7 : decode prog_12_method_13_code 7 = .ok (.aload_n 0, 1) := by decide +kernel
theorem d_O_copy_8 : decode prog_12_method_13_code 8 = .ok (.getfield 51, 3) := by decide +kernel
theorem d_O_copy_11 : decode prog_12_method_13_code 11 = .ok (.iconst 4, 1) := by decide +kernel
theorem d_O_copy_12 : decode prog_12_method_13_code 12 = .ok (.iload_n 2, 1) := by decide +kernel
theorem d_O_copy_13 : decode prog_12_method_13_code 13 = .ok (.imul, 1) := by decide +kernel
theorem d_O_copy_14 : decode prog_12_method_13_code 14 = .ok (.iload_n 3, 1) := by decide +kernel
theorem d_O_copy_15 : decode prog_12_method_13_code 15 = .ok (.iadd, 1) := by decide +kernel
theorem d_O_copy_16 : decode prog_12_method_13_code 16 = .ok (.aload_n 0, 1) := by decide +kernel
theorem d_O_copy_17 : decode prog_12_method_13_code 17 = .ok (.getfield 51, 3) := by decide +kernel
theorem d_O_copy_20 : decode prog_12_method_13_code 20 = .ok (.iconst 4, 1) := by decide +kernel
theorem d_O_copy_21 : decode prog_12_method_13_code 21 = .ok (.iload_n 1, 1) := by decide +kernel
theorem d_O_copy_22 : decode prog_12_method_13_code 22 = .ok (.imul, 1) := by decide +kernel
theorem d_O_copy_23 : decode prog_12_method_13_code 23 = .ok (.iload_n 3, 1) := by decide +kernel
theorem d_O_copy_24 : decode prog_12_method_13_code 24 = .ok (.iadd, 1) := by decide +kernel
theorem d_O_copy_25 : decode prog_12_method_13_code 25 = .ok (.iaload, 1) := by decide +kernel
theorem d_O_copy_26 : decode prog_12_method_13_code 26 = .ok (.iastore, 1) := by decide +kernel
theorem d_O_copy_27 : decode prog_12_method_13_code 27 = .ok (.iinc 3 (1), 3) := by decide +kernel
theorem d_O_copy_30 : decode prog_12_method_13_code 30 = .ok (.goto (-28), 3) := by decide +kernel
theorem d_O_copy_33 : decode prog_12_method_13_code 33 = .ok (.iconst 0, 1) := by decide +kernel
theorem d_O_copy_34 : decode prog_12_method_13_code 34 = .ok (.istore_n 3, 1) := by decide +kernel
theorem d_O_copy_35 : decode prog_12_method_13_code 35 = .ok (.iload_n 3, 1) := by decide +kernel
theorem d_O_copy_36 : decode prog_12_method_13_code 36 = .ok (.bipush (48), 2) := by decide +kernel
theorem d_O_copy_38 : decode prog_12_method_13_code 38 = .ok (.if_icmp .ge (25), 3) := by decide +kernel
theorem d_O_copy_41 : decode prog_12_method_13_code 41 = .ok (.aload_n 0, 1) := by decide +kernel
theorem d_O_copy_42 : decode prog_12_method_13_code 42 = .ok (.bipush (48), 2) := by decide +kernel
theorem d_O_copy_44 : decode prog_12_method_13_code 44 = .ok (.iload_n 1, 1) := by decide +kernel
theorem d_O_copy_45 : decode prog_12_method_13_code 45 = .ok (.imul, 1) := by decide +kernel
theorem d_O_copy_46 : decode prog_12_method_13_code 46 = .ok (.iload_n 3, 1) := by decide +kernel
theorem d_O_copy_47 : decode prog_12_method_13_code 47 = .ok (.iadd, 1) := by decide +kernel
theorem d_O_copy_48 : decode prog_12_method_13_code 48 = .ok (.bipush (48), 2) := by decide +kernel
theorem d_O_copy_50 : decode prog_12_method_13_code 50 = .ok (.iload_n 2, 1) := by decide +kernel
theorem d_O_copy_51 : decode prog_12_method_13_code 51 = .ok (.imul, 1) := by decide +kernel
theorem d_O_copy_52 : decode prog_12_method_13_code 52 = .ok (.iload_n 3, 1) := by decide +kernel
theorem d_O_copy_53 : decode prog_12_method_13_code 53 = .ok (.iadd, 1) := by decide +kernel
theorem d_O_copy_54 : decode prog_12_method_13_code 54 = .ok (.invokevirtual 94, 3) := by decide +kernel
theorem d_O_copy_57 : decode prog_12_method_13_code 57 = .ok (.iinc 3 (1), 3) := by decide +kernel
theorem d_O_copy_60 : decode prog_12_method_13_code 60 = .ok (.goto (-25), 3) := by decide +kernel
theorem d_O_copy_63 : decode prog_12_method_13_code 63 = .ok (.return_, 1) := by decide +kernel
def Y_O_copy : sdY := ("SettingsDeskModel", prog_12_method_13_code, 4, none, .code y_O_copy prog_12_method_13_code 4 none :: sdB0, { frames := 1, cells := 0, slots := 0, locals := 23 }, 0, 0, [])
theorem cw_O_copy_O_put_94 : sd_cwV Y_O_copy Y_O_put y_O_put 94 2 "SettingsDeskModel" := ⟨sd_goodV q515 q517 q518 q459 q516, ⟨_, rfl⟩, ⟨rfl, rfl, rfl, rfl⟩, ⟨rfl, by decide, by decide, by decide +kernel⟩, ⟨by decide, by decide⟩⟩
section
variable {l : Launch} {D : va_G} {dA : Nat → ClassId} {b n : Nat} {ad : Nat → Nat} {L : Nat → sdL} {sc : Option (Nat × Nat × (Nat → Int32))}
def h_O_copy_35 (Q : sdM → Prop) : Nat → sdM → Int32 → Int32 → Int32 → Prop
  | 0, _, _, _, _ => False
  | N + 1, M, x1, x2, x3 => ((48 : Int32) ≤ x3 → Q M) ∧ (¬ (48 : Int32) ≤ x3 → w_O_put M (((48 : Int32) * x1) + x3) (((48 : Int32) * x2) + x3) (fun M6 => h_O_copy_35 Q N M6 x1 x2 (x3 + 1)))
set_option maxHeartbeats 1000000 in
theorem t_O_copy_35 (hA : sd_ad b n ad) (hT : l.stackTraces = false) (hO : isO n L dA) {Q : sdM → Prop} (N : Nat) : ∀ (M : sdM) (x1 : Int32) (x2 : Int32) (x3 : Int32), h_O_copy_35 Q N M x1 x2 x3 → sdW l (sdE0 sc) Y_O_copy D (sd_tys dA) b n ad L ad (sd_H D (sdE0 sc).1 n ad L) (sd_qv Q) sd_xf 35 [(0, .ref 116), (1, .int x1), (2, .int x2), (3, .int x3)] [] M 0 0 := by
  induction N with
  | zero => intro M x1 x2 x3 hw; exact hw.elim
  | succ N ih =>
    intro M x1 x2 x3 hw
    rw [h_O_copy_35] at hw
    refine x_iload_n 3 3 d_O_copy_35 rfl rfl ?_
    refine x_bipush (v := 48) d_O_copy_36 (by decide) ?_
    refine x_icmp_ge 63 d_O_copy_38 rfl (fun hc => ?_) (fun hc => ?_)
    · have hw := hw.1 hc
      exact x_vret d_O_copy_63 rfl (fun _ h => h) ⟨rfl, hw⟩
    · have hw := hw.2 hc
      refine x_aload_n 0 0 d_O_copy_41 rfl rfl ?_
      refine x_bipush (v := 48) d_O_copy_42 (by decide) ?_
      refine x_iload_n 1 1 d_O_copy_44 rfl rfl ?_
      refine x_imul d_O_copy_45 ?_
      refine x_iload_n 3 3 d_O_copy_46 rfl rfl ?_
      refine x_iadd d_O_copy_47 ?_
      refine x_bipush (v := 48) d_O_copy_48 (by decide) ?_
      refine x_iload_n 2 2 d_O_copy_50 rfl rfl ?_
      refine x_imul d_O_copy_51 ?_
      refine x_iload_n 3 3 d_O_copy_52 rfl rfl ?_
      refine x_iadd d_O_copy_53 ?_
      refine x_callVv (As := [.int (((48 : Int32) * x1) + x3), .int (((48 : Int32) * x2) + x3)]) (t := 116) (rest := []) (rc := 0) (rs := 0) (c_O_put hA hT hO hw) cw_O_copy_O_put_94 hO.1 hO.2.1 rfl d_O_copy_54 rfl rfl (Nat.le_of_ble_eq_true rfl) rfl (fun _ _ h => h.elim) (fun _ _ h => h) (fun M6 hw => ?_)
      refine x_iinc 3 3 [(3, .int (x3 + 1)), (0, .ref 116), (1, .int x1), (2, .int x2)] d_O_copy_57 rfl (congrArg (HAdd.hAdd x3) (show Int32.ofInt 1 = 1 by decide)) (by decide) rfl ?_
      refine x_goto 35 d_O_copy_60 rfl ?_
      refine x_sub [1, 2, 3, 0] [(0, .ref 116), (1, .int x1), (2, .int x2), (3, .int (x3 + 1))] rfl ?_
      exact ih M6 x1 x2 (x3 + 1) hw
def h_O_copy_2 (Q : sdM → Prop) : Nat → sdM → Int32 → Int32 → Int32 → Prop
  | 0, _, _, _, _ => False
  | N + 1, M, x1, x2, x3 => ((4 : Int32) ≤ x3 → ∃ N9 : Nat, h_O_copy_35 Q N9 M x1 x2 (0 : Int32)) ∧ (¬ (4 : Int32) ≤ x3 → vp_in (((4 : Int32) * x1) + x3) 68 ∧ vp_in (((4 : Int32) * x2) + x3) 68 ∧ ∀ M9 : sdM, M9 = sd_s M 129 (((4 : Int32) * x2) + x3).toNatClampNeg (M 129 (((4 : Int32) * x1) + x3).toNatClampNeg) → h_O_copy_2 Q N M9 x1 x2 (x3 + 1))
set_option maxHeartbeats 1000000 in
theorem t_O_copy_2 (hA : sd_ad b n ad) (hT : l.stackTraces = false) (hO : isO n L dA) {Q : sdM → Prop} (N : Nat) : ∀ (M : sdM) (x1 : Int32) (x2 : Int32) (x3 : Int32), h_O_copy_2 Q N M x1 x2 x3 → sdW l (sdE0 sc) Y_O_copy D (sd_tys dA) b n ad L ad (sd_H D (sdE0 sc).1 n ad L) (sd_qv Q) sd_xf 2 [(0, .ref 116), (1, .int x1), (2, .int x2), (3, .int x3)] [] M 0 0 := by
  induction N with
  | zero => intro M x1 x2 x3 hw; exact hw.elim
  | succ N ih =>
    intro M x1 x2 x3 hw
    rw [h_O_copy_2] at hw
    refine x_iload_n 3 3 d_O_copy_2 rfl rfl ?_
    refine x_iconst (v := 4) d_O_copy_3 (by decide) ?_
    refine x_icmp_ge 33 d_O_copy_4 rfl (fun hc => ?_) (fun hc => ?_)
    · have hw := hw.1 hc
      refine x_iconst (v := 0) d_O_copy_33 (by decide) ?_
      refine x_istore_n 3 [(3, .int (0 : Int32)), (0, .ref 116), (1, .int x1), (2, .int x2)] d_O_copy_34 rfl (by decide) rfl ?_
      refine x_sub [1, 2, 3, 0] [(0, .ref 116), (1, .int x1), (2, .int x2), (3, .int (0 : Int32))] rfl ?_
      obtain ⟨N9, hw⟩ := hw
      exact t_O_copy_35 hA hT hO N9 M x1 x2 (0 : Int32) hw
    · have hw := hw.2 hc
      refine x_aload_n 0 0 d_O_copy_7 rfl rfl ?_
      refine x_getr 16 129 d_O_copy_8 hO.1 hO.2.1 rfl rfl (by decide) lay_O (List.mem_cons_of_mem _ q478) rfl ?_
      refine x_iconst (v := 4) d_O_copy_11 (by decide) ?_
      refine x_iload_n 2 2 d_O_copy_12 rfl rfl ?_
      refine x_imul d_O_copy_13 ?_
      refine x_iload_n 3 3 d_O_copy_14 rfl rfl ?_
      refine x_iadd d_O_copy_15 ?_
      refine x_aload_n 0 0 d_O_copy_16 rfl rfl ?_
      refine x_getr 16 129 d_O_copy_17 hO.1 hO.2.1 rfl rfl (by decide) lay_O (List.mem_cons_of_mem _ q478) rfl ?_
      refine x_iconst (v := 4) d_O_copy_20 (by decide) ?_
      refine x_iload_n 1 1 d_O_copy_21 rfl rfl ?_
      refine x_imul d_O_copy_22 ?_
      refine x_iload_n 3 3 d_O_copy_23 rfl rfl ?_
      refine x_iadd d_O_copy_24 ?_
      obtain ⟨hi7, hw⟩ := hw
      refine x_iald d_O_copy_25 hO.sizes.1 hO.sizes.2 rfl hi7 ?_
      obtain ⟨hi8, hw⟩ := hw
      refine x_iast hA d_O_copy_26 hO.sizes.1 hO.sizes.2 rfl hi8 (fun M9 e10 => ?_)
      have hw := hw M9 e10
      clear e10
      refine x_iinc 3 3 [(3, .int (x3 + 1)), (0, .ref 116), (1, .int x1), (2, .int x2)] d_O_copy_27 rfl (congrArg (HAdd.hAdd x3) (show Int32.ofInt 1 = 1 by decide)) (by decide) rfl ?_
      refine x_goto 2 d_O_copy_30 rfl ?_
      refine x_sub [1, 2, 3, 0] [(0, .ref 116), (1, .int x1), (2, .int x2), (3, .int (x3 + 1))] rfl ?_
      exact ih M9 x1 x2 (x3 + 1) hw
def w_O_copy (M : sdM) (a1 : Int32) (a2 : Int32) (Q : sdM → Prop) : Prop := ∃ N9 : Nat, h_O_copy_2 Q N9 M a1 a2 (0 : Int32)
set_option maxHeartbeats 1000000 in
theorem c_O_copy {a1 : Int32} {a2 : Int32} (hA : sd_ad b n ad) (hT : l.stackTraces = false) (hO : isO n L dA) {Q : sdM → Prop} {M : sdM} (hw : w_O_copy M a1 a2 Q) : sd_Cn l (sdE0 sc) y_O_copy Y_O_copy.2.2.2.2.1 Y_O_copy.2.2.2.2.2.1 0 0 D (sd_tys dA) b n ad L M [.ref 116, .int a1, .int a2] (sd_qv Q) sd_xf := by
  refine sd_enter (Y := Y_O_copy) rfl rfl rfl rfl (Nat.le_of_ble_eq_true rfl) ?_
  show sdW l (sdE0 sc) Y_O_copy D (sd_tys dA) b n ad L ad (sd_H D (sdE0 sc).1 n ad L) (sd_qv Q) sd_xf 0 [(0, .ref 116), (1, .int a1), (2, .int a2)] [] M 0 0
  unfold w_O_copy at hw
  refine x_iconst (v := 0) d_O_copy_0 (by decide) ?_
  refine x_istore_n 3 [(3, .int (0 : Int32)), (0, .ref 116), (1, .int a1), (2, .int a2)] d_O_copy_1 rfl (by decide) rfl ?_
  refine x_sub [1, 2, 3, 0] [(0, .ref 116), (1, .int a1), (2, .int a2), (3, .int (0 : Int32))] rfl ?_
  obtain ⟨N9, hw⟩ := hw
  exact t_O_copy_2 hA hT hO N9 M a1 a2 (0 : Int32) hw
end
theorem q519 : (.fieldLink "SettingsDeskModel" 63 "SettingsDeskModel" "begun" "[Z" : Cond) ∈ sdB0 := sd_tb4 181 rfl rfl
theorem q520 : (.methodLink "SettingsDeskModel" 153 ⟨"SettingsDeskModel", "isDown", "()Z"⟩ : Cond) ∈ sdB0 := sd_tb5 98 rfl rfl
theorem q521 : (.code ⟨"SettingsDeskModel", "isDown", "()Z"⟩ prog_12_method_28_code 1 (some .boolean) : Cond) ∈ sdB0 := sd_tb5 101 rfl rfl
theorem q522 : (.instanceMethod ⟨"SettingsDeskModel", "isDown", "()Z"⟩ : Cond) ∈ sdB0 := sd_tb5 100 rfl rfl
theorem q523 : (.selects "SettingsDeskModel" ⟨"SettingsDeskModel", "isDown", "()Z"⟩ ⟨"SettingsDeskModel", "isDown", "()Z"⟩ : Cond) ∈ sdB0 := sd_tbp (q := (⟨"SettingsDeskModel", "isDown", "()Z"⟩, 35)) (List.mem_of_getElem? (i := 26) rfl)
theorem q524 : (.methodLink "SettingsDeskModel" 157 ⟨"SettingsDeskModel", "isSession", "(I)Z"⟩ : Cond) ∈ sdB0 := sd_tb5 102 rfl rfl
theorem q525 : (.code ⟨"SettingsDeskModel", "isSession", "(I)Z"⟩ prog_12_method_5_code 1 (some .boolean) : Cond) ∈ sdB0 := sd_tb5 104 rfl rfl
theorem q526 : (.static ⟨"SettingsDeskModel", "isSession", "(I)Z"⟩ : Cond) ∈ sdB0 := sd_tb5 103 rfl rfl
theorem q527 : (.methodLink "SettingsDeskModel" 144 ⟨"SettingsDeskModel", "copy", "(II)V"⟩ : Cond) ∈ sdB0 := sd_tb5 105 rfl rfl
theorem q528 : (.code ⟨"SettingsDeskModel", "copy", "(II)V"⟩ prog_12_method_13_code 4 none : Cond) ∈ sdB0 := sd_tb5 108 rfl rfl
theorem q529 : (.instanceMethod ⟨"SettingsDeskModel", "copy", "(II)V"⟩ : Cond) ∈ sdB0 := sd_tb5 107 rfl rfl
theorem q530 : (.selects "SettingsDeskModel" ⟨"SettingsDeskModel", "copy", "(II)V"⟩ ⟨"SettingsDeskModel", "copy", "(II)V"⟩ : Cond) ∈ sdB0 := sd_tbp (q := (⟨"SettingsDeskModel", "copy", "(II)V"⟩, 35)) (List.mem_of_getElem? (i := 27) rfl)
abbrev y_O_begin : MethodName := ⟨"SettingsDeskModel", "begin", "(I)I"⟩
theorem d_O_begin_0 : decode prog_12_method_29_code 0 = .ok (.aload_n 0, 1) := by decide +kernel
theorem d_O_begin_1 : decode prog_12_method_29_code 1 = .ok (.aload_n 0, 1) := by decide +kernel
theorem d_O_begin_2 : decode prog_12_method_29_code 2 = .ok (.invokevirtual 153, 3) := by decide +kernel
theorem d_O_begin_5 : decode prog_12_method_29_code 5 = .ok (.ifCond .eq (7), 3) := by decide +kernel
theorem d_O_begin_8 : decode prog_12_method_29_code 8 = .ok (.iconst 1, 1) := by decide +kernel
theorem d_O_begin_9 : decode prog_12_method_29_code 9 = .ok (.goto (15), 3) := by decide +kernel
theorem d_O_begin_12 : decode prog_12_method_29_code 12 = .ok (.iload_n 1, 1) := by decide +kernel
theorem d_O_begin_13 : decode prog_12_method_29_code 13 = .ok (.invokestatic 157, 3) := by decide +kernel
theorem d_O_begin_16 : decode prog_12_method_29_code 16 = .ok (.ifCond .ne (7), 3) := by decide +kernel
theorem d_O_begin_19 : decode prog_12_method_29_code 19 = .ok (.iconst 2, 1) := by decide +kernel
theorem d_O_begin_20 : decode prog_12_method_29_code 20 = .ok (.goto (4), 3) := by decide +kernel
theorem d_O_begin_23 : decode prog_12_method_29_code 23 = .ok (.iconst 0, 1) := by decide +kernel
theorem d_O_begin_24 : decode prog_12_method_29_code 24 = .ok (.putfield 69, 3) := by decide +kernel
theorem d_O_begin_27 : decode prog_12_method_29_code 27 = .ok (.aload_n 0, 1) := by decide +kernel
theorem d_O_begin_28 : decode prog_12_method_29_code 28 = .ok (.getfield 69, 3) := by decide +kernel
theorem d_O_begin_31 : decode prog_12_method_29_code 31 = .ok (.ifCond .le (5), 3) := by decide +kernel
theorem d_O_begin_34 : decode prog_12_method_29_code 34 = .ok (.iconst 0, 1) := by decide +kernel
theorem d_O_begin_35 : decode prog_12_method_29_code 35 = .ok (.ireturn, 1) := by decide +kernel
theorem d_O_begin_36 : decode prog_12_method_29_code 36 = .ok (.aload_n 0, 1) := by decide +kernel
theorem d_O_begin_37 : decode prog_12_method_29_code 37 = .ok (.iconst 0, 1) := by decide +kernel
theorem d_O_begin_38 : decode prog_12_method_29_code 38 = .ok (.bipush (10), 2) := by decide +kernel
theorem d_O_begin_40 : decode prog_12_method_29_code 40 = .ok (.iload_n 1, 1) := by decide +kernel
theorem d_O_begin_41 : decode prog_12_method_29_code 41 = .ok (.iadd, 1) := by decide +kernel
theorem d_O_begin_42 : decode prog_12_method_29_code 42 = .ok (.invokevirtual 144, 3) := by decide +kernel
theorem d_O_begin_45 : decode prog_12_method_29_code 45 = .ok (.aload_n 0, 1) := by decide +kernel
theorem d_O_begin_46 : decode prog_12_method_29_code 46 = .ok (.iconst 0, 1) := by decide +kernel
theorem d_O_begin_47 : decode prog_12_method_29_code 47 = .ok (.bipush (13), 2) := by decide +kernel
theorem d_O_begin_49 : decode prog_12_method_29_code 49 = .ok (.iload_n 1, 1) := by decide +kernel
theorem d_O_begin_50 : decode prog_12_method_29_code 50 = .ok (.iadd, 1) := by decide +kernel
theorem d_O_begin_51 : decode prog_12_method_29_code 51 = .ok (.invokevirtual 144, 3) := by decide +kernel
theorem d_O_begin_54 : decode prog_12_method_29_code 54 = .ok (.aload_n 0, 1) := by decide +kernel
theorem d_O_begin_55 : decode prog_12_method_29_code 55 = .ok (.getfield 63, 3) := by decide +kernel
theorem d_O_begin_58 : decode prog_12_method_29_code 58 = .ok (.iload_n 1, 1) := by decide +kernel
theorem d_O_begin_59 : decode prog_12_method_29_code 59 = .ok (.iconst 1, 1) := by decide +kernel
theorem d_O_begin_60 : decode prog_12_method_29_code 60 = .ok (.bastore, 1) := by decide +kernel
theorem d_O_begin_61 : decode prog_12_method_29_code 61 = .ok (.aload_n 0, 1) := by decide +kernel
theorem d_O_begin_62 : decode prog_12_method_29_code 62 = .ok (.getfield 63, 3) := by decide +kernel
theorem d_O_begin_65 : decode prog_12_method_29_code 65 = .ok (.iconst 0, 1) := by decide +kernel
theorem d_O_begin_66 : decode prog_12_method_29_code 66 = .ok (.baload, 1) := by decide +kernel
theorem d_O_begin_67 : decode prog_12_method_29_code 67 = .ok (.ifCond .eq (7), 3) := by decide +kernel
theorem d_O_begin_70 : decode prog_12_method_29_code 70 = .ok (.iconst 1, 1) := by decide +kernel
theorem d_O_begin_71 : decode prog_12_method_29_code 71 = .ok (.goto (4), 3) := by decide +kernel
theorem d_O_begin_74 : decode prog_12_method_29_code 74 = .ok (.iconst 0, 1) := by decide +kernel
theorem d_O_begin_75 : decode prog_12_method_29_code 75 = .ok (.aload_n 0, 1) := by decide +kernel
theorem d_O_begin_76 : decode prog_12_method_29_code 76 = .ok (.getfield 63, 3) := by decide +kernel
theorem d_O_begin_79 : decode prog_12_method_29_code 79 = .ok (.iconst 1, 1) := by decide +kernel
theorem d_O_begin_80 : decode prog_12_method_29_code 80 = .ok (.baload, 1) := by decide +kernel
theorem d_O_begin_81 : decode prog_12_method_29_code 81 = .ok (.ifCond .eq (7), 3) := by decide +kernel
theorem d_O_begin_84 : decode prog_12_method_29_code 84 = .ok (.iconst 1, 1) := by decide +kernel
theorem d_O_begin_85 : decode prog_12_method_29_code 85 = .ok (.goto (4), 3) := by decide +kernel
theorem d_O_begin_88 : decode prog_12_method_29_code 88 = .ok (.iconst 0, 1) := by decide +kernel
theorem d_O_begin_89 : decode prog_12_method_29_code 89 = .ok (.iadd, 1) := by decide +kernel
theorem d_O_begin_90 : decode prog_12_method_29_code 90 = .ok (.aload_n 0, 1) := by decide +kernel
theorem d_O_begin_91 : decode prog_12_method_29_code 91 = .ok (.getfield 63, 3) := by decide +kernel
theorem d_O_begin_94 : decode prog_12_method_29_code 94 = .ok (.iconst 2, 1) := by decide +kernel
theorem d_O_begin_95 : decode prog_12_method_29_code 95 = .ok (.baload, 1) := by decide +kernel
theorem d_O_begin_96 : decode prog_12_method_29_code 96 = .ok (.ifCond .eq (7), 3) := by decide +kernel
theorem d_O_begin_99 : decode prog_12_method_29_code 99 = .ok (.iconst 1, 1) := by decide +kernel
theorem d_O_begin_100 : decode prog_12_method_29_code 100 = .ok (.goto (4), 3) := by decide +kernel
theorem d_O_begin_103 : decode prog_12_method_29_code 103 = .ok (.iconst 0, 1) := by decide +kernel
theorem d_O_begin_104 : decode prog_12_method_29_code 104 = .ok (.iadd, 1) := by decide +kernel
theorem d_O_begin_105 : decode prog_12_method_29_code 105 = .ok (.ireturn, 1) := by decide +kernel
def Y_O_begin : sdY := ("SettingsDeskModel", prog_12_method_29_code, 2, (some .int), .code y_O_begin prog_12_method_29_code 2 (some .int) :: sdB0, { frames := 2, cells := 0, slots := 0, locals := 46 }, 0, 0, [])
theorem cw_O_begin_O_isDown_153 : sd_cwV Y_O_begin Y_O_isDown y_O_isDown 153 0 "SettingsDeskModel" := ⟨sd_goodV q520 q522 q523 q459 q521, ⟨_, rfl⟩, ⟨rfl, rfl, rfl, rfl⟩, ⟨rfl, by decide, by decide, by decide +kernel⟩, ⟨by decide, by decide⟩⟩
theorem cw_O_begin_O_isSession_157 : sd_cwS Y_O_begin Y_O_isSession y_O_isSession 157 1 := ⟨sd_goodS q524 q526 q459 q525, ⟨_, rfl⟩, ⟨rfl, rfl, rfl, rfl⟩, ⟨by decide, by decide, by decide +kernel⟩, ⟨by decide, by decide⟩⟩
theorem cw_O_begin_O_copy_144 : sd_cwV Y_O_begin Y_O_copy y_O_copy 144 2 "SettingsDeskModel" := ⟨sd_goodV q527 q529 q530 q459 q528, ⟨_, rfl⟩, ⟨rfl, rfl, rfl, rfl⟩, ⟨rfl, by decide, by decide, by decide +kernel⟩, ⟨by decide, by decide⟩⟩
section
variable {l : Launch} {D : va_G} {dA : Nat → ClassId} {b n : Nat} {ad : Nat → Nat} {L : Nat → sdL} {sc : Option (Nat × Nat × (Nat → Int32))}
def k_O_begin_104 (Q : Int32 → sdM → Prop) (M : sdM) (s0 : Int32) (s1 : Int32) : Prop := Q (s0 + s1) M
set_option maxHeartbeats 1000000 in
theorem t_O_begin_104 (hA : sd_ad b n ad) (hT : l.stackTraces = false) (hO : isO n L dA) {Q : Int32 → sdM → Prop} (M : sdM) (s0 : Int32) (s1 : Int32) (hw : k_O_begin_104 Q M s0 s1) : sdW l (sdE0 sc) Y_O_begin D (sd_tys dA) b n ad L ad (sd_H D (sdE0 sc).1 n ad L) (sd_qi Q) sd_xf 104 [] [.int s1, .int s0] M 0 0 := by
  unfold k_O_begin_104 at hw
  refine x_iadd d_O_begin_104 ?_
  exact x_iret d_O_begin_105 rfl (fun _ h => h) ⟨_, rfl, hw⟩
def k_O_begin_89 (Q : Int32 → sdM → Prop) (M : sdM) (s0 : Int32) (s1 : Int32) : Prop := vp_in (2 : Int32) 3 ∧ ((M 133 (2 : Int32).toNatClampNeg) = 0 → k_O_begin_104 Q M (s0 + s1) (0 : Int32)) ∧ (¬ (M 133 (2 : Int32).toNatClampNeg) = 0 → k_O_begin_104 Q M (s0 + s1) (1 : Int32))
set_option maxHeartbeats 1000000 in
theorem t_O_begin_89 (hA : sd_ad b n ad) (hT : l.stackTraces = false) (hO : isO n L dA) {Q : Int32 → sdM → Prop} (M : sdM) (s0 : Int32) (s1 : Int32) (hw : k_O_begin_89 Q M s0 s1) : sdW l (sdE0 sc) Y_O_begin D (sd_tys dA) b n ad L ad (sd_H D (sdE0 sc).1 n ad L) (sd_qi Q) sd_xf 89 [(0, .ref 116)] [.int s1, .int s0] M 0 0 := by
  unfold k_O_begin_89 at hw
  refine x_iadd d_O_begin_89 ?_
  refine x_aload_n 0 0 d_O_begin_90 rfl rfl ?_
  refine x_getr 22 133 d_O_begin_91 hO.1 hO.2.1 rfl rfl (by decide) lay_O (List.mem_cons_of_mem _ q519) rfl ?_
  refine x_iconst (v := 2) d_O_begin_94 (by decide) ?_
  obtain ⟨hi16, hw⟩ := hw
  refine x_zald d_O_begin_95 hO.begun.1 hO.begun.2 rfl hi16 ?_
  refine x_if_eq 103 d_O_begin_96 rfl (fun hc => ?_) (fun hc => ?_)
  · have hw := hw.1 hc
    refine x_iconst (v := 0) d_O_begin_103 (by decide) ?_
    refine x_sub [] [] rfl ?_
    exact t_O_begin_104 hA hT hO M (s0 + s1) (0 : Int32) hw
  · have hw := hw.2 hc
    refine x_iconst (v := 1) d_O_begin_99 (by decide) ?_
    refine x_goto 104 d_O_begin_100 rfl ?_
    refine x_sub [] [] rfl ?_
    exact t_O_begin_104 hA hT hO M (s0 + s1) (1 : Int32) hw
def k_O_begin_75 (Q : Int32 → sdM → Prop) (M : sdM) (s0 : Int32) : Prop := vp_in (1 : Int32) 3 ∧ ((M 133 (1 : Int32).toNatClampNeg) = 0 → k_O_begin_89 Q M s0 (0 : Int32)) ∧ (¬ (M 133 (1 : Int32).toNatClampNeg) = 0 → k_O_begin_89 Q M s0 (1 : Int32))
set_option maxHeartbeats 1000000 in
theorem t_O_begin_75 (hA : sd_ad b n ad) (hT : l.stackTraces = false) (hO : isO n L dA) {Q : Int32 → sdM → Prop} (M : sdM) (s0 : Int32) (hw : k_O_begin_75 Q M s0) : sdW l (sdE0 sc) Y_O_begin D (sd_tys dA) b n ad L ad (sd_H D (sdE0 sc).1 n ad L) (sd_qi Q) sd_xf 75 [(0, .ref 116)] [.int s0] M 0 0 := by
  unfold k_O_begin_75 at hw
  refine x_aload_n 0 0 d_O_begin_75 rfl rfl ?_
  refine x_getr 22 133 d_O_begin_76 hO.1 hO.2.1 rfl rfl (by decide) lay_O (List.mem_cons_of_mem _ q519) rfl ?_
  refine x_iconst (v := 1) d_O_begin_79 (by decide) ?_
  obtain ⟨hi17, hw⟩ := hw
  refine x_zald d_O_begin_80 hO.begun.1 hO.begun.2 rfl hi17 ?_
  refine x_if_eq 88 d_O_begin_81 rfl (fun hc => ?_) (fun hc => ?_)
  · have hw := hw.1 hc
    refine x_iconst (v := 0) d_O_begin_88 (by decide) ?_
    exact t_O_begin_89 hA hT hO M s0 (0 : Int32) hw
  · have hw := hw.2 hc
    refine x_iconst (v := 1) d_O_begin_84 (by decide) ?_
    refine x_goto 89 d_O_begin_85 rfl ?_
    exact t_O_begin_89 hA hT hO M s0 (1 : Int32) hw
def k_O_begin_24 (Q : Int32 → sdM → Prop) (M : sdM) (x1 : Int32) (s1 : Int32) : Prop := ∀ M18 : sdM, M18 = sd_s M 116 0 s1 → ((M18 116 0) ≤ 0 → w_O_copy M18 (0 : Int32) ((10 : Int32) + x1) (fun M20 => w_O_copy M20 (0 : Int32) ((13 : Int32) + x1) (fun M21 => vp_in x1 3 ∧ sdB (1 : Int32) ∧ ∀ M24 : sdM, M24 = sd_s M21 133 x1.toNatClampNeg (1 : Int32) → vp_in (0 : Int32) 3 ∧ ((M24 133 (0 : Int32).toNatClampNeg) = 0 → k_O_begin_75 Q M24 (0 : Int32)) ∧ (¬ (M24 133 (0 : Int32).toNatClampNeg) = 0 → k_O_begin_75 Q M24 (1 : Int32))))) ∧ (¬ (M18 116 0) ≤ 0 → Q (0 : Int32) M18)
set_option maxHeartbeats 1000000 in
theorem t_O_begin_24 (hA : sd_ad b n ad) (hT : l.stackTraces = false) (hO : isO n L dA) {Q : Int32 → sdM → Prop} (M : sdM) (x1 : Int32) (s1 : Int32) (hw : k_O_begin_24 Q M x1 s1) : sdW l (sdE0 sc) Y_O_begin D (sd_tys dA) b n ad L ad (sd_H D (sdE0 sc).1 n ad L) (sd_qi Q) sd_xf 24 [(0, .ref 116), (1, .int x1)] [.int s1, .ref 116] M 0 0 := by
  unfold k_O_begin_24 at hw
  refine x_puti 0 (ty := .int) hA d_O_begin_24 hO.1 hO.2.1 rfl rfl (by decide) lay_O (List.mem_cons_of_mem _ q446) rfl ty_O ty_O_ok nm_O rfl (by decide +kernel) rfl rfl (fun M18 e19 => ?_)
  have hw := hw M18 e19
  clear e19
  refine x_aload_n 0 0 d_O_begin_27 rfl rfl ?_
  refine x_geti 0 d_O_begin_28 hO.1 hO.2.1 rfl rfl (by decide) lay_O (List.mem_cons_of_mem _ q446) rfl ?_
  refine x_if_le 36 d_O_begin_31 rfl (fun hc => ?_) (fun hc => ?_)
  · have hw := hw.1 hc
    refine x_aload_n 0 0 d_O_begin_36 rfl rfl ?_
    refine x_iconst (v := 0) d_O_begin_37 (by decide) ?_
    refine x_bipush (v := 10) d_O_begin_38 (by decide) ?_
    refine x_iload_n 1 1 d_O_begin_40 rfl rfl ?_
    refine x_iadd d_O_begin_41 ?_
    refine x_callVv (As := [.int (0 : Int32), .int ((10 : Int32) + x1)]) (t := 116) (rest := []) (rc := 0) (rs := 0) (c_O_copy hA hT hO hw) cw_O_begin_O_copy_144 hO.1 hO.2.1 rfl d_O_begin_42 rfl rfl (Nat.le_of_ble_eq_true rfl) rfl (fun _ _ h => h.elim) (fun _ _ h => h) (fun M20 hw => ?_)
    refine x_aload_n 0 0 d_O_begin_45 rfl rfl ?_
    refine x_iconst (v := 0) d_O_begin_46 (by decide) ?_
    refine x_bipush (v := 13) d_O_begin_47 (by decide) ?_
    refine x_iload_n 1 1 d_O_begin_49 rfl rfl ?_
    refine x_iadd d_O_begin_50 ?_
    refine x_callVv (As := [.int (0 : Int32), .int ((13 : Int32) + x1)]) (t := 116) (rest := []) (rc := 0) (rs := 0) (c_O_copy hA hT hO hw) cw_O_begin_O_copy_144 hO.1 hO.2.1 rfl d_O_begin_51 rfl rfl (Nat.le_of_ble_eq_true rfl) rfl (fun _ _ h => h.elim) (fun _ _ h => h) (fun M21 hw => ?_)
    refine x_aload_n 0 0 d_O_begin_54 rfl rfl ?_
    refine x_getr 22 133 d_O_begin_55 hO.1 hO.2.1 rfl rfl (by decide) lay_O (List.mem_cons_of_mem _ q519) rfl ?_
    refine x_iload_n 1 1 d_O_begin_58 rfl rfl ?_
    refine x_iconst (v := 1) d_O_begin_59 (by decide) ?_
    obtain ⟨hi22, hw⟩ := hw
    obtain ⟨hb23, hw⟩ := hw
    refine x_zast hA d_O_begin_60 hO.begun.1 hO.begun.2 rfl hi22 (sdB_v hb23) (fun M24 e25 => ?_)
    have hw := hw M24 e25
    clear e25
    refine x_aload_n 0 0 d_O_begin_61 rfl rfl ?_
    refine x_getr 22 133 d_O_begin_62 hO.1 hO.2.1 rfl rfl (by decide) lay_O (List.mem_cons_of_mem _ q519) rfl ?_
    refine x_iconst (v := 0) d_O_begin_65 (by decide) ?_
    obtain ⟨hi26, hw⟩ := hw
    refine x_zald d_O_begin_66 hO.begun.1 hO.begun.2 rfl hi26 ?_
    refine x_if_eq 74 d_O_begin_67 rfl (fun hc => ?_) (fun hc => ?_)
    · have hw := hw.1 hc
      refine x_iconst (v := 0) d_O_begin_74 (by decide) ?_
      refine x_sub [0] [(0, .ref 116)] rfl ?_
      exact t_O_begin_75 hA hT hO M24 (0 : Int32) hw
    · have hw := hw.2 hc
      refine x_iconst (v := 1) d_O_begin_70 (by decide) ?_
      refine x_goto 75 d_O_begin_71 rfl ?_
      refine x_sub [0] [(0, .ref 116)] rfl ?_
      exact t_O_begin_75 hA hT hO M24 (1 : Int32) hw
  · have hw := hw.2 hc
    refine x_iconst (v := 0) d_O_begin_34 (by decide) ?_
    exact x_iret d_O_begin_35 rfl (fun _ h => h) ⟨_, rfl, hw⟩
def w_O_begin (M : sdM) (a1 : Int32) (Q : Int32 → sdM → Prop) : Prop := w_O_isDown M (fun r28 M27 => (r28 = 0 → w_O_isSession M27 a1 (fun r30 M29 => (¬ r30 = 0 → k_O_begin_24 Q M29 a1 (0 : Int32)) ∧ (r30 = 0 → k_O_begin_24 Q M29 a1 (2 : Int32)))) ∧ (¬ r28 = 0 → k_O_begin_24 Q M27 a1 (1 : Int32)))
set_option maxHeartbeats 1000000 in
theorem c_O_begin {a1 : Int32} (hA : sd_ad b n ad) (hT : l.stackTraces = false) (hO : isO n L dA) {Q : Int32 → sdM → Prop} {M : sdM} (hw : w_O_begin M a1 Q) : sd_Cn l (sdE0 sc) y_O_begin Y_O_begin.2.2.2.2.1 Y_O_begin.2.2.2.2.2.1 0 0 D (sd_tys dA) b n ad L M [.ref 116, .int a1] (sd_qi Q) sd_xf := by
  refine sd_enter (Y := Y_O_begin) rfl rfl rfl rfl (Nat.le_of_ble_eq_true rfl) ?_
  show sdW l (sdE0 sc) Y_O_begin D (sd_tys dA) b n ad L ad (sd_H D (sdE0 sc).1 n ad L) (sd_qi Q) sd_xf 0 [(0, .ref 116), (1, .int a1)] [] M 0 0
  unfold w_O_begin at hw
  refine x_aload_n 0 0 d_O_begin_0 rfl rfl ?_
  refine x_aload_n 0 0 d_O_begin_1 rfl rfl ?_
  refine x_callVi (As := []) (t := 116) (rest := [.ref 116]) (rc := 0) (rs := 0) (c_O_isDown hA hT hO hw) cw_O_begin_O_isDown_153 hO.1 hO.2.1 rfl d_O_begin_2 rfl rfl (Nat.le_of_ble_eq_true rfl) rfl (fun _ _ h => h.elim) (fun _ _ h => h) (fun r28 M27 hw => ?_)
  refine x_if_eq 12 d_O_begin_5 rfl (fun hc => ?_) (fun hc => ?_)
  · have hw := hw.1 hc
    refine x_iload_n 1 1 d_O_begin_12 rfl rfl ?_
    refine x_callSi (As := [.int a1]) (rest := [.ref 116]) (rc := 0) (rs := 0) (c_O_isSession hA hT  hw) cw_O_begin_O_isSession_157 d_O_begin_13 rfl rfl (Nat.le_of_ble_eq_true rfl) rfl (fun _ _ h => h.elim) (fun _ _ h => h) (fun r30 M29 hw => ?_)
    refine x_if_ne 23 d_O_begin_16 rfl (fun hc => ?_) (fun hc => ?_)
    · have hw := hw.1 hc
      refine x_iconst (v := 0) d_O_begin_23 (by decide) ?_
      exact t_O_begin_24 hA hT hO M29 a1 (0 : Int32) hw
    · have hw := hw.2 hc
      refine x_iconst (v := 2) d_O_begin_19 (by decide) ?_
      refine x_goto 24 d_O_begin_20 rfl ?_
      exact t_O_begin_24 hA hT hO M29 a1 (2 : Int32) hw
  · have hw := hw.2 hc
    refine x_iconst (v := 1) d_O_begin_8 (by decide) ?_
    refine x_goto 24 d_O_begin_9 rfl ?_
    exact t_O_begin_24 hA hT hO M27 a1 (1 : Int32) hw
end
abbrev y_O_remove : MethodName := ⟨"SettingsDeskModel", "remove", "(III)V"⟩
theorem d_O_remove_0 : decode prog_12_method_15_code 0 = .ok (.aload_n 0, 1) := by decide +kernel
theorem d_O_remove_1 : decode prog_12_method_15_code 1 = .ok (.getfield 51, 3) := by decide +kernel
theorem d_O_remove_4 : decode prog_12_method_15_code 4 = .ok (.iconst 4, 1) := by decide +kernel
theorem d_O_remove_5 : decode prog_12_method_15_code 5 = .ok (.iload_n 1, 1) := by decide +kernel
theorem d_O_remove_6 : decode prog_12_method_15_code 6 = .ok (.imul, 1) := by decide +kernel
theorem d_O_remove_7 : decode prog_12_method_15_code 7 = .ok (.iload_n 2, 1) := by decide +kernel
theorem d_O_remove_8 : decode prog_12_method_15_code 8 = .ok (.iadd, 1) := by decide +kernel
theorem d_O_remove_9 : decode prog_12_method_15_code 9 = .ok (.dup2, 1) := by decide +kernel
theorem d_O_remove_10 : decode prog_12_method_15_code 10 = .ok (.iaload, 1) := by decide +kernel
theorem d_O_remove_11 : decode prog_12_method_15_code 11 = .ok (.iconst 1, 1) := by decide +kernel
theorem d_O_remove_12 : decode prog_12_method_15_code 12 = .ok (.isub, 1) := by decide +kernel
theorem d_O_remove_13 : decode prog_12_method_15_code 13 = .ok (.iastore, 1) := by decide +kernel
theorem d_O_remove_14 : decode prog_12_method_15_code 14 = .ok (.iload_n 3, 1) := by decide +kernel
theorem d_O_remove_15 : decode prog_12_method_15_code 15 = .ok (.istore 4, 2) := by decide +kernel
theorem d_O_remove_17 : decode prog_12_method_15_code 17 = .ok (.iload 4, 2) := by decide +kernel
theorem d_O_remove_19 : decode prog_12_method_15_code 19 = .ok (.bipush (48), 2) := by decide +kernel
theorem d_O_remove_21 : decode prog_12_method_15_code 21 = .ok (.iload_n 1, 1) := by decide +kernel
theorem d_O_remove_22 : decode prog_12_method_15_code 22 = .ok (.imul, 1) := by decide +kernel
theorem d_O_remove_23 : decode prog_12_method_15_code 23 = .ok (.bipush (12), 2) := by decide +kernel
theorem d_O_remove_25 : decode prog_12_method_15_code 25 = .ok (.iload_n 2, 1) := by decide +kernel
theorem d_O_remove_26 : decode prog_12_method_15_code 26 = .ok (.imul, 1) := by decide +kernel
theorem d_O_remove_27 : decode prog_12_method_15_code 27 = .ok (.iadd, 1) := by decide +kernel
theorem d_O_remove_28 : decode prog_12_method_15_code 28 = .ok (.aload_n 0, 1) := by decide +kernel
theorem d_O_remove_29 : decode prog_12_method_15_code 29 = .ok (.getfield 51, 3) := by decide +kernel
theorem d_O_remove_32 : decode prog_12_method_15_code 32 = .ok (.iconst 4, 1) := by decide +kernel
theorem d_O_remove_33 : decode prog_12_method_15_code 33 = .ok (.iload_n 1, 1) := by decide +kernel
theorem d_O_remove_34 : decode prog_12_method_15_code 34 = .ok (.imul, 1) := by decide +kernel
theorem d_O_remove_35 : decode prog_12_method_15_code 35 = .ok (.iload_n 2, 1) := by decide +kernel
theorem d_O_remove_36 : decode prog_12_method_15_code 36 = .ok (.iadd, 1) := by decide +kernel
theorem d_O_remove_37 : decode prog_12_method_15_code 37 = .ok (.iaload, 1) := by decide +kernel
theorem d_O_remove_38 : decode prog_12_method_15_code 38 = .ok (.iadd, 1) := by decide +kernel
theorem d_O_remove_39 : decode prog_12_method_15_code 39 = .ok (.if_icmp .ge (19), 3) := by decide +kernel
theorem d_O_remove_42 : decode prog_12_method_15_code 42 = .ok (.aload_n 0, 1) := by decide +kernel
theorem d_O_remove_43 : decode prog_12_method_15_code 43 = .ok (.iload 4, 2) := by decide +kernel
theorem d_O_remove_45 : decode prog_12_method_15_code 45 = .ok (.iconst 1, 1) := by decide +kernel
theorem d_O_remove_46 : decode prog_12_method_15_code 46 = .ok (.iadd, 1) := by decide +kernel
theorem d_O_remove_47 : decode prog_12_method_15_code 47 = .ok (.iload 4, 2) := by decide +kernel
theorem d_O_remove_49 : decode prog_12_method_15_code 49 = .ok (.invokevirtual 94, 3) := by decide +kernel
theorem d_O_remove_52 : decode prog_12_method_15_code 52 = .ok (.iinc 4 (1), 3) := by decide +kernel
theorem d_O_remove_55 : decode prog_12_method_15_code 55 = .ok (.goto (-38), 3) := by decide +kernel
theorem d_O_remove_58 : decode prog_12_method_15_code 58 = .ok (.return_, 1) := by decide +kernel
def Y_O_remove : sdY := ("SettingsDeskModel", prog_12_method_15_code, 5, none, .code y_O_remove prog_12_method_15_code 5 none :: sdB0, { frames := 1, cells := 0, slots := 0, locals := 23 }, 0, 0, [])
theorem cw_O_remove_O_put_94 : sd_cwV Y_O_remove Y_O_put y_O_put 94 2 "SettingsDeskModel" := ⟨sd_goodV q515 q517 q518 q459 q516, ⟨_, rfl⟩, ⟨rfl, rfl, rfl, rfl⟩, ⟨rfl, by decide, by decide, by decide +kernel⟩, ⟨by decide, by decide⟩⟩
section
variable {l : Launch} {D : va_G} {dA : Nat → ClassId} {b n : Nat} {ad : Nat → Nat} {L : Nat → sdL} {sc : Option (Nat × Nat × (Nat → Int32))}
def h_O_remove_17 (Q : sdM → Prop) : Nat → sdM → Int32 → Int32 → Int32 → Prop
  | 0, _, _, _, _ => False
  | N + 1, M, x1, x2, x4 => vp_in (((4 : Int32) * x1) + x2) 68 ∧ (((((48 : Int32) * x1) + ((12 : Int32) * x2)) + (M 129 (((4 : Int32) * x1) + x2).toNatClampNeg)) ≤ x4 → Q M) ∧ (¬ ((((48 : Int32) * x1) + ((12 : Int32) * x2)) + (M 129 (((4 : Int32) * x1) + x2).toNatClampNeg)) ≤ x4 → w_O_put M (x4 + (1 : Int32)) x4 (fun M8 => h_O_remove_17 Q N M8 x1 x2 (x4 + 1)))
set_option maxHeartbeats 1000000 in
theorem t_O_remove_17 (hA : sd_ad b n ad) (hT : l.stackTraces = false) (hO : isO n L dA) {Q : sdM → Prop} (N : Nat) : ∀ (M : sdM) (x1 : Int32) (x2 : Int32) (x4 : Int32), h_O_remove_17 Q N M x1 x2 x4 → sdW l (sdE0 sc) Y_O_remove D (sd_tys dA) b n ad L ad (sd_H D (sdE0 sc).1 n ad L) (sd_qv Q) sd_xf 17 [(0, .ref 116), (1, .int x1), (2, .int x2), (4, .int x4)] [] M 0 0 := by
  induction N with
  | zero => intro M x1 x2 x4 hw; exact hw.elim
  | succ N ih =>
    intro M x1 x2 x4 hw
    rw [h_O_remove_17] at hw
    refine x_iload 4 3 d_O_remove_17 rfl ?_
    refine x_bipush (v := 48) d_O_remove_19 (by decide) ?_
    refine x_iload_n 1 1 d_O_remove_21 rfl rfl ?_
    refine x_imul d_O_remove_22 ?_
    refine x_bipush (v := 12) d_O_remove_23 (by decide) ?_
    refine x_iload_n 2 2 d_O_remove_25 rfl rfl ?_
    refine x_imul d_O_remove_26 ?_
    refine x_iadd d_O_remove_27 ?_
    refine x_aload_n 0 0 d_O_remove_28 rfl rfl ?_
    refine x_getr 16 129 d_O_remove_29 hO.1 hO.2.1 rfl rfl (by decide) lay_O (List.mem_cons_of_mem _ q478) rfl ?_
    refine x_iconst (v := 4) d_O_remove_32 (by decide) ?_
    refine x_iload_n 1 1 d_O_remove_33 rfl rfl ?_
    refine x_imul d_O_remove_34 ?_
    refine x_iload_n 2 2 d_O_remove_35 rfl rfl ?_
    refine x_iadd d_O_remove_36 ?_
    obtain ⟨hi7, hw⟩ := hw
    refine x_iald d_O_remove_37 hO.sizes.1 hO.sizes.2 rfl hi7 ?_
    refine x_iadd d_O_remove_38 ?_
    refine x_icmp_ge 58 d_O_remove_39 rfl (fun hc => ?_) (fun hc => ?_)
    · have hw := hw.1 hc
      exact x_vret d_O_remove_58 rfl (fun _ h => h) ⟨rfl, hw⟩
    · have hw := hw.2 hc
      refine x_aload_n 0 0 d_O_remove_42 rfl rfl ?_
      refine x_iload 4 3 d_O_remove_43 rfl ?_
      refine x_iconst (v := 1) d_O_remove_45 (by decide) ?_
      refine x_iadd d_O_remove_46 ?_
      refine x_iload 4 3 d_O_remove_47 rfl ?_
      refine x_callVv (As := [.int (x4 + (1 : Int32)), .int x4]) (t := 116) (rest := []) (rc := 0) (rs := 0) (c_O_put hA hT hO hw) cw_O_remove_O_put_94 hO.1 hO.2.1 rfl d_O_remove_49 rfl rfl (Nat.le_of_ble_eq_true rfl) rfl (fun _ _ h => h.elim) (fun _ _ h => h) (fun M8 hw => ?_)
      refine x_iinc 4 3 [(4, .int (x4 + 1)), (0, .ref 116), (1, .int x1), (2, .int x2)] d_O_remove_52 rfl (congrArg (HAdd.hAdd x4) (show Int32.ofInt 1 = 1 by decide)) (by decide) rfl ?_
      refine x_goto 17 d_O_remove_55 rfl ?_
      refine x_sub [1, 2, 3, 0] [(0, .ref 116), (1, .int x1), (2, .int x2), (4, .int (x4 + 1))] rfl ?_
      exact ih M8 x1 x2 (x4 + 1) hw
def w_O_remove (M : sdM) (a1 : Int32) (a2 : Int32) (a3 : Int32) (Q : sdM → Prop) : Prop := vp_in (((4 : Int32) * a1) + a2) 68 ∧ vp_in (((4 : Int32) * a1) + a2) 68 ∧ ∀ M11 : sdM, M11 = sd_s M 129 (((4 : Int32) * a1) + a2).toNatClampNeg ((M 129 (((4 : Int32) * a1) + a2).toNatClampNeg) - (1 : Int32)) → ∃ N9 : Nat, h_O_remove_17 Q N9 M11 a1 a2 a3
set_option maxHeartbeats 1000000 in
theorem c_O_remove {a1 : Int32} {a2 : Int32} {a3 : Int32} (hA : sd_ad b n ad) (hT : l.stackTraces = false) (hO : isO n L dA) {Q : sdM → Prop} {M : sdM} (hw : w_O_remove M a1 a2 a3 Q) : sd_Cn l (sdE0 sc) y_O_remove Y_O_remove.2.2.2.2.1 Y_O_remove.2.2.2.2.2.1 0 0 D (sd_tys dA) b n ad L M [.ref 116, .int a1, .int a2, .int a3] (sd_qv Q) sd_xf := by
  refine sd_enter (Y := Y_O_remove) rfl rfl rfl rfl (Nat.le_of_ble_eq_true rfl) ?_
  show sdW l (sdE0 sc) Y_O_remove D (sd_tys dA) b n ad L ad (sd_H D (sdE0 sc).1 n ad L) (sd_qv Q) sd_xf 0 [(0, .ref 116), (1, .int a1), (2, .int a2), (3, .int a3)] [] M 0 0
  unfold w_O_remove at hw
  refine x_aload_n 0 0 d_O_remove_0 rfl rfl ?_
  refine x_getr 16 129 d_O_remove_1 hO.1 hO.2.1 rfl rfl (by decide) lay_O (List.mem_cons_of_mem _ q478) rfl ?_
  refine x_iconst (v := 4) d_O_remove_4 (by decide) ?_
  refine x_iload_n 1 1 d_O_remove_5 rfl rfl ?_
  refine x_imul d_O_remove_6 ?_
  refine x_iload_n 2 2 d_O_remove_7 rfl rfl ?_
  refine x_iadd d_O_remove_8 ?_
  refine x_dup2 d_O_remove_9 rfl rfl ?_
  obtain ⟨hi9, hw⟩ := hw
  refine x_iald d_O_remove_10 hO.sizes.1 hO.sizes.2 rfl hi9 ?_
  refine x_iconst (v := 1) d_O_remove_11 (by decide) ?_
  refine x_isub d_O_remove_12 ?_
  obtain ⟨hi10, hw⟩ := hw
  refine x_iast hA d_O_remove_13 hO.sizes.1 hO.sizes.2 rfl hi10 (fun M11 e12 => ?_)
  have hw := hw M11 e12
  clear e12
  refine x_iload_n 3 3 d_O_remove_14 rfl rfl ?_
  refine x_istore 4 [(4, .int a3), (0, .ref 116), (1, .int a1), (2, .int a2), (3, .int a3)] d_O_remove_15 (by decide) rfl ?_
  refine x_sub [1, 2, 3, 0] [(0, .ref 116), (1, .int a1), (2, .int a2), (4, .int a3)] rfl ?_
  obtain ⟨N9, hw⟩ := hw
  exact t_O_remove_17 hA hT hO N9 M11 a1 a2 a3 hw
end
abbrev y_O_insert : MethodName := ⟨"SettingsDeskModel", "insert", "(III)I"⟩
theorem d_O_insert_0 : decode prog_12_method_14_code 0 = .ok (.bipush (48), 2) := by decide +kernel
theorem d_O_insert_2 : decode prog_12_method_14_code 2 = .ok (.iload_n 1, 1) := by decide +kernel
theorem d_O_insert_3 : decode prog_12_method_14_code 3 = .ok (.imul, 1) := by decide +kernel
theorem d_O_insert_4 : decode prog_12_method_14_code 4 = .ok (.bipush (12), 2) := by decide +kernel
theorem d_O_insert_6 : decode prog_12_method_14_code 6 = .ok (.iload_n 2, 1) := by decide +kernel
theorem d_O_insert_7 : decode prog_12_method_14_code 7 = .ok (.imul, 1) := by decide +kernel
theorem d_O_insert_8 : decode prog_12_method_14_code 8 = .ok (.iadd, 1) := by decide +kernel
theorem d_O_insert_9 : decode prog_12_method_14_code 9 = .ok (.istore 4, 2) := by decide +kernel
theorem d_O_insert_11 : decode prog_12_method_14_code 11 = .ok (.iload 4, 2) := by decide +kernel
theorem d_O_insert_13 : decode prog_12_method_14_code 13 = .ok (.aload_n 0, 1) := by decide +kernel
theorem d_O_insert_14 : decode prog_12_method_14_code 14 = .ok (.getfield 51, 3) := by decide +kernel
theorem d_O_insert_17 : decode prog_12_method_14_code 17 = .ok (.iconst 4, 1) := by decide +kernel
theorem d_O_insert_18 : decode prog_12_method_14_code 18 = .ok (.iload_n 1, 1) := by decide +kernel
theorem d_O_insert_19 : decode prog_12_method_14_code 19 = .ok (.imul, 1) := by decide +kernel
theorem d_O_insert_20 : decode prog_12_method_14_code 20 = .ok (.iload_n 2, 1) := by decide +kernel
theorem d_O_insert_21 : decode prog_12_method_14_code 21 = .ok (.iadd, 1) := by decide +kernel
theorem d_O_insert_22 : decode prog_12_method_14_code 22 = .ok (.iaload, 1) := by decide +kernel
theorem d_O_insert_23 : decode prog_12_method_14_code 23 = .ok (.iadd, 1) := by decide +kernel
theorem d_O_insert_24 : decode prog_12_method_14_code 24 = .ok (.istore 5, 2) := by decide +kernel
theorem d_O_insert_26 : decode prog_12_method_14_code 26 = .ok (.iload 5, 2) := by decide +kernel
theorem d_O_insert_28 : decode prog_12_method_14_code 28 = .ok (.iload 4, 2) := by decide +kernel
theorem d_O_insert_30 : decode prog_12_method_14_code 30 = .ok (.if_icmp .le (32), 3) := by decide +kernel
theorem d_O_insert_33 : decode prog_12_method_14_code 33 = .ok (.aload_n 0, 1) := by decide +kernel
theorem d_O_insert_34 : decode prog_12_method_14_code 34 = .ok (.getfield 54, 3) := by decide +kernel
theorem d_O_insert_37 : decode prog_12_method_14_code 37 = .ok (.iload 5, 2) := by decide +kernel
theorem d_O_insert_39 : decode prog_12_method_14_code 39 = .ok (.iconst 1, 1) := by decide +kernel
theorem d_O_insert_40 : decode prog_12_method_14_code 40 = .ok (.isub, 1) := by decide +kernel
theorem d_O_insert_41 : decode prog_12_method_14_code 41 = .ok (.iaload, 1) := by decide +kernel
theorem d_O_insert_42 : decode prog_12_method_14_code 42 = .ok (.iload_n 3, 1) := by decide +kernel
theorem d_O_insert_43 : decode prog_12_method_14_code 43 = .ok (.if_icmp .le (19), 3) := by decide +kernel
theorem d_O_insert_46 : decode prog_12_method_14_code 46 = .ok (.aload_n 0, 1) := by decide +kernel
theorem d_O_insert_47 : decode prog_12_method_14_code 47 = .ok (.iload 5, 2) := by decide +kernel
theorem d_O_insert_49 : decode prog_12_method_14_code 49 = .ok (.iconst 1, 1) := by decide +kernel
theorem d_O_insert_50 : decode prog_12_method_14_code 50 = .ok (.isub, 1) := by decide +kernel
theorem d_O_insert_51 : decode prog_12_method_14_code 51 = .ok (.iload 5, 2) := by decide +kernel
theorem d_O_insert_53 : decode prog_12_method_14_code 53 = .ok (.invokevirtual 94, 3) := by decide +kernel
theorem d_O_insert_56 : decode prog_12_method_14_code 56 = .ok (.iinc 5 (-1), 3) := by decide +kernel
theorem d_O_insert_59 : decode prog_12_method_14_code 59 = .ok (.goto (-33), 3) := by decide +kernel
theorem d_O_insert_62 : decode prog_12_method_14_code 62 = .ok (.aload_n 0, 1) := by decide +kernel
theorem d_O_insert_63 : decode prog_12_method_14_code 63 = .ok (.getfield 54, 3) := by decide +kernel
theorem d_O_insert_66 : decode prog_12_method_14_code 66 = .ok (.iload 5, 2) := by decide +kernel
theorem d_O_insert_68 : decode prog_12_method_14_code 68 = .ok (.iload_n 3, 1) := by decide +kernel
theorem d_O_insert_69 : decode prog_12_method_14_code 69 = .ok (.iastore, 1) := by decide +kernel
theorem d_O_insert_70 : decode prog_12_method_14_code 70 = .ok (.aload_n 0, 1) := by decide +kernel
theorem d_O_insert_71 : decode prog_12_method_14_code 71 = .ok (.getfield 57, 3) := by decide +kernel
theorem d_O_insert_74 : decode prog_12_method_14_code 74 = .ok (.iload 5, 2) := by decide +kernel
theorem d_O_insert_76 : decode prog_12_method_14_code 76 = .ok (.iconst 0, 1) := by decide +kernel
theorem d_O_insert_77 : decode prog_12_method_14_code 77 = .ok (.iastore, 1) := by decide +kernel
theorem d_O_insert_78 : decode prog_12_method_14_code 78 = .ok (.aload_n 0, 1) := by decide +kernel
theorem d_O_insert_79 : decode prog_12_method_14_code 79 = .ok (.getfield 51, 3) := by decide +kernel
theorem d_O_insert_82 : decode prog_12_method_14_code 82 = .ok (.iconst 4, 1) := by decide +kernel
theorem d_O_insert_83 : decode prog_12_method_14_code 83 = .ok (.iload_n 1, 1) := by decide +kernel
theorem d_O_insert_84 : decode prog_12_method_14_code 84 = .ok (.imul, 1) := by decide +kernel
theorem d_O_insert_85 : decode prog_12_method_14_code 85 = .ok (.iload_n 2, 1) := by decide +kernel
theorem d_O_insert_86 : decode prog_12_method_14_code 86 = .ok (.iadd, 1) := by decide +kernel
theorem d_O_insert_87 : decode prog_12_method_14_code 87 = .ok (.dup2, 1) := by decide +kernel
theorem d_O_insert_88 : decode prog_12_method_14_code 88 = .ok (.iaload, 1) := by decide +kernel
theorem d_O_insert_89 : decode prog_12_method_14_code 89 = .ok (.iconst 1, 1) := by decide +kernel
theorem d_O_insert_90 : decode prog_12_method_14_code 90 = .ok (.iadd, 1) := by decide +kernel
theorem d_O_insert_91 : decode prog_12_method_14_code 91 = .ok (.iastore, 1) := by decide +kernel
theorem d_O_insert_92 : decode prog_12_method_14_code 92 = .ok (.iload 5, 2) := by decide +kernel
theorem d_O_insert_94 : decode prog_12_method_14_code 94 = .ok (.ireturn, 1) := by decide +kernel
def Y_O_insert : sdY := ("SettingsDeskModel", prog_12_method_14_code, 6, (some .int), .code y_O_insert prog_12_method_14_code 6 (some .int) :: sdB0, { frames := 1, cells := 0, slots := 0, locals := 23 }, 0, 0, [])
theorem cw_O_insert_O_put_94 : sd_cwV Y_O_insert Y_O_put y_O_put 94 2 "SettingsDeskModel" := ⟨sd_goodV q515 q517 q518 q459 q516, ⟨_, rfl⟩, ⟨rfl, rfl, rfl, rfl⟩, ⟨rfl, by decide, by decide, by decide +kernel⟩, ⟨by decide, by decide⟩⟩
section
variable {l : Launch} {D : va_G} {dA : Nat → ClassId} {b n : Nat} {ad : Nat → Nat} {L : Nat → sdL} {sc : Option (Nat × Nat × (Nat → Int32))}
def k_O_insert_62 (Q : Int32 → sdM → Prop) (M : sdM) (x1 : Int32) (x2 : Int32) (x3 : Int32) (x5 : Int32) : Prop := vp_in x5 816 ∧ ∀ M15 : sdM, M15 = sd_s M 130 x5.toNatClampNeg x3 → vp_in x5 816 ∧ ∀ M18 : sdM, M18 = sd_s M15 131 x5.toNatClampNeg (0 : Int32) → vp_in (((4 : Int32) * x1) + x2) 68 ∧ vp_in (((4 : Int32) * x1) + x2) 68 ∧ ∀ M22 : sdM, M22 = sd_s M18 129 (((4 : Int32) * x1) + x2).toNatClampNeg ((M18 129 (((4 : Int32) * x1) + x2).toNatClampNeg) + (1 : Int32)) → Q x5 M22
set_option maxHeartbeats 1000000 in
theorem t_O_insert_62 (hA : sd_ad b n ad) (hT : l.stackTraces = false) (hO : isO n L dA) {Q : Int32 → sdM → Prop} (M : sdM) (x1 : Int32) (x2 : Int32) (x3 : Int32) (x5 : Int32) (hw : k_O_insert_62 Q M x1 x2 x3 x5) : sdW l (sdE0 sc) Y_O_insert D (sd_tys dA) b n ad L ad (sd_H D (sdE0 sc).1 n ad L) (sd_qi Q) sd_xf 62 [(0, .ref 116), (1, .int x1), (2, .int x2), (3, .int x3), (5, .int x5)] [] M 0 0 := by
  unfold k_O_insert_62 at hw
  refine x_aload_n 0 0 d_O_insert_62 rfl rfl ?_
  refine x_getr 17 130 d_O_insert_63 hO.1 hO.2.1 rfl rfl (by decide) lay_O (List.mem_cons_of_mem _ q479) rfl ?_
  refine x_iload 5 4 d_O_insert_66 rfl ?_
  refine x_iload_n 3 3 d_O_insert_68 rfl rfl ?_
  obtain ⟨hi14, hw⟩ := hw
  refine x_iast hA d_O_insert_69 hO.keys.1 hO.keys.2 rfl hi14 (fun M15 e16 => ?_)
  have hw := hw M15 e16
  clear e16
  refine x_aload_n 0 0 d_O_insert_70 rfl rfl ?_
  refine x_getr 18 131 d_O_insert_71 hO.1 hO.2.1 rfl rfl (by decide) lay_O (List.mem_cons_of_mem _ q472) rfl ?_
  refine x_iload 5 4 d_O_insert_74 rfl ?_
  refine x_iconst (v := 0) d_O_insert_76 (by decide) ?_
  obtain ⟨hi17, hw⟩ := hw
  refine x_iast hA d_O_insert_77 hO.bits.1 hO.bits.2 rfl hi17 (fun M18 e19 => ?_)
  have hw := hw M18 e19
  clear e19
  refine x_aload_n 0 0 d_O_insert_78 rfl rfl ?_
  refine x_getr 16 129 d_O_insert_79 hO.1 hO.2.1 rfl rfl (by decide) lay_O (List.mem_cons_of_mem _ q478) rfl ?_
  refine x_iconst (v := 4) d_O_insert_82 (by decide) ?_
  refine x_iload_n 1 1 d_O_insert_83 rfl rfl ?_
  refine x_imul d_O_insert_84 ?_
  refine x_iload_n 2 2 d_O_insert_85 rfl rfl ?_
  refine x_iadd d_O_insert_86 ?_
  refine x_dup2 d_O_insert_87 rfl rfl ?_
  obtain ⟨hi20, hw⟩ := hw
  refine x_iald d_O_insert_88 hO.sizes.1 hO.sizes.2 rfl hi20 ?_
  refine x_iconst (v := 1) d_O_insert_89 (by decide) ?_
  refine x_iadd d_O_insert_90 ?_
  obtain ⟨hi21, hw⟩ := hw
  refine x_iast hA d_O_insert_91 hO.sizes.1 hO.sizes.2 rfl hi21 (fun M22 e23 => ?_)
  have hw := hw M22 e23
  clear e23
  refine x_iload 5 4 d_O_insert_92 rfl ?_
  exact x_iret d_O_insert_94 rfl (fun _ h => h) ⟨_, rfl, hw⟩
def h_O_insert_26 (Q : Int32 → sdM → Prop) : Nat → sdM → Int32 → Int32 → Int32 → Int32 → Int32 → Prop
  | 0, _, _, _, _, _, _ => False
  | N + 1, M, x1, x2, x3, x4, x5 => (x5 ≤ x4 → k_O_insert_62 Q M x1 x2 x3 x5) ∧ (¬ x5 ≤ x4 → vp_in (x5 - (1 : Int32)) 816 ∧ ((M 130 (x5 - (1 : Int32)).toNatClampNeg) ≤ x3 → k_O_insert_62 Q M x1 x2 x3 x5) ∧ (¬ (M 130 (x5 - (1 : Int32)).toNatClampNeg) ≤ x3 → w_O_put M (x5 - (1 : Int32)) x5 (fun M25 => h_O_insert_26 Q N M25 x1 x2 x3 x4 (x5 + (-1)))))
set_option maxHeartbeats 1000000 in
theorem t_O_insert_26 (hA : sd_ad b n ad) (hT : l.stackTraces = false) (hO : isO n L dA) {Q : Int32 → sdM → Prop} (N : Nat) : ∀ (M : sdM) (x1 : Int32) (x2 : Int32) (x3 : Int32) (x4 : Int32) (x5 : Int32), h_O_insert_26 Q N M x1 x2 x3 x4 x5 → sdW l (sdE0 sc) Y_O_insert D (sd_tys dA) b n ad L ad (sd_H D (sdE0 sc).1 n ad L) (sd_qi Q) sd_xf 26 [(0, .ref 116), (1, .int x1), (2, .int x2), (3, .int x3), (4, .int x4), (5, .int x5)] [] M 0 0 := by
  induction N with
  | zero => intro M x1 x2 x3 x4 x5 hw; exact hw.elim
  | succ N ih =>
    intro M x1 x2 x3 x4 x5 hw
    rw [h_O_insert_26] at hw
    refine x_iload 5 5 d_O_insert_26 rfl ?_
    refine x_iload 4 4 d_O_insert_28 rfl ?_
    refine x_icmp_le 62 d_O_insert_30 rfl (fun hc => ?_) (fun hc => ?_)
    · have hw := hw.1 hc
      refine x_sub [0, 1, 2, 3, 5] [(0, .ref 116), (1, .int x1), (2, .int x2), (3, .int x3), (5, .int x5)] rfl ?_
      exact t_O_insert_62 hA hT hO M x1 x2 x3 x5 hw
    · have hw := hw.2 hc
      refine x_aload_n 0 0 d_O_insert_33 rfl rfl ?_
      refine x_getr 17 130 d_O_insert_34 hO.1 hO.2.1 rfl rfl (by decide) lay_O (List.mem_cons_of_mem _ q479) rfl ?_
      refine x_iload 5 5 d_O_insert_37 rfl ?_
      refine x_iconst (v := 1) d_O_insert_39 (by decide) ?_
      refine x_isub d_O_insert_40 ?_
      obtain ⟨hi24, hw⟩ := hw
      refine x_iald d_O_insert_41 hO.keys.1 hO.keys.2 rfl hi24 ?_
      refine x_iload_n 3 3 d_O_insert_42 rfl rfl ?_
      refine x_icmp_le 62 d_O_insert_43 rfl (fun hc => ?_) (fun hc => ?_)
      · have hw := hw.1 hc
        refine x_sub [0, 1, 2, 3, 5] [(0, .ref 116), (1, .int x1), (2, .int x2), (3, .int x3), (5, .int x5)] rfl ?_
        exact t_O_insert_62 hA hT hO M x1 x2 x3 x5 hw
      · have hw := hw.2 hc
        refine x_aload_n 0 0 d_O_insert_46 rfl rfl ?_
        refine x_iload 5 5 d_O_insert_47 rfl ?_
        refine x_iconst (v := 1) d_O_insert_49 (by decide) ?_
        refine x_isub d_O_insert_50 ?_
        refine x_iload 5 5 d_O_insert_51 rfl ?_
        refine x_callVv (As := [.int (x5 - (1 : Int32)), .int x5]) (t := 116) (rest := []) (rc := 0) (rs := 0) (c_O_put hA hT hO hw) cw_O_insert_O_put_94 hO.1 hO.2.1 rfl d_O_insert_53 rfl rfl (Nat.le_of_ble_eq_true rfl) rfl (fun _ _ h => h.elim) (fun _ _ h => h) (fun M25 hw => ?_)
        refine x_iinc 5 5 [(5, .int (x5 + (-1))), (0, .ref 116), (1, .int x1), (2, .int x2), (3, .int x3), (4, .int x4)] d_O_insert_56 rfl (congrArg (HAdd.hAdd x5) (show Int32.ofInt (-1) = (-1) by decide)) (by decide) rfl ?_
        refine x_goto 26 d_O_insert_59 rfl ?_
        refine x_sub [1, 2, 3, 4, 5, 0] [(0, .ref 116), (1, .int x1), (2, .int x2), (3, .int x3), (4, .int x4), (5, .int (x5 + (-1)))] rfl ?_
        exact ih M25 x1 x2 x3 x4 (x5 + (-1)) hw
def w_O_insert (M : sdM) (a1 : Int32) (a2 : Int32) (a3 : Int32) (Q : Int32 → sdM → Prop) : Prop := vp_in (((4 : Int32) * a1) + a2) 68 ∧ ∃ N9 : Nat, h_O_insert_26 Q N9 M a1 a2 a3 (((48 : Int32) * a1) + ((12 : Int32) * a2)) ((((48 : Int32) * a1) + ((12 : Int32) * a2)) + (M 129 (((4 : Int32) * a1) + a2).toNatClampNeg))
set_option maxHeartbeats 1000000 in
theorem c_O_insert {a1 : Int32} {a2 : Int32} {a3 : Int32} (hA : sd_ad b n ad) (hT : l.stackTraces = false) (hO : isO n L dA) {Q : Int32 → sdM → Prop} {M : sdM} (hw : w_O_insert M a1 a2 a3 Q) : sd_Cn l (sdE0 sc) y_O_insert Y_O_insert.2.2.2.2.1 Y_O_insert.2.2.2.2.2.1 0 0 D (sd_tys dA) b n ad L M [.ref 116, .int a1, .int a2, .int a3] (sd_qi Q) sd_xf := by
  refine sd_enter (Y := Y_O_insert) rfl rfl rfl rfl (Nat.le_of_ble_eq_true rfl) ?_
  show sdW l (sdE0 sc) Y_O_insert D (sd_tys dA) b n ad L ad (sd_H D (sdE0 sc).1 n ad L) (sd_qi Q) sd_xf 0 [(0, .ref 116), (1, .int a1), (2, .int a2), (3, .int a3)] [] M 0 0
  unfold w_O_insert at hw
  refine x_bipush (v := 48) d_O_insert_0 (by decide) ?_
  refine x_iload_n 1 1 d_O_insert_2 rfl rfl ?_
  refine x_imul d_O_insert_3 ?_
  refine x_bipush (v := 12) d_O_insert_4 (by decide) ?_
  refine x_iload_n 2 2 d_O_insert_6 rfl rfl ?_
  refine x_imul d_O_insert_7 ?_
  refine x_iadd d_O_insert_8 ?_
  refine x_istore 4 [(4, .int (((48 : Int32) * a1) + ((12 : Int32) * a2))), (0, .ref 116), (1, .int a1), (2, .int a2), (3, .int a3)] d_O_insert_9 (by decide) rfl ?_
  refine x_iload 4 0 d_O_insert_11 rfl ?_
  refine x_aload_n 0 1 d_O_insert_13 rfl rfl ?_
  refine x_getr 16 129 d_O_insert_14 hO.1 hO.2.1 rfl rfl (by decide) lay_O (List.mem_cons_of_mem _ q478) rfl ?_
  refine x_iconst (v := 4) d_O_insert_17 (by decide) ?_
  refine x_iload_n 1 2 d_O_insert_18 rfl rfl ?_
  refine x_imul d_O_insert_19 ?_
  refine x_iload_n 2 3 d_O_insert_20 rfl rfl ?_
  refine x_iadd d_O_insert_21 ?_
  obtain ⟨hi26, hw⟩ := hw
  refine x_iald d_O_insert_22 hO.sizes.1 hO.sizes.2 rfl hi26 ?_
  refine x_iadd d_O_insert_23 ?_
  refine x_istore 5 [(5, .int ((((48 : Int32) * a1) + ((12 : Int32) * a2)) + (M 129 (((4 : Int32) * a1) + a2).toNatClampNeg))), (4, .int (((48 : Int32) * a1) + ((12 : Int32) * a2))), (0, .ref 116), (1, .int a1), (2, .int a2), (3, .int a3)] d_O_insert_24 (by decide) rfl ?_
  refine x_sub [2, 3, 4, 5, 1, 0] [(0, .ref 116), (1, .int a1), (2, .int a2), (3, .int a3), (4, .int (((48 : Int32) * a1) + ((12 : Int32) * a2))), (5, .int ((((48 : Int32) * a1) + ((12 : Int32) * a2)) + (M 129 (((4 : Int32) * a1) + a2).toNatClampNeg)))] rfl ?_
  obtain ⟨N9, hw⟩ := hw
  exact t_O_insert_26 hA hT hO N9 M a1 a2 a3 (((48 : Int32) * a1) + ((12 : Int32) * a2)) ((((48 : Int32) * a1) + ((12 : Int32) * a2)) + (M 129 (((4 : Int32) * a1) + a2).toNatClampNeg)) hw
end
abbrev y_O_touch : MethodName := ⟨"SettingsDeskModel", "touch", "(IIII)I"⟩
theorem d_O_touch_0 : decode prog_12_method_31_code 0 = .ok (.aload_n 0, 1) := by decide +kernel
theorem d_O_touch_1 : decode prog_12_method_31_code 1 = .ok (.invokevirtual 153, 3) := by decide +kernel
theorem d_O_touch_4 : decode prog_12_method_31_code 4 = .ok (.ifCond .eq (5), 3) := by decide +kernel
theorem d_O_touch_7 : decode prog_12_method_31_code 7 = .ok (.iconst 1, 1) := by decide +kernel
theorem d_O_touch_8 : decode prog_12_method_31_code 8 = .ok (.ireturn, 1) := by decide +kernel
theorem d_O_touch_9 : decode prog_12_method_31_code 9 = .ok (.iload_n 1, 1) := by decide +kernel
theorem d_O_touch_10 : decode prog_12_method_31_code 10 = .ok (.invokestatic 157, 3) := by decide +kernel
theorem d_O_touch_13 : decode prog_12_method_31_code 13 = .ok (.ifCond .eq (13), 3) := by decide +kernel
theorem d_O_touch_16 : decode prog_12_method_31_code 16 = .ok (.aload_n 0, 1) := by decide +kernel
theorem d_O_touch_17 : decode prog_12_method_31_code 17 = .ok (.iload_n 2, 1) := by decide +kernel
theorem d_O_touch_18 : decode prog_12_method_31_code 18 = .ok (.iload 4, 2) := by decide +kernel
theorem d_O_touch_20 : decode prog_12_method_31_code 20 = .ok (.invokevirtual 83, 3) := by decide +kernel
theorem d_O_touch_23 : decode prog_12_method_31_code 23 = .ok (.ifCond .ne (5), 3) := by decide +kernel
theorem d_O_touch_26 : decode prog_12_method_31_code 26 = .ok (.iconst 2, 1) := by decide +kernel
theorem d_O_touch_27 : decode prog_12_method_31_code 27 = .ok (.ireturn, 1) := by decide +kernel
theorem d_O_touch_28 : decode prog_12_method_31_code 28 = .ok (.aload_n 0, 1) := by decide +kernel
theorem d_O_touch_29 : decode prog_12_method_31_code 29 = .ok (.getfield 63, 3) := by decide +kernel
theorem d_O_touch_32 : decode prog_12_method_31_code 32 = .ok (.iload_n 1, 1) := by decide +kernel
theorem d_O_touch_33 : decode prog_12_method_31_code 33 = .ok (.baload, 1) := by decide +kernel
theorem d_O_touch_34 : decode prog_12_method_31_code 34 = .ok (.ifCond .eq (20), 3) := by decide +kernel
theorem d_O_touch_37 : decode prog_12_method_31_code 37 = .ok (.aload_n 0, 1) := by decide +kernel
theorem d_O_touch_38 : decode prog_12_method_31_code 38 = .ok (.bipush (10), 2) := by decide +kernel
theorem d_O_touch_40 : decode prog_12_method_31_code 40 = .ok (.iload_n 1, 1) := by decide +kernel
theorem d_O_touch_41 : decode prog_12_method_31_code 41 = .ok (.iadd, 1) := by decide +kernel
theorem d_O_touch_42 : decode prog_12_method_31_code 42 = .ok (.iload_n 2, 1) := by decide +kernel
theorem d_O_touch_43 : decode prog_12_method_31_code 43 = .ok (.iload_n 3, 1) := by decide +kernel
theorem d_O_touch_44 : decode prog_12_method_31_code 44 = .ok (.invokevirtual 115, 3) := by decide +kernel
theorem d_O_touch_47 : decode prog_12_method_31_code 47 = .ok (.ifCond .lt (7), 3) := by decide +kernel
theorem d_O_touch_50 : decode prog_12_method_31_code 50 = .ok (.iconst 0, 1) := by decide +kernel
theorem d_O_touch_51 : decode prog_12_method_31_code 51 = .ok (.goto (4), 3) := by decide +kernel
theorem d_O_touch_54 : decode prog_12_method_31_code 54 = .ok (.iconst 1, 1) := by decide +kernel
theorem d_O_touch_55 : decode prog_12_method_31_code 55 = .ok (.ireturn, 1) := by decide +kernel
def Y_O_touch : sdY := ("SettingsDeskModel", prog_12_method_31_code, 5, (some .int), .code y_O_touch prog_12_method_31_code 5 (some .int) :: sdB0, { frames := 2, cells := 0, slots := 0, locals := 43 }, 0, 0, [])
theorem cw_O_touch_O_isDown_153 : sd_cwV Y_O_touch Y_O_isDown y_O_isDown 153 0 "SettingsDeskModel" := ⟨sd_goodV q520 q522 q523 q459 q521, ⟨_, rfl⟩, ⟨rfl, rfl, rfl, rfl⟩, ⟨rfl, by decide, by decide, by decide +kernel⟩, ⟨by decide, by decide⟩⟩
theorem cw_O_touch_O_isSession_157 : sd_cwS Y_O_touch Y_O_isSession y_O_isSession 157 1 := ⟨sd_goodS q524 q526 q459 q525, ⟨_, rfl⟩, ⟨rfl, rfl, rfl, rfl⟩, ⟨by decide, by decide, by decide +kernel⟩, ⟨by decide, by decide⟩⟩
theorem cw_O_touch_O_isLeaf_83 : sd_cwV Y_O_touch Y_O_isLeaf y_O_isLeaf 83 2 "SettingsDeskModel" := ⟨sd_goodV q462 q464 q465 q459 q463, ⟨_, rfl⟩, ⟨rfl, rfl, rfl, rfl⟩, ⟨rfl, by decide, by decide, by decide +kernel⟩, ⟨by decide, by decide⟩⟩
theorem cw_O_touch_O_find_115 : sd_cwV Y_O_touch Y_O_find y_O_find 115 3 "SettingsDeskModel" := ⟨sd_goodV q492 q494 q495 q459 q493, ⟨_, rfl⟩, ⟨rfl, rfl, rfl, rfl⟩, ⟨rfl, by decide, by decide, by decide +kernel⟩, ⟨by decide, by decide⟩⟩
section
variable {l : Launch} {D : va_G} {dA : Nat → ClassId} {b n : Nat} {ad : Nat → Nat} {L : Nat → sdL} {sc : Option (Nat × Nat × (Nat → Int32))}
def k_O_touch_55 (Q : Int32 → sdM → Prop) (M : sdM) (s0 : Int32) : Prop := Q s0 M
set_option maxHeartbeats 1000000 in
theorem t_O_touch_55 (hA : sd_ad b n ad) (hT : l.stackTraces = false) (hO : isO n L dA) {Q : Int32 → sdM → Prop} (M : sdM) (s0 : Int32) (hw : k_O_touch_55 Q M s0) : sdW l (sdE0 sc) Y_O_touch D (sd_tys dA) b n ad L ad (sd_H D (sdE0 sc).1 n ad L) (sd_qi Q) sd_xf 55 [] [.int s0] M 0 0 := by
  unfold k_O_touch_55 at hw
  exact x_iret d_O_touch_55 rfl (fun _ h => h) ⟨_, rfl, hw⟩
def k_O_touch_54 (Q : Int32 → sdM → Prop) (M : sdM) : Prop := k_O_touch_55 Q M (1 : Int32)
set_option maxHeartbeats 1000000 in
theorem t_O_touch_54 (hA : sd_ad b n ad) (hT : l.stackTraces = false) (hO : isO n L dA) {Q : Int32 → sdM → Prop} (M : sdM) (hw : k_O_touch_54 Q M ) : sdW l (sdE0 sc) Y_O_touch D (sd_tys dA) b n ad L ad (sd_H D (sdE0 sc).1 n ad L) (sd_qi Q) sd_xf 54 [] [] M 0 0 := by
  unfold k_O_touch_54 at hw
  refine x_iconst (v := 1) d_O_touch_54 (by decide) ?_
  exact t_O_touch_55 hA hT hO M (1 : Int32) hw
def k_O_touch_26 (Q : Int32 → sdM → Prop) (M : sdM) : Prop := Q (2 : Int32) M
set_option maxHeartbeats 1000000 in
theorem t_O_touch_26 (hA : sd_ad b n ad) (hT : l.stackTraces = false) (hO : isO n L dA) {Q : Int32 → sdM → Prop} (M : sdM) (hw : k_O_touch_26 Q M ) : sdW l (sdE0 sc) Y_O_touch D (sd_tys dA) b n ad L ad (sd_H D (sdE0 sc).1 n ad L) (sd_qi Q) sd_xf 26 [] [] M 0 0 := by
  unfold k_O_touch_26 at hw
  refine x_iconst (v := 2) d_O_touch_26 (by decide) ?_
  exact x_iret d_O_touch_27 rfl (fun _ h => h) ⟨_, rfl, hw⟩
def w_O_touch (M : sdM) (a1 : Int32) (a2 : Int32) (a3 : Int32) (a4 : Int32) (Q : Int32 → sdM → Prop) : Prop := w_O_isDown M (fun r11 M10 => (r11 = 0 → w_O_isSession M10 a1 (fun r13 M12 => (r13 = 0 → k_O_touch_26 Q M12) ∧ (¬ r13 = 0 → w_O_isLeaf M12 a2 a4 (fun r15 M14 => (¬ r15 = 0 → vp_in a1 3 ∧ ((M14 133 a1.toNatClampNeg) = 0 → k_O_touch_54 Q M14) ∧ (¬ (M14 133 a1.toNatClampNeg) = 0 → w_O_find M14 ((10 : Int32) + a1) a2 a3 (fun r18 M17 => (r18 < 0 → k_O_touch_54 Q M17) ∧ (¬ r18 < 0 → k_O_touch_55 Q M17 (0 : Int32))))) ∧ (r15 = 0 → k_O_touch_26 Q M14))))) ∧ (¬ r11 = 0 → Q (1 : Int32) M10))
set_option maxHeartbeats 1000000 in
theorem c_O_touch {a1 : Int32} {a2 : Int32} {a3 : Int32} {a4 : Int32} (hA : sd_ad b n ad) (hT : l.stackTraces = false) (hO : isO n L dA) {Q : Int32 → sdM → Prop} {M : sdM} (hw : w_O_touch M a1 a2 a3 a4 Q) : sd_Cn l (sdE0 sc) y_O_touch Y_O_touch.2.2.2.2.1 Y_O_touch.2.2.2.2.2.1 0 0 D (sd_tys dA) b n ad L M [.ref 116, .int a1, .int a2, .int a3, .int a4] (sd_qi Q) sd_xf := by
  refine sd_enter (Y := Y_O_touch) rfl rfl rfl rfl (Nat.le_of_ble_eq_true rfl) ?_
  show sdW l (sdE0 sc) Y_O_touch D (sd_tys dA) b n ad L ad (sd_H D (sdE0 sc).1 n ad L) (sd_qi Q) sd_xf 0 [(0, .ref 116), (1, .int a1), (2, .int a2), (3, .int a3), (4, .int a4)] [] M 0 0
  unfold w_O_touch at hw
  refine x_aload_n 0 0 d_O_touch_0 rfl rfl ?_
  refine x_callVi (As := []) (t := 116) (rest := []) (rc := 0) (rs := 0) (c_O_isDown hA hT hO hw) cw_O_touch_O_isDown_153 hO.1 hO.2.1 rfl d_O_touch_1 rfl rfl (Nat.le_of_ble_eq_true rfl) rfl (fun _ _ h => h.elim) (fun _ _ h => h) (fun r11 M10 hw => ?_)
  refine x_if_eq 9 d_O_touch_4 rfl (fun hc => ?_) (fun hc => ?_)
  · have hw := hw.1 hc
    refine x_iload_n 1 1 d_O_touch_9 rfl rfl ?_
    refine x_callSi (As := [.int a1]) (rest := []) (rc := 0) (rs := 0) (c_O_isSession hA hT  hw) cw_O_touch_O_isSession_157 d_O_touch_10 rfl rfl (Nat.le_of_ble_eq_true rfl) rfl (fun _ _ h => h.elim) (fun _ _ h => h) (fun r13 M12 hw => ?_)
    refine x_if_eq 26 d_O_touch_13 rfl (fun hc => ?_) (fun hc => ?_)
    · have hw := hw.1 hc
      refine x_sub [] [] rfl ?_
      exact t_O_touch_26 hA hT hO M12 hw
    · have hw := hw.2 hc
      refine x_aload_n 0 0 d_O_touch_16 rfl rfl ?_
      refine x_iload_n 2 2 d_O_touch_17 rfl rfl ?_
      refine x_iload 4 4 d_O_touch_18 rfl ?_
      refine x_callVi (As := [.int a2, .int a4]) (t := 116) (rest := []) (rc := 0) (rs := 0) (c_O_isLeaf hA hT hO hw) cw_O_touch_O_isLeaf_83 hO.1 hO.2.1 rfl d_O_touch_20 rfl rfl (Nat.le_of_ble_eq_true rfl) rfl (fun _ _ h => h.elim) (fun _ _ h => h) (fun r15 M14 hw => ?_)
      refine x_if_ne 28 d_O_touch_23 rfl (fun hc => ?_) (fun hc => ?_)
      · have hw := hw.1 hc
        refine x_aload_n 0 0 d_O_touch_28 rfl rfl ?_
        refine x_getr 22 133 d_O_touch_29 hO.1 hO.2.1 rfl rfl (by decide) lay_O (List.mem_cons_of_mem _ q519) rfl ?_
        refine x_iload_n 1 1 d_O_touch_32 rfl rfl ?_
        obtain ⟨hi16, hw⟩ := hw
        refine x_zald d_O_touch_33 hO.begun.1 hO.begun.2 rfl hi16 ?_
        refine x_if_eq 54 d_O_touch_34 rfl (fun hc => ?_) (fun hc => ?_)
        · have hw := hw.1 hc
          refine x_sub [] [] rfl ?_
          exact t_O_touch_54 hA hT hO M14 hw
        · have hw := hw.2 hc
          refine x_aload_n 0 0 d_O_touch_37 rfl rfl ?_
          refine x_bipush (v := 10) d_O_touch_38 (by decide) ?_
          refine x_iload_n 1 1 d_O_touch_40 rfl rfl ?_
          refine x_iadd d_O_touch_41 ?_
          refine x_iload_n 2 2 d_O_touch_42 rfl rfl ?_
          refine x_iload_n 3 3 d_O_touch_43 rfl rfl ?_
          refine x_callVi (As := [.int ((10 : Int32) + a1), .int a2, .int a3]) (t := 116) (rest := []) (rc := 0) (rs := 0) (c_O_find hA hT hO hw) cw_O_touch_O_find_115 hO.1 hO.2.1 rfl d_O_touch_44 rfl rfl (Nat.le_of_ble_eq_true rfl) rfl (fun _ _ h => h.elim) (fun _ _ h => h) (fun r18 M17 hw => ?_)
          refine x_if_lt 54 d_O_touch_47 rfl (fun hc => ?_) (fun hc => ?_)
          · have hw := hw.1 hc
            refine x_sub [] [] rfl ?_
            exact t_O_touch_54 hA hT hO M17 hw
          · have hw := hw.2 hc
            refine x_iconst (v := 0) d_O_touch_50 (by decide) ?_
            refine x_goto 55 d_O_touch_51 rfl ?_
            refine x_sub [] [] rfl ?_
            exact t_O_touch_55 hA hT hO M17 (0 : Int32) hw
      · have hw := hw.2 hc
        refine x_sub [] [] rfl ?_
        exact t_O_touch_26 hA hT hO M14 hw
  · have hw := hw.2 hc
    refine x_iconst (v := 1) d_O_touch_7 (by decide) ?_
    exact x_iret d_O_touch_8 rfl (fun _ h => h) ⟨_, rfl, hw⟩
end
abbrev y_O_needs : MethodName := ⟨"SettingsDeskModel", "needs", "(I)I"⟩
theorem d_O_needs_0 : decode prog_12_method_35_code 0 = .ok (.aload_n 0, 1) := by decide +kernel
theorem d_O_needs_1 : decode prog_12_method_35_code 1 = .ok (.invokevirtual 153, 3) := by decide +kernel
theorem d_O_needs_4 : decode prog_12_method_35_code 4 = .ok (.ifCond .eq (7), 3) := by decide +kernel
theorem d_O_needs_7 : decode prog_12_method_35_code 7 = .ok (.iconst 1, 1) := by decide +kernel
theorem d_O_needs_8 : decode prog_12_method_35_code 8 = .ok (.goto (28), 3) := by decide +kernel
theorem d_O_needs_11 : decode prog_12_method_35_code 11 = .ok (.iload_n 1, 1) := by decide +kernel
theorem d_O_needs_12 : decode prog_12_method_35_code 12 = .ok (.invokestatic 157, 3) := by decide +kernel
theorem d_O_needs_15 : decode prog_12_method_35_code 15 = .ok (.ifCond .ne (7), 3) := by decide +kernel
theorem d_O_needs_18 : decode prog_12_method_35_code 18 = .ok (.iconst 2, 1) := by decide +kernel
theorem d_O_needs_19 : decode prog_12_method_35_code 19 = .ok (.goto (17), 3) := by decide +kernel
theorem d_O_needs_22 : decode prog_12_method_35_code 22 = .ok (.aload_n 0, 1) := by decide +kernel
theorem d_O_needs_23 : decode prog_12_method_35_code 23 = .ok (.getfield 63, 3) := by decide +kernel
theorem d_O_needs_26 : decode prog_12_method_35_code 26 = .ok (.iload_n 1, 1) := by decide +kernel
theorem d_O_needs_27 : decode prog_12_method_35_code 27 = .ok (.baload, 1) := by decide +kernel
theorem d_O_needs_28 : decode prog_12_method_35_code 28 = .ok (.ifCond .eq (7), 3) := by decide +kernel
theorem d_O_needs_31 : decode prog_12_method_35_code 31 = .ok (.iconst 0, 1) := by decide +kernel
theorem d_O_needs_32 : decode prog_12_method_35_code 32 = .ok (.goto (4), 3) := by decide +kernel
theorem d_O_needs_35 : decode prog_12_method_35_code 35 = .ok (.iconst 1, 1) := by decide +kernel
theorem d_O_needs_36 : decode prog_12_method_35_code 36 = .ok (.ireturn, 1) := by decide +kernel
def Y_O_needs : sdY := ("SettingsDeskModel", prog_12_method_35_code, 2, (some .int), .code y_O_needs prog_12_method_35_code 2 (some .int) :: sdB0, { frames := 1, cells := 0, slots := 0, locals := 20 }, 0, 0, [])
theorem cw_O_needs_O_isDown_153 : sd_cwV Y_O_needs Y_O_isDown y_O_isDown 153 0 "SettingsDeskModel" := ⟨sd_goodV q520 q522 q523 q459 q521, ⟨_, rfl⟩, ⟨rfl, rfl, rfl, rfl⟩, ⟨rfl, by decide, by decide, by decide +kernel⟩, ⟨by decide, by decide⟩⟩
theorem cw_O_needs_O_isSession_157 : sd_cwS Y_O_needs Y_O_isSession y_O_isSession 157 1 := ⟨sd_goodS q524 q526 q459 q525, ⟨_, rfl⟩, ⟨rfl, rfl, rfl, rfl⟩, ⟨by decide, by decide, by decide +kernel⟩, ⟨by decide, by decide⟩⟩
section
variable {l : Launch} {D : va_G} {dA : Nat → ClassId} {b n : Nat} {ad : Nat → Nat} {L : Nat → sdL} {sc : Option (Nat × Nat × (Nat → Int32))}
def k_O_needs_36 (Q : Int32 → sdM → Prop) (M : sdM) (s0 : Int32) : Prop := Q s0 M
set_option maxHeartbeats 1000000 in
theorem t_O_needs_36 (hA : sd_ad b n ad) (hT : l.stackTraces = false) (hO : isO n L dA) {Q : Int32 → sdM → Prop} (M : sdM) (s0 : Int32) (hw : k_O_needs_36 Q M s0) : sdW l (sdE0 sc) Y_O_needs D (sd_tys dA) b n ad L ad (sd_H D (sdE0 sc).1 n ad L) (sd_qi Q) sd_xf 36 [] [.int s0] M 0 0 := by
  unfold k_O_needs_36 at hw
  exact x_iret d_O_needs_36 rfl (fun _ h => h) ⟨_, rfl, hw⟩
def w_O_needs (M : sdM) (a1 : Int32) (Q : Int32 → sdM → Prop) : Prop := w_O_isDown M (fun r7 M6 => (r7 = 0 → w_O_isSession M6 a1 (fun r9 M8 => (¬ r9 = 0 → vp_in a1 3 ∧ ((M8 133 a1.toNatClampNeg) = 0 → k_O_needs_36 Q M8 (1 : Int32)) ∧ (¬ (M8 133 a1.toNatClampNeg) = 0 → k_O_needs_36 Q M8 (0 : Int32))) ∧ (r9 = 0 → k_O_needs_36 Q M8 (2 : Int32)))) ∧ (¬ r7 = 0 → k_O_needs_36 Q M6 (1 : Int32)))
set_option maxHeartbeats 1000000 in
theorem c_O_needs {a1 : Int32} (hA : sd_ad b n ad) (hT : l.stackTraces = false) (hO : isO n L dA) {Q : Int32 → sdM → Prop} {M : sdM} (hw : w_O_needs M a1 Q) : sd_Cn l (sdE0 sc) y_O_needs Y_O_needs.2.2.2.2.1 Y_O_needs.2.2.2.2.2.1 0 0 D (sd_tys dA) b n ad L M [.ref 116, .int a1] (sd_qi Q) sd_xf := by
  refine sd_enter (Y := Y_O_needs) rfl rfl rfl rfl (Nat.le_of_ble_eq_true rfl) ?_
  show sdW l (sdE0 sc) Y_O_needs D (sd_tys dA) b n ad L ad (sd_H D (sdE0 sc).1 n ad L) (sd_qi Q) sd_xf 0 [(0, .ref 116), (1, .int a1)] [] M 0 0
  unfold w_O_needs at hw
  refine x_aload_n 0 0 d_O_needs_0 rfl rfl ?_
  refine x_callVi (As := []) (t := 116) (rest := []) (rc := 0) (rs := 0) (c_O_isDown hA hT hO hw) cw_O_needs_O_isDown_153 hO.1 hO.2.1 rfl d_O_needs_1 rfl rfl (Nat.le_of_ble_eq_true rfl) rfl (fun _ _ h => h.elim) (fun _ _ h => h) (fun r7 M6 hw => ?_)
  refine x_if_eq 11 d_O_needs_4 rfl (fun hc => ?_) (fun hc => ?_)
  · have hw := hw.1 hc
    refine x_iload_n 1 1 d_O_needs_11 rfl rfl ?_
    refine x_callSi (As := [.int a1]) (rest := []) (rc := 0) (rs := 0) (c_O_isSession hA hT  hw) cw_O_needs_O_isSession_157 d_O_needs_12 rfl rfl (Nat.le_of_ble_eq_true rfl) rfl (fun _ _ h => h.elim) (fun _ _ h => h) (fun r9 M8 hw => ?_)
    refine x_if_ne 22 d_O_needs_15 rfl (fun hc => ?_) (fun hc => ?_)
    · have hw := hw.1 hc
      refine x_aload_n 0 0 d_O_needs_22 rfl rfl ?_
      refine x_getr 22 133 d_O_needs_23 hO.1 hO.2.1 rfl rfl (by decide) lay_O (List.mem_cons_of_mem _ q519) rfl ?_
      refine x_iload_n 1 1 d_O_needs_26 rfl rfl ?_
      obtain ⟨hi10, hw⟩ := hw
      refine x_zald d_O_needs_27 hO.begun.1 hO.begun.2 rfl hi10 ?_
      refine x_if_eq 35 d_O_needs_28 rfl (fun hc => ?_) (fun hc => ?_)
      · have hw := hw.1 hc
        refine x_iconst (v := 1) d_O_needs_35 (by decide) ?_
        refine x_sub [] [] rfl ?_
        exact t_O_needs_36 hA hT hO M8 (1 : Int32) hw
      · have hw := hw.2 hc
        refine x_iconst (v := 0) d_O_needs_31 (by decide) ?_
        refine x_goto 36 d_O_needs_32 rfl ?_
        refine x_sub [] [] rfl ?_
        exact t_O_needs_36 hA hT hO M8 (0 : Int32) hw
    · have hw := hw.2 hc
      refine x_iconst (v := 2) d_O_needs_18 (by decide) ?_
      refine x_goto 36 d_O_needs_19 rfl ?_
      refine x_sub [] [] rfl ?_
      exact t_O_needs_36 hA hT hO M8 (2 : Int32) hw
  · have hw := hw.2 hc
    refine x_iconst (v := 1) d_O_needs_7 (by decide) ?_
    refine x_goto 36 d_O_needs_8 rfl ?_
    refine x_sub [] [] rfl ?_
    exact t_O_needs_36 hA hT hO M6 (1 : Int32) hw
end
abbrev y_O_alike : MethodName := ⟨"SettingsDeskModel", "alike", "(III)Z"⟩
theorem d_O_alike_0 : decode prog_12_method_17_code 0 = .ok (.aload_n 0, 1) := by decide +kernel
theorem d_O_alike_1 : decode prog_12_method_17_code 1 = .ok (.iload_n 1, 1) := by decide +kernel
theorem d_O_alike_2 : decode prog_12_method_17_code 2 = .ok (.iload_n 3, 1) := by decide +kernel
theorem d_O_alike_3 : decode prog_12_method_17_code 3 = .ok (.invokevirtual 98, 3) := by decide +kernel
theorem d_O_alike_6 : decode prog_12_method_17_code 6 = .ok (.aload_n 0, 1) := by decide +kernel
theorem d_O_alike_7 : decode prog_12_method_17_code 7 = .ok (.iload_n 2, 1) := by decide +kernel
theorem d_O_alike_8 : decode prog_12_method_17_code 8 = .ok (.iload_n 3, 1) := by decide +kernel
theorem d_O_alike_9 : decode prog_12_method_17_code 9 = .ok (.invokevirtual 98, 3) := by decide +kernel
theorem d_O_alike_12 : decode prog_12_method_17_code 12 = .ok (.if_icmp .ne (39), 3) := by decide +kernel
theorem d_O_alike_15 : decode prog_12_method_17_code 15 = .ok (.aload_n 0, 1) := by decide +kernel
theorem d_O_alike_16 : decode prog_12_method_17_code 16 = .ok (.iload_n 1, 1) := by decide +kernel
theorem d_O_alike_17 : decode prog_12_method_17_code 17 = .ok (.iload_n 3, 1) := by decide +kernel
theorem d_O_alike_18 : decode prog_12_method_17_code 18 = .ok (.invokevirtual 98, 3) := by decide +kernel
theorem d_O_alike_21 : decode prog_12_method_17_code 21 = .ok (.ifCond .eq (26), 3) := by decide +kernel
theorem d_O_alike_24 : decode prog_12_method_17_code 24 = .ok (.aload_n 0, 1) := by decide +kernel
theorem d_O_alike_25 : decode prog_12_method_17_code 25 = .ok (.getfield 60, 3) := by decide +kernel
theorem d_O_alike_28 : decode prog_12_method_17_code 28 = .ok (.iconst 4, 1) := by decide +kernel
theorem d_O_alike_29 : decode prog_12_method_17_code 29 = .ok (.iload_n 1, 1) := by decide +kernel
theorem d_O_alike_30 : decode prog_12_method_17_code 30 = .ok (.imul, 1) := by decide +kernel
theorem d_O_alike_31 : decode prog_12_method_17_code 31 = .ok (.iload_n 3, 1) := by decide +kernel
theorem d_O_alike_32 : decode prog_12_method_17_code 32 = .ok (.iadd, 1) := by decide +kernel
theorem d_O_alike_33 : decode prog_12_method_17_code 33 = .ok (.iaload, 1) := by decide +kernel
theorem d_O_alike_34 : decode prog_12_method_17_code 34 = .ok (.aload_n 0, 1) := by decide +kernel
theorem d_O_alike_35 : decode prog_12_method_17_code 35 = .ok (.getfield 60, 3) := by decide +kernel
theorem d_O_alike_38 : decode prog_12_method_17_code 38 = .ok (.iconst 4, 1) := by decide +kernel
theorem d_O_alike_39 : decode prog_12_method_17_code 39 = .ok (.iload_n 2, 1) := by decide +kernel
theorem d_O_alike_40 : decode prog_12_method_17_code 40 = .ok (.imul, 1) := by decide +kernel
theorem d_O_alike_41 : decode prog_12_method_17_code 41 = .ok (.iload_n 3, 1) := by decide +kernel
theorem d_O_alike_42 : decode prog_12_method_17_code 42 = .ok (.iadd, 1) := by decide +kernel
theorem d_O_alike_43 : decode prog_12_method_17_code 43 = .ok (.iaload, 1) := by decide +kernel
theorem d_O_alike_44 : decode prog_12_method_17_code 44 = .ok (.if_icmp .ne (7), 3) := by decide +kernel
theorem d_O_alike_47 : decode prog_12_method_17_code 47 = .ok (.iconst 1, 1) := by decide +kernel
theorem d_O_alike_48 : decode prog_12_method_17_code 48 = .ok (.goto (4), 3) := by decide +kernel
theorem d_O_alike_51 : decode prog_12_method_17_code 51 = .ok (.iconst 0, 1) := by decide +kernel
theorem d_O_alike_52 : decode prog_12_method_17_code 52 = .ok (.ireturn, 1) := by decide +kernel
def Y_O_alike : sdY := ("SettingsDeskModel", prog_12_method_17_code, 4, (some .boolean), .code y_O_alike prog_12_method_17_code 4 (some .boolean) :: sdB0, { frames := 1, cells := 0, slots := 0, locals := 22 }, 0, 0, [])
theorem cw_O_alike_O_isSet_98 : sd_cwV Y_O_alike Y_O_isSet y_O_isSet 98 2 "SettingsDeskModel" := ⟨sd_goodV q473 q475 q476 q459 q474, ⟨_, rfl⟩, ⟨rfl, rfl, rfl, rfl⟩, ⟨rfl, by decide, by decide, by decide +kernel⟩, ⟨by decide, by decide⟩⟩
section
variable {l : Launch} {D : va_G} {dA : Nat → ClassId} {b n : Nat} {ad : Nat → Nat} {L : Nat → sdL} {sc : Option (Nat × Nat × (Nat → Int32))}
def k_O_alike_52 (Q : Int32 → sdM → Prop) (M : sdM) (s0 : Int32) : Prop := sdB s0 ∧ Q s0 M
set_option maxHeartbeats 1000000 in
theorem t_O_alike_52 (hA : sd_ad b n ad) (hT : l.stackTraces = false) (hO : isO n L dA) {Q : Int32 → sdM → Prop} (M : sdM) (s0 : Int32) (hw : k_O_alike_52 Q M s0) : sdW l (sdE0 sc) Y_O_alike D (sd_tys dA) b n ad L ad (sd_H D (sdE0 sc).1 n ad L) (sd_qi Q) sd_xf 52 [] [.int s0] M 0 0 := by
  unfold k_O_alike_52 at hw
  exact x_zret d_O_alike_52 rfl (sdB_n hw.1) (fun _ h => h) ⟨_, rfl, hw.2⟩
def k_O_alike_51 (Q : Int32 → sdM → Prop) (M : sdM) : Prop := k_O_alike_52 Q M (0 : Int32)
set_option maxHeartbeats 1000000 in
theorem t_O_alike_51 (hA : sd_ad b n ad) (hT : l.stackTraces = false) (hO : isO n L dA) {Q : Int32 → sdM → Prop} (M : sdM) (hw : k_O_alike_51 Q M ) : sdW l (sdE0 sc) Y_O_alike D (sd_tys dA) b n ad L ad (sd_H D (sdE0 sc).1 n ad L) (sd_qi Q) sd_xf 51 [] [] M 0 0 := by
  unfold k_O_alike_51 at hw
  refine x_iconst (v := 0) d_O_alike_51 (by decide) ?_
  exact t_O_alike_52 hA hT hO M (0 : Int32) hw
def k_O_alike_47 (Q : Int32 → sdM → Prop) (M : sdM) : Prop := k_O_alike_52 Q M (1 : Int32)
set_option maxHeartbeats 1000000 in
theorem t_O_alike_47 (hA : sd_ad b n ad) (hT : l.stackTraces = false) (hO : isO n L dA) {Q : Int32 → sdM → Prop} (M : sdM) (hw : k_O_alike_47 Q M ) : sdW l (sdE0 sc) Y_O_alike D (sd_tys dA) b n ad L ad (sd_H D (sdE0 sc).1 n ad L) (sd_qi Q) sd_xf 47 [] [] M 0 0 := by
  unfold k_O_alike_47 at hw
  refine x_iconst (v := 1) d_O_alike_47 (by decide) ?_
  refine x_goto 52 d_O_alike_48 rfl ?_
  exact t_O_alike_52 hA hT hO M (1 : Int32) hw
def w_O_alike (M : sdM) (a1 : Int32) (a2 : Int32) (a3 : Int32) (Q : Int32 → sdM → Prop) : Prop := w_O_isSet M a1 a3 (fun r10 M9 => w_O_isSet M9 a2 a3 (fun r12 M11 => (¬ r10 = r12 → k_O_alike_51 Q M11) ∧ (r10 = r12 → w_O_isSet M11 a1 a3 (fun r14 M13 => (r14 = 0 → k_O_alike_47 Q M13) ∧ (¬ r14 = 0 → vp_in (((4 : Int32) * a1) + a3) 3264 ∧ vp_in (((4 : Int32) * a2) + a3) 3264 ∧ (¬ (M13 132 (((4 : Int32) * a1) + a3).toNatClampNeg) = (M13 132 (((4 : Int32) * a2) + a3).toNatClampNeg) → k_O_alike_51 Q M13) ∧ ((M13 132 (((4 : Int32) * a1) + a3).toNatClampNeg) = (M13 132 (((4 : Int32) * a2) + a3).toNatClampNeg) → k_O_alike_47 Q M13))))))
set_option maxHeartbeats 1000000 in
theorem c_O_alike {a1 : Int32} {a2 : Int32} {a3 : Int32} (hA : sd_ad b n ad) (hT : l.stackTraces = false) (hO : isO n L dA) {Q : Int32 → sdM → Prop} {M : sdM} (hw : w_O_alike M a1 a2 a3 Q) : sd_Cn l (sdE0 sc) y_O_alike Y_O_alike.2.2.2.2.1 Y_O_alike.2.2.2.2.2.1 0 0 D (sd_tys dA) b n ad L M [.ref 116, .int a1, .int a2, .int a3] (sd_qi Q) sd_xf := by
  refine sd_enter (Y := Y_O_alike) rfl rfl rfl rfl (Nat.le_of_ble_eq_true rfl) ?_
  show sdW l (sdE0 sc) Y_O_alike D (sd_tys dA) b n ad L ad (sd_H D (sdE0 sc).1 n ad L) (sd_qi Q) sd_xf 0 [(0, .ref 116), (1, .int a1), (2, .int a2), (3, .int a3)] [] M 0 0
  unfold w_O_alike at hw
  refine x_aload_n 0 0 d_O_alike_0 rfl rfl ?_
  refine x_iload_n 1 1 d_O_alike_1 rfl rfl ?_
  refine x_iload_n 3 3 d_O_alike_2 rfl rfl ?_
  refine x_callVi (As := [.int a1, .int a3]) (t := 116) (rest := []) (rc := 0) (rs := 0) (c_O_isSet hA hT hO hw) cw_O_alike_O_isSet_98 hO.1 hO.2.1 rfl d_O_alike_3 rfl rfl (Nat.le_of_ble_eq_true rfl) rfl (fun _ _ h => h.elim) (fun _ _ h => h) (fun r10 M9 hw => ?_)
  refine x_aload_n 0 0 d_O_alike_6 rfl rfl ?_
  refine x_iload_n 2 2 d_O_alike_7 rfl rfl ?_
  refine x_iload_n 3 3 d_O_alike_8 rfl rfl ?_
  refine x_callVi (As := [.int a2, .int a3]) (t := 116) (rest := [.int r10]) (rc := 0) (rs := 0) (c_O_isSet hA hT hO hw) cw_O_alike_O_isSet_98 hO.1 hO.2.1 rfl d_O_alike_9 rfl rfl (Nat.le_of_ble_eq_true rfl) rfl (fun _ _ h => h.elim) (fun _ _ h => h) (fun r12 M11 hw => ?_)
  refine x_icmp_ne 51 d_O_alike_12 rfl (fun hc => ?_) (fun hc => ?_)
  · have hw := hw.1 hc
    refine x_sub [] [] rfl ?_
    exact t_O_alike_51 hA hT hO M11 hw
  · have hw := hw.2 hc
    refine x_aload_n 0 0 d_O_alike_15 rfl rfl ?_
    refine x_iload_n 1 1 d_O_alike_16 rfl rfl ?_
    refine x_iload_n 3 3 d_O_alike_17 rfl rfl ?_
    refine x_callVi (As := [.int a1, .int a3]) (t := 116) (rest := []) (rc := 0) (rs := 0) (c_O_isSet hA hT hO hw) cw_O_alike_O_isSet_98 hO.1 hO.2.1 rfl d_O_alike_18 rfl rfl (Nat.le_of_ble_eq_true rfl) rfl (fun _ _ h => h.elim) (fun _ _ h => h) (fun r14 M13 hw => ?_)
    refine x_if_eq 47 d_O_alike_21 rfl (fun hc => ?_) (fun hc => ?_)
    · have hw := hw.1 hc
      refine x_sub [] [] rfl ?_
      exact t_O_alike_47 hA hT hO M13 hw
    · have hw := hw.2 hc
      refine x_aload_n 0 0 d_O_alike_24 rfl rfl ?_
      refine x_getr 19 132 d_O_alike_25 hO.1 hO.2.1 rfl rfl (by decide) lay_O (List.mem_cons_of_mem _ q477) rfl ?_
      refine x_iconst (v := 4) d_O_alike_28 (by decide) ?_
      refine x_iload_n 1 1 d_O_alike_29 rfl rfl ?_
      refine x_imul d_O_alike_30 ?_
      refine x_iload_n 3 3 d_O_alike_31 rfl rfl ?_
      refine x_iadd d_O_alike_32 ?_
      obtain ⟨hi15, hw⟩ := hw
      refine x_iald d_O_alike_33 hO.values.1 hO.values.2 rfl hi15 ?_
      refine x_aload_n 0 0 d_O_alike_34 rfl rfl ?_
      refine x_getr 19 132 d_O_alike_35 hO.1 hO.2.1 rfl rfl (by decide) lay_O (List.mem_cons_of_mem _ q477) rfl ?_
      refine x_iconst (v := 4) d_O_alike_38 (by decide) ?_
      refine x_iload_n 2 2 d_O_alike_39 rfl rfl ?_
      refine x_imul d_O_alike_40 ?_
      refine x_iload_n 3 3 d_O_alike_41 rfl rfl ?_
      refine x_iadd d_O_alike_42 ?_
      obtain ⟨hi16, hw⟩ := hw
      refine x_iald d_O_alike_43 hO.values.1 hO.values.2 rfl hi16 ?_
      refine x_icmp_ne 51 d_O_alike_44 rfl (fun hc => ?_) (fun hc => ?_)
      · have hw := hw.1 hc
        refine x_sub [] [] rfl ?_
        exact t_O_alike_51 hA hT hO M13 hw
      · have hw := hw.2 hc
        refine x_sub [] [] rfl ?_
        exact t_O_alike_47 hA hT hO M13 hw
end
theorem q531 : (.methodLink "SettingsDeskModel" 101 ⟨"SettingsDeskModel", "alike", "(III)Z"⟩ : Cond) ∈ sdB0 := sd_tb5 165 rfl rfl
theorem q532 : (.code ⟨"SettingsDeskModel", "alike", "(III)Z"⟩ prog_12_method_17_code 4 (some .boolean) : Cond) ∈ sdB0 := sd_tb5 168 rfl rfl
theorem q533 : (.instanceMethod ⟨"SettingsDeskModel", "alike", "(III)Z"⟩ : Cond) ∈ sdB0 := sd_tb5 167 rfl rfl
theorem q534 : (.selects "SettingsDeskModel" ⟨"SettingsDeskModel", "alike", "(III)Z"⟩ ⟨"SettingsDeskModel", "alike", "(III)Z"⟩ : Cond) ∈ sdB0 := sd_tbp (q := (⟨"SettingsDeskModel", "alike", "(III)Z"⟩, 35)) (List.mem_of_getElem? (i := 36) rfl)
abbrev y_O_sameEntry : MethodName := ⟨"SettingsDeskModel", "sameEntry", "(II)Z"⟩
theorem d_O_sameEntry_0 : decode prog_12_method_18_code 0 = .ok (.iload_n 1, 1) := by decide +kernel
theorem d_O_sameEntry_1 : decode prog_12_method_18_code 1 = .ok (.ifCond .ge (7), 3) := by decide +kernel
theorem d_O_sameEntry_4 : decode prog_12_method_18_code 4 = .ok (.iconst 1, 1) := by decide +kernel
theorem d_O_sameEntry_5 : decode prog_12_method_18_code 5 = .ok (.goto (4), 3) := by decide +kernel
theorem d_O_sameEntry_8 : decode prog_12_method_18_code 8 = .ok (.iconst 0, 1) := by decide +kernel
theorem d_O_sameEntry_9 : decode prog_12_method_18_code 9 = .ok (.iload_n 2, 1) := by decide +kernel
theorem d_O_sameEntry_10 : decode prog_12_method_18_code 10 = .ok (.ifCond .ge (7), 3) := by decide +kernel
theorem d_O_sameEntry_13 : decode prog_12_method_18_code 13 = .ok (.iconst 1, 1) := by decide +kernel
theorem d_O_sameEntry_14 : decode prog_12_method_18_code 14 = .ok (.goto (4), 3) := by decide +kernel
theorem d_O_sameEntry_17 : decode prog_12_method_18_code 17 = .ok (.iconst 0, 1) := by decide +kernel
theorem d_O_sameEntry_18 : decode prog_12_method_18_code 18 = .ok (.if_icmp .ne (47), 3) := by decide +kernel
theorem d_O_sameEntry_21 : decode prog_12_method_18_code 21 = .ok (.aload_n 0, 1) := by decide +kernel
theorem d_O_sameEntry_22 : decode prog_12_method_18_code 22 = .ok (.iload_n 1, 1) := by decide +kernel
theorem d_O_sameEntry_23 : decode prog_12_method_18_code 23 = .ok (.iload_n 2, 1) := by decide +kernel
theorem d_O_sameEntry_24 : decode prog_12_method_18_code 24 = .ok (.iconst 0, 1) := by decide +kernel
theorem d_O_sameEntry_25 : decode prog_12_method_18_code 25 = .ok (.invokevirtual 101, 3) := by decide +kernel
theorem d_O_sameEntry_28 : decode prog_12_method_18_code 28 = .ok (.ifCond .eq (37), 3) := by decide +kernel
theorem d_O_sameEntry_31 : decode prog_12_method_18_code 31 = .ok (.aload_n 0, 1) := by decide +kernel
theorem d_O_sameEntry_32 : decode prog_12_method_18_code 32 = .ok (.iload_n 1, 1) := by decide +kernel
theorem d_O_sameEntry_33 : decode prog_12_method_18_code 33 = .ok (.iload_n 2, 1) := by decide +kernel
theorem d_O_sameEntry_34 : decode prog_12_method_18_code 34 = .ok (.iconst 1, 1) := by decide +kernel
theorem d_O_sameEntry_35 : decode prog_12_method_18_code 35 = .ok (.invokevirtual 101, 3) := by decide +kernel
theorem d_O_sameEntry_38 : decode prog_12_method_18_code 38 = .ok (.ifCond .eq (27), 3) := by decide +kernel
theorem d_O_sameEntry_41 : decode prog_12_method_18_code 41 = .ok (.aload_n 0, 1) := by decide +kernel
theorem d_O_sameEntry_42 : decode prog_12_method_18_code 42 = .ok (.iload_n 1, 1) := by decide +kernel
theorem d_O_sameEntry_43 : decode prog_12_method_18_code 43 = .ok (.iload_n 2, 1) := by decide +kernel
theorem d_O_sameEntry_44 : decode prog_12_method_18_code 44 = .ok (.iconst 2, 1) := by decide +kernel
theorem d_O_sameEntry_45 : decode prog_12_method_18_code 45 = .ok (.invokevirtual 101, 3) := by decide +kernel
theorem d_O_sameEntry_48 : decode prog_12_method_18_code 48 = .ok (.ifCond .eq (17), 3) := by decide +kernel
theorem d_O_sameEntry_51 : decode prog_12_method_18_code 51 = .ok (.aload_n 0, 1) := by decide +kernel
theorem d_O_sameEntry_52 : decode prog_12_method_18_code 52 = .ok (.iload_n 1, 1) := by decide +kernel
theorem d_O_sameEntry_53 : decode prog_12_method_18_code 53 = .ok (.iload_n 2, 1) := by decide +kernel
theorem d_O_sameEntry_54 : decode prog_12_method_18_code 54 = .ok (.iconst 3, 1) := by decide +kernel
theorem d_O_sameEntry_55 : decode prog_12_method_18_code 55 = .ok (.invokevirtual 101, 3) := by decide +kernel
theorem d_O_sameEntry_58 : decode prog_12_method_18_code 58 = .ok (.ifCond .eq (7), 3) := by decide +kernel
theorem d_O_sameEntry_61 : decode prog_12_method_18_code 61 = .ok (.iconst 1, 1) := by decide +kernel
theorem d_O_sameEntry_62 : decode prog_12_method_18_code 62 = .ok (.goto (4), 3) := by decide +kernel
theorem d_O_sameEntry_65 : decode prog_12_method_18_code 65 = .ok (.iconst 0, 1) := by decide +kernel
theorem d_O_sameEntry_66 : decode prog_12_method_18_code 66 = .ok (.ireturn, 1) := by decide +kernel
def Y_O_sameEntry : sdY := ("SettingsDeskModel", prog_12_method_18_code, 3, (some .boolean), .code y_O_sameEntry prog_12_method_18_code 3 (some .boolean) :: sdB0, { frames := 2, cells := 0, slots := 0, locals := 45 }, 0, 0, [])
theorem cw_O_sameEntry_O_alike_101 : sd_cwV Y_O_sameEntry Y_O_alike y_O_alike 101 3 "SettingsDeskModel" := ⟨sd_goodV q531 q533 q534 q459 q532, ⟨_, rfl⟩, ⟨rfl, rfl, rfl, rfl⟩, ⟨rfl, by decide, by decide, by decide +kernel⟩, ⟨by decide, by decide⟩⟩
section
variable {l : Launch} {D : va_G} {dA : Nat → ClassId} {b n : Nat} {ad : Nat → Nat} {L : Nat → sdL} {sc : Option (Nat × Nat × (Nat → Int32))}
def k_O_sameEntry_66 (Q : Int32 → sdM → Prop) (M : sdM) (s0 : Int32) : Prop := sdB s0 ∧ Q s0 M
set_option maxHeartbeats 1000000 in
theorem t_O_sameEntry_66 (hA : sd_ad b n ad) (hT : l.stackTraces = false) (hO : isO n L dA) {Q : Int32 → sdM → Prop} (M : sdM) (s0 : Int32) (hw : k_O_sameEntry_66 Q M s0) : sdW l (sdE0 sc) Y_O_sameEntry D (sd_tys dA) b n ad L ad (sd_H D (sdE0 sc).1 n ad L) (sd_qi Q) sd_xf 66 [] [.int s0] M 0 0 := by
  unfold k_O_sameEntry_66 at hw
  exact x_zret d_O_sameEntry_66 rfl (sdB_n hw.1) (fun _ h => h) ⟨_, rfl, hw.2⟩
def k_O_sameEntry_65 (Q : Int32 → sdM → Prop) (M : sdM) : Prop := k_O_sameEntry_66 Q M (0 : Int32)
set_option maxHeartbeats 1000000 in
theorem t_O_sameEntry_65 (hA : sd_ad b n ad) (hT : l.stackTraces = false) (hO : isO n L dA) {Q : Int32 → sdM → Prop} (M : sdM) (hw : k_O_sameEntry_65 Q M ) : sdW l (sdE0 sc) Y_O_sameEntry D (sd_tys dA) b n ad L ad (sd_H D (sdE0 sc).1 n ad L) (sd_qi Q) sd_xf 65 [] [] M 0 0 := by
  unfold k_O_sameEntry_65 at hw
  refine x_iconst (v := 0) d_O_sameEntry_65 (by decide) ?_
  exact t_O_sameEntry_66 hA hT hO M (0 : Int32) hw
def k_O_sameEntry_18 (Q : Int32 → sdM → Prop) (M : sdM) (x1 : Int32) (x2 : Int32) (s0 : Int32) (s1 : Int32) : Prop := (¬ s0 = s1 → k_O_sameEntry_65 Q M) ∧ (s0 = s1 → w_O_alike M x1 x2 (0 : Int32) (fun r10 M9 => (r10 = 0 → k_O_sameEntry_65 Q M9) ∧ (¬ r10 = 0 → w_O_alike M9 x1 x2 (1 : Int32) (fun r12 M11 => (r12 = 0 → k_O_sameEntry_65 Q M11) ∧ (¬ r12 = 0 → w_O_alike M11 x1 x2 (2 : Int32) (fun r14 M13 => (r14 = 0 → k_O_sameEntry_65 Q M13) ∧ (¬ r14 = 0 → w_O_alike M13 x1 x2 (3 : Int32) (fun r16 M15 => (r16 = 0 → k_O_sameEntry_65 Q M15) ∧ (¬ r16 = 0 → k_O_sameEntry_66 Q M15 (1 : Int32))))))))))
set_option maxHeartbeats 1000000 in
theorem t_O_sameEntry_18 (hA : sd_ad b n ad) (hT : l.stackTraces = false) (hO : isO n L dA) {Q : Int32 → sdM → Prop} (M : sdM) (x1 : Int32) (x2 : Int32) (s0 : Int32) (s1 : Int32) (hw : k_O_sameEntry_18 Q M x1 x2 s0 s1) : sdW l (sdE0 sc) Y_O_sameEntry D (sd_tys dA) b n ad L ad (sd_H D (sdE0 sc).1 n ad L) (sd_qi Q) sd_xf 18 [(0, .ref 116), (1, .int x1), (2, .int x2)] [.int s1, .int s0] M 0 0 := by
  unfold k_O_sameEntry_18 at hw
  refine x_icmp_ne 65 d_O_sameEntry_18 rfl (fun hc => ?_) (fun hc => ?_)
  · have hw := hw.1 hc
    refine x_sub [] [] rfl ?_
    exact t_O_sameEntry_65 hA hT hO M hw
  · have hw := hw.2 hc
    refine x_aload_n 0 0 d_O_sameEntry_21 rfl rfl ?_
    refine x_iload_n 1 1 d_O_sameEntry_22 rfl rfl ?_
    refine x_iload_n 2 2 d_O_sameEntry_23 rfl rfl ?_
    refine x_iconst (v := 0) d_O_sameEntry_24 (by decide) ?_
    refine x_callVi (As := [.int x1, .int x2, .int (0 : Int32)]) (t := 116) (rest := []) (rc := 0) (rs := 0) (c_O_alike hA hT hO hw) cw_O_sameEntry_O_alike_101 hO.1 hO.2.1 rfl d_O_sameEntry_25 rfl rfl (Nat.le_of_ble_eq_true rfl) rfl (fun _ _ h => h.elim) (fun _ _ h => h) (fun r10 M9 hw => ?_)
    refine x_if_eq 65 d_O_sameEntry_28 rfl (fun hc => ?_) (fun hc => ?_)
    · have hw := hw.1 hc
      refine x_sub [] [] rfl ?_
      exact t_O_sameEntry_65 hA hT hO M9 hw
    · have hw := hw.2 hc
      refine x_aload_n 0 0 d_O_sameEntry_31 rfl rfl ?_
      refine x_iload_n 1 1 d_O_sameEntry_32 rfl rfl ?_
      refine x_iload_n 2 2 d_O_sameEntry_33 rfl rfl ?_
      refine x_iconst (v := 1) d_O_sameEntry_34 (by decide) ?_
      refine x_callVi (As := [.int x1, .int x2, .int (1 : Int32)]) (t := 116) (rest := []) (rc := 0) (rs := 0) (c_O_alike hA hT hO hw) cw_O_sameEntry_O_alike_101 hO.1 hO.2.1 rfl d_O_sameEntry_35 rfl rfl (Nat.le_of_ble_eq_true rfl) rfl (fun _ _ h => h.elim) (fun _ _ h => h) (fun r12 M11 hw => ?_)
      refine x_if_eq 65 d_O_sameEntry_38 rfl (fun hc => ?_) (fun hc => ?_)
      · have hw := hw.1 hc
        refine x_sub [] [] rfl ?_
        exact t_O_sameEntry_65 hA hT hO M11 hw
      · have hw := hw.2 hc
        refine x_aload_n 0 0 d_O_sameEntry_41 rfl rfl ?_
        refine x_iload_n 1 1 d_O_sameEntry_42 rfl rfl ?_
        refine x_iload_n 2 2 d_O_sameEntry_43 rfl rfl ?_
        refine x_iconst (v := 2) d_O_sameEntry_44 (by decide) ?_
        refine x_callVi (As := [.int x1, .int x2, .int (2 : Int32)]) (t := 116) (rest := []) (rc := 0) (rs := 0) (c_O_alike hA hT hO hw) cw_O_sameEntry_O_alike_101 hO.1 hO.2.1 rfl d_O_sameEntry_45 rfl rfl (Nat.le_of_ble_eq_true rfl) rfl (fun _ _ h => h.elim) (fun _ _ h => h) (fun r14 M13 hw => ?_)
        refine x_if_eq 65 d_O_sameEntry_48 rfl (fun hc => ?_) (fun hc => ?_)
        · have hw := hw.1 hc
          refine x_sub [] [] rfl ?_
          exact t_O_sameEntry_65 hA hT hO M13 hw
        · have hw := hw.2 hc
          refine x_aload_n 0 0 d_O_sameEntry_51 rfl rfl ?_
          refine x_iload_n 1 1 d_O_sameEntry_52 rfl rfl ?_
          refine x_iload_n 2 2 d_O_sameEntry_53 rfl rfl ?_
          refine x_iconst (v := 3) d_O_sameEntry_54 (by decide) ?_
          refine x_callVi (As := [.int x1, .int x2, .int (3 : Int32)]) (t := 116) (rest := []) (rc := 0) (rs := 0) (c_O_alike hA hT hO hw) cw_O_sameEntry_O_alike_101 hO.1 hO.2.1 rfl d_O_sameEntry_55 rfl rfl (Nat.le_of_ble_eq_true rfl) rfl (fun _ _ h => h.elim) (fun _ _ h => h) (fun r16 M15 hw => ?_)
          refine x_if_eq 65 d_O_sameEntry_58 rfl (fun hc => ?_) (fun hc => ?_)
          · have hw := hw.1 hc
            refine x_sub [] [] rfl ?_
            exact t_O_sameEntry_65 hA hT hO M15 hw
          · have hw := hw.2 hc
            refine x_iconst (v := 1) d_O_sameEntry_61 (by decide) ?_
            refine x_goto 66 d_O_sameEntry_62 rfl ?_
            refine x_sub [] [] rfl ?_
            exact t_O_sameEntry_66 hA hT hO M15 (1 : Int32) hw
def k_O_sameEntry_9 (Q : Int32 → sdM → Prop) (M : sdM) (x1 : Int32) (x2 : Int32) (s0 : Int32) : Prop := (0 ≤ x2 → k_O_sameEntry_18 Q M x1 x2 s0 (0 : Int32)) ∧ (¬ 0 ≤ x2 → k_O_sameEntry_18 Q M x1 x2 s0 (1 : Int32))
set_option maxHeartbeats 1000000 in
theorem t_O_sameEntry_9 (hA : sd_ad b n ad) (hT : l.stackTraces = false) (hO : isO n L dA) {Q : Int32 → sdM → Prop} (M : sdM) (x1 : Int32) (x2 : Int32) (s0 : Int32) (hw : k_O_sameEntry_9 Q M x1 x2 s0) : sdW l (sdE0 sc) Y_O_sameEntry D (sd_tys dA) b n ad L ad (sd_H D (sdE0 sc).1 n ad L) (sd_qi Q) sd_xf 9 [(0, .ref 116), (1, .int x1), (2, .int x2)] [.int s0] M 0 0 := by
  unfold k_O_sameEntry_9 at hw
  refine x_iload_n 2 2 d_O_sameEntry_9 rfl rfl ?_
  refine x_if_ge 17 d_O_sameEntry_10 rfl (fun hc => ?_) (fun hc => ?_)
  · have hw := hw.1 hc
    refine x_iconst (v := 0) d_O_sameEntry_17 (by decide) ?_
    exact t_O_sameEntry_18 hA hT hO M x1 x2 s0 (0 : Int32) hw
  · have hw := hw.2 hc
    refine x_iconst (v := 1) d_O_sameEntry_13 (by decide) ?_
    refine x_goto 18 d_O_sameEntry_14 rfl ?_
    exact t_O_sameEntry_18 hA hT hO M x1 x2 s0 (1 : Int32) hw
def w_O_sameEntry (M : sdM) (a1 : Int32) (a2 : Int32) (Q : Int32 → sdM → Prop) : Prop := (0 ≤ a1 → k_O_sameEntry_9 Q M a1 a2 (0 : Int32)) ∧ (¬ 0 ≤ a1 → k_O_sameEntry_9 Q M a1 a2 (1 : Int32))
set_option maxHeartbeats 1000000 in
theorem c_O_sameEntry {a1 : Int32} {a2 : Int32} (hA : sd_ad b n ad) (hT : l.stackTraces = false) (hO : isO n L dA) {Q : Int32 → sdM → Prop} {M : sdM} (hw : w_O_sameEntry M a1 a2 Q) : sd_Cn l (sdE0 sc) y_O_sameEntry Y_O_sameEntry.2.2.2.2.1 Y_O_sameEntry.2.2.2.2.2.1 0 0 D (sd_tys dA) b n ad L M [.ref 116, .int a1, .int a2] (sd_qi Q) sd_xf := by
  refine sd_enter (Y := Y_O_sameEntry) rfl rfl rfl rfl (Nat.le_of_ble_eq_true rfl) ?_
  show sdW l (sdE0 sc) Y_O_sameEntry D (sd_tys dA) b n ad L ad (sd_H D (sdE0 sc).1 n ad L) (sd_qi Q) sd_xf 0 [(0, .ref 116), (1, .int a1), (2, .int a2)] [] M 0 0
  unfold w_O_sameEntry at hw
  refine x_iload_n 1 1 d_O_sameEntry_0 rfl rfl ?_
  refine x_if_ge 8 d_O_sameEntry_1 rfl (fun hc => ?_) (fun hc => ?_)
  · have hw := hw.1 hc
    refine x_iconst (v := 0) d_O_sameEntry_8 (by decide) ?_
    exact t_O_sameEntry_9 hA hT hO M a1 a2 (0 : Int32) hw
  · have hw := hw.2 hc
    refine x_iconst (v := 1) d_O_sameEntry_4 (by decide) ?_
    refine x_goto 9 d_O_sameEntry_5 rfl ?_
    exact t_O_sameEntry_9 hA hT hO M a1 a2 (1 : Int32) hw
end
theorem q535 : (.methodLink "SettingsDeskModel" 105 ⟨"SettingsDeskModel", "sameEntry", "(II)Z"⟩ : Cond) ∈ sdB0 := sd_tb5 161 rfl rfl
theorem q536 : (.code ⟨"SettingsDeskModel", "sameEntry", "(II)Z"⟩ prog_12_method_18_code 3 (some .boolean) : Cond) ∈ sdB0 := sd_tb5 164 rfl rfl
theorem q537 : (.instanceMethod ⟨"SettingsDeskModel", "sameEntry", "(II)Z"⟩ : Cond) ∈ sdB0 := sd_tb5 163 rfl rfl
theorem q538 : (.selects "SettingsDeskModel" ⟨"SettingsDeskModel", "sameEntry", "(II)Z"⟩ ⟨"SettingsDeskModel", "sameEntry", "(II)Z"⟩ : Cond) ∈ sdB0 := sd_tbp (q := (⟨"SettingsDeskModel", "sameEntry", "(II)Z"⟩, 35)) (List.mem_of_getElem? (i := 35) rfl)
abbrev y_O_same : MethodName := ⟨"SettingsDeskModel", "same", "(II)Z"⟩
theorem d_O_same_0 : decode prog_12_method_19_code 0 = .ok (.iconst 1, 1) := by decide +kernel
theorem d_O_same_1 : decode prog_12_method_19_code 1 = .ok (.istore_n 3, 1) := by decide +kernel
theorem d_O_same_2 : decode prog_12_method_19_code 2 = .ok (.iconst 0, 1) := by decide +kernel
theorem d_O_same_3 : decode prog_12_method_19_code 3 = .ok (.istore 4, 2) := by decide +kernel
theorem d_O_same_5 : decode prog_12_method_19_code 5 = .ok (.iload 4, 2) := by decide +kernel
theorem d_O_same_7 : decode prog_12_method_19_code 7 = .ok (.iconst 4, 1) := by decide +kernel
theorem d_O_same_8 : decode prog_12_method_19_code 8 = .ok (.if_icmp .ge (137), 3) := by decide +kernel
theorem d_O_same_11 : decode prog_12_method_19_code 11 = .ok (.iload_n 3, 1) := by decide +kernel
theorem d_O_same_12 : decode prog_12_method_19_code 12 = .ok (.ifCond .eq (32), 3) := by decide +kernel
theorem d_O_same_15 : decode prog_12_method_19_code 15 = .ok (.aload_n 0, 1) := by decide +kernel
theorem d_O_same_16 : decode prog_12_method_19_code 16 = .ok (.getfield 51, 3) := by decide +kernel
theorem d_O_same_19 : decode prog_12_method_19_code 19 = .ok (.iconst 4, 1) := by decide +kernel
theorem d_O_same_20 : decode prog_12_method_19_code 20 = .ok (.iload_n 1, 1) := by decide +kernel
theorem d_O_same_21 : decode prog_12_method_19_code 21 = .ok (.imul, 1) := by decide +kernel
theorem d_O_same_22 : decode prog_12_method_19_code 22 = .ok (.iload 4, 2) := by decide +kernel
theorem d_O_same_24 : decode prog_12_method_19_code 24 = .ok (.iadd, 1) := by decide +kernel
theorem d_O_same_25 : decode prog_12_method_19_code 25 = .ok (.iaload, 1) := by decide +kernel
theorem d_O_same_26 : decode prog_12_method_19_code 26 = .ok (.aload_n 0, 1) := by decide +kernel
theorem d_O_same_27 : decode prog_12_method_19_code 27 = .ok (.getfield 51, 3) := by decide +kernel
theorem d_O_same_30 : decode prog_12_method_19_code 30 = .ok (.iconst 4, 1) := by decide +kernel
theorem d_O_same_31 : decode prog_12_method_19_code 31 = .ok (.iload_n 2, 1) := by decide +kernel
theorem d_O_same_32 : decode prog_12_method_19_code 32 = .ok (.imul, 1) := by decide +kernel
theorem d_O_same_33 : decode prog_12_method_19_code 33 = .ok (.iload 4, 2) := by decide +kernel
theorem d_O_same_35 : decode prog_12_method_19_code 35 = .ok (.iadd, 1) := by decide +kernel
theorem d_O_same_36 : decode prog_12_method_19_code 36 = .ok (.iaload, 1) := by decide +kernel
theorem d_O_same_37 : decode prog_12_method_19_code 37 = .ok (.if_icmp .ne (7), 3) := by decide +kernel
theorem d_O_same_40 : decode prog_12_method_19_code 40 = .ok (.iconst 1, 1) := by decide +kernel
theorem d_O_same_41 : decode prog_12_method_19_code 41 = .ok (.goto (4), 3) := by decide +kernel
theorem d_O_same_44 : decode prog_12_method_19_code 44 = .ok (.iconst 0, 1) := by decide +kernel
theorem d_O_same_45 : decode prog_12_method_19_code 45 = .ok (.istore_n 3, 1) := by decide +kernel
theorem d_O_same_46 : decode prog_12_method_19_code 46 = .ok (.iconst 0, 1) := by decide +kernel
theorem d_O_same_47 : decode prog_12_method_19_code 47 = .ok (.istore 5, 2) := by decide +kernel
theorem d_O_same_49 : decode prog_12_method_19_code 49 = .ok (.iload 5, 2) := by decide +kernel
theorem d_O_same_51 : decode prog_12_method_19_code 51 = .ok (.aload_n 0, 1) := by decide +kernel
theorem d_O_same_52 : decode prog_12_method_19_code 52 = .ok (.getfield 51, 3) := by decide +kernel
theorem d_O_same_55 : decode prog_12_method_19_code 55 = .ok (.iconst 4, 1) := by decide +kernel
theorem d_O_same_56 : decode prog_12_method_19_code 56 = .ok (.iload_n 1, 1) := by decide +kernel
theorem d_O_same_57 : decode prog_12_method_19_code 57 = .ok (.imul, 1) := by decide +kernel
theorem d_O_same_58 : decode prog_12_method_19_code 58 = .ok (.iload 4, 2) := by decide +kernel
theorem d_O_same_60 : decode prog_12_method_19_code 60 = .ok (.iadd, 1) := by decide +kernel
theorem d_O_same_61 : decode prog_12_method_19_code 61 = .ok (.iaload, 1) := by decide +kernel
theorem d_O_same_62 : decode prog_12_method_19_code 62 = .ok (.if_icmp .ge (77), 3) := by decide +kernel
theorem d_O_same_65 : decode prog_12_method_19_code 65 = .ok (.iload_n 3, 1) := by decide +kernel
theorem d_O_same_66 : decode prog_12_method_19_code 66 = .ok (.ifCond .eq (73), 3) := by decide +kernel
theorem d_O_same_69 : decode prog_12_method_19_code 69 = .ok (.bipush (48), 2) := by decide +kernel
theorem d_O_same_71 : decode prog_12_method_19_code 71 = .ok (.iload_n 1, 1) := by decide +kernel
theorem d_O_same_72 : decode prog_12_method_19_code 72 = .ok (.imul, 1) := by decide +kernel
theorem d_O_same_73 : decode prog_12_method_19_code 73 = .ok (.bipush (12), 2) := by decide +kernel
theorem d_O_same_75 : decode prog_12_method_19_code 75 = .ok (.iload 4, 2) := by decide +kernel
theorem d_O_same_77 : decode prog_12_method_19_code 77 = .ok (.imul, 1) := by decide +kernel
theorem d_O_same_78 : decode prog_12_method_19_code 78 = .ok (.iadd, 1) := by decide +kernel
theorem d_O_same_79 : decode prog_12_method_19_code 79 = .ok (.iload 5, 2) := by decide +kernel
theorem d_O_same_81 : decode prog_12_method_19_code 81 = .ok (.iadd, 1) := by decide +kernel
theorem d_O_same_82 : decode prog_12_method_19_code 82 = .ok (.istore 6, 2) := by decide +kernel
theorem d_O_same_84 : decode prog_12_method_19_code 84 = .ok (.bipush (48), 2) := by decide +kernel
theorem d_O_same_86 : decode prog_12_method_19_code 86 = .ok (.iload_n 2, 1) := by decide +kernel
theorem d_O_same_87 : decode prog_12_method_19_code 87 = .ok (.imul, 1) := by decide +kernel
theorem d_O_same_88 : decode prog_12_method_19_code 88 = .ok (.bipush (12), 2) := by decide +kernel
theorem d_O_same_90 : decode prog_12_method_19_code 90 = .ok (.iload 4, 2) := by decide +kernel
theorem d_O_same_92 : decode prog_12_method_19_code 92 = .ok (.imul, 1) := by decide +kernel
theorem d_O_same_93 : decode prog_12_method_19_code 93 = .ok (.iadd, 1) := by decide +kernel
theorem d_O_same_94 : decode prog_12_method_19_code 94 = .ok (.iload 5, 2) := by decide +kernel
theorem d_O_same_96 : decode prog_12_method_19_code 96 = .ok (.iadd, 1) := by decide +kernel
theorem d_O_same_97 : decode prog_12_method_19_code 97 = .ok (.istore 7, 2) := by decide +kernel
theorem d_O_same_99 : decode prog_12_method_19_code 99 = .ok (.aload_n 0, 1) := by decide +kernel
theorem d_O_same_100 : decode prog_12_method_19_code 100 = .ok (.getfield 54, 3) := by decide +kernel
theorem d_O_same_103 : decode prog_12_method_19_code 103 = .ok (.iload 6, 2) := by decide +kernel
theorem d_O_same_105 : decode prog_12_method_19_code 105 = .ok (.iaload, 1) := by decide +kernel
theorem d_O_same_106 : decode prog_12_method_19_code 106 = .ok (.aload_n 0, 1) := by decide +kernel
theorem d_O_same_107 : decode prog_12_method_19_code 107 = .ok (.getfield 54, 3) := by decide +kernel
theorem d_O_same_110 : decode prog_12_method_19_code 110 = .ok (.iload 7, 2) := by decide +kernel
theorem d_O_same_112 : decode prog_12_method_19_code 112 = .ok (.iaload, 1) := by decide +kernel
theorem d_O_same_113 : decode prog_12_method_19_code 113 = .ok (.if_icmp .ne (18), 3) := by decide +kernel
theorem d_O_same_116 : decode prog_12_method_19_code 116 = .ok (.aload_n 0, 1) := by decide +kernel
theorem d_O_same_117 : decode prog_12_method_19_code 117 = .ok (.iload 6, 2) := by decide +kernel
theorem d_O_same_119 : decode prog_12_method_19_code 119 = .ok (.iload 7, 2) := by decide +kernel
theorem d_O_same_121 : decode prog_12_method_19_code 121 = .ok (.invokevirtual 105, 3) := by decide +kernel
theorem d_O_same_124 : decode prog_12_method_19_code 124 = .ok (.ifCond .eq (7), 3) := by decide +kernel
theorem d_O_same_127 : decode prog_12_method_19_code 127 = .ok (.iconst 1, 1) := by decide +kernel
theorem d_O_same_128 : decode prog_12_method_19_code 128 = .ok (.goto (4), 3) := by decide +kernel
theorem d_O_same_131 : decode prog_12_method_19_code 131 = .ok (.iconst 0, 1) := by decide +kernel
theorem d_O_same_132 : decode prog_12_method_19_code 132 = .ok (.istore_n 3, 1) := by decide +kernel
theorem d_O_same_133 : decode prog_12_method_19_code 133 = .ok (.iinc 5 (1), 3) := by decide +kernel
theorem d_O_same_136 : decode prog_12_method_19_code 136 = .ok (.goto (-87), 3) := by decide +kernel
theorem d_O_same_139 : decode prog_12_method_19_code 139 = .ok (.iinc 4 (1), 3) := by decide +kernel
theorem d_O_same_142 : decode prog_12_method_19_code 142 = .ok (.goto (-137), 3) := by decide +kernel
theorem d_O_same_145 : decode prog_12_method_19_code 145 = .ok (.iload_n 3, 1) := by decide +kernel
theorem d_O_same_146 : decode prog_12_method_19_code 146 = .ok (.ireturn, 1) := by decide +kernel
def Y_O_same : sdY := ("SettingsDeskModel", prog_12_method_19_code, 8, (some .boolean), .code y_O_same prog_12_method_19_code 8 (some .boolean) :: sdB0, { frames := 3, cells := 0, slots := 0, locals := 67 }, 0, 0, [])
theorem cw_O_same_O_sameEntry_105 : sd_cwV Y_O_same Y_O_sameEntry y_O_sameEntry 105 2 "SettingsDeskModel" := ⟨sd_goodV q535 q537 q538 q459 q536, ⟨_, rfl⟩, ⟨rfl, rfl, rfl, rfl⟩, ⟨rfl, by decide, by decide, by decide +kernel⟩, ⟨by decide, by decide⟩⟩
section
variable {l : Launch} {D : va_G} {dA : Nat → ClassId} {b n : Nat} {ad : Nat → Nat} {L : Nat → sdL} {sc : Option (Nat × Nat × (Nat → Int32))}
def k_O_same_139 (Q : Int32 → sdM → Prop) (k5 : sdM → Int32 → Int32 → Int32 → Int32 → Prop) (M : sdM) (x1 : Int32) (x2 : Int32) (x3 : Int32) (x4 : Int32) : Prop := k5 M x1 x2 x3 (x4 + 1)
set_option maxHeartbeats 1000000 in
theorem t_O_same_139 (hA : sd_ad b n ad) (hT : l.stackTraces = false) (hO : isO n L dA) {Q : Int32 → sdM → Prop} {k5 : sdM → Int32 → Int32 → Int32 → Int32 → Prop} (hk5 : ∀ (M : sdM) (x1 : Int32) (x2 : Int32) (x3 : Int32) (x4 : Int32), k5 M x1 x2 x3 x4 → sdW l (sdE0 sc) Y_O_same D (sd_tys dA) b n ad L ad (sd_H D (sdE0 sc).1 n ad L) (sd_qi Q) sd_xf 5 [(0, .ref 116), (1, .int x1), (2, .int x2), (3, .int x3), (4, .int x4)] [] M 0 0) (M : sdM) (x1 : Int32) (x2 : Int32) (x3 : Int32) (x4 : Int32) (hw : k_O_same_139 Q k5 M x1 x2 x3 x4) : sdW l (sdE0 sc) Y_O_same D (sd_tys dA) b n ad L ad (sd_H D (sdE0 sc).1 n ad L) (sd_qi Q) sd_xf 139 [(0, .ref 116), (1, .int x1), (2, .int x2), (3, .int x3), (4, .int x4)] [] M 0 0 := by
  unfold k_O_same_139 at hw
  refine x_iinc 4 4 [(4, .int (x4 + 1)), (0, .ref 116), (1, .int x1), (2, .int x2), (3, .int x3)] d_O_same_139 rfl (congrArg (HAdd.hAdd x4) (show Int32.ofInt 1 = 1 by decide)) (by decide) rfl ?_
  refine x_goto 5 d_O_same_142 rfl ?_
  refine x_sub [1, 2, 3, 4, 0] [(0, .ref 116), (1, .int x1), (2, .int x2), (3, .int x3), (4, .int (x4 + 1))] rfl ?_
  exact hk5 M x1 x2 x3 (x4 + 1) hw
def k_O_same_132 (Q : Int32 → sdM → Prop) (k5 : sdM → Int32 → Int32 → Int32 → Int32 → Prop) (k49 : sdM → Int32 → Int32 → Int32 → Int32 → Int32 → Prop) (M : sdM) (x1 : Int32) (x2 : Int32) (x4 : Int32) (x5 : Int32) (s0 : Int32) : Prop := k49 M x1 x2 s0 x4 (x5 + 1)
set_option maxHeartbeats 1000000 in
theorem t_O_same_132 (hA : sd_ad b n ad) (hT : l.stackTraces = false) (hO : isO n L dA) {Q : Int32 → sdM → Prop} {k5 : sdM → Int32 → Int32 → Int32 → Int32 → Prop} (hk5 : ∀ (M : sdM) (x1 : Int32) (x2 : Int32) (x3 : Int32) (x4 : Int32), k5 M x1 x2 x3 x4 → sdW l (sdE0 sc) Y_O_same D (sd_tys dA) b n ad L ad (sd_H D (sdE0 sc).1 n ad L) (sd_qi Q) sd_xf 5 [(0, .ref 116), (1, .int x1), (2, .int x2), (3, .int x3), (4, .int x4)] [] M 0 0) {k49 : sdM → Int32 → Int32 → Int32 → Int32 → Int32 → Prop} (hk49 : ∀ (M : sdM) (x1 : Int32) (x2 : Int32) (x3 : Int32) (x4 : Int32) (x5 : Int32), k49 M x1 x2 x3 x4 x5 → sdW l (sdE0 sc) Y_O_same D (sd_tys dA) b n ad L ad (sd_H D (sdE0 sc).1 n ad L) (sd_qi Q) sd_xf 49 [(0, .ref 116), (1, .int x1), (2, .int x2), (3, .int x3), (4, .int x4), (5, .int x5)] [] M 0 0) (M : sdM) (x1 : Int32) (x2 : Int32) (x4 : Int32) (x5 : Int32) (s0 : Int32) (hw : k_O_same_132 Q k5 k49 M x1 x2 x4 x5 s0) : sdW l (sdE0 sc) Y_O_same D (sd_tys dA) b n ad L ad (sd_H D (sdE0 sc).1 n ad L) (sd_qi Q) sd_xf 132 [(0, .ref 116), (1, .int x1), (2, .int x2), (4, .int x4), (5, .int x5)] [.int s0] M 0 0 := by
  unfold k_O_same_132 at hw
  refine x_istore_n 3 [(3, .int s0), (0, .ref 116), (1, .int x1), (2, .int x2), (4, .int x4), (5, .int x5)] d_O_same_132 rfl (by decide) rfl ?_
  refine x_iinc 5 5 [(5, .int (x5 + 1)), (3, .int s0), (0, .ref 116), (1, .int x1), (2, .int x2), (4, .int x4)] d_O_same_133 rfl (congrArg (HAdd.hAdd x5) (show Int32.ofInt 1 = 1 by decide)) (by decide) rfl ?_
  refine x_goto 49 d_O_same_136 rfl ?_
  refine x_sub [2, 3, 4, 1, 5, 0] [(0, .ref 116), (1, .int x1), (2, .int x2), (3, .int s0), (4, .int x4), (5, .int (x5 + 1))] rfl ?_
  exact hk49 M x1 x2 s0 x4 (x5 + 1) hw
def k_O_same_131 (Q : Int32 → sdM → Prop) (k5 : sdM → Int32 → Int32 → Int32 → Int32 → Prop) (k49 : sdM → Int32 → Int32 → Int32 → Int32 → Int32 → Prop) (M : sdM) (x1 : Int32) (x2 : Int32) (x4 : Int32) (x5 : Int32) : Prop := k_O_same_132 Q k5 k49 M x1 x2 x4 x5 (0 : Int32)
set_option maxHeartbeats 1000000 in
theorem t_O_same_131 (hA : sd_ad b n ad) (hT : l.stackTraces = false) (hO : isO n L dA) {Q : Int32 → sdM → Prop} {k5 : sdM → Int32 → Int32 → Int32 → Int32 → Prop} (hk5 : ∀ (M : sdM) (x1 : Int32) (x2 : Int32) (x3 : Int32) (x4 : Int32), k5 M x1 x2 x3 x4 → sdW l (sdE0 sc) Y_O_same D (sd_tys dA) b n ad L ad (sd_H D (sdE0 sc).1 n ad L) (sd_qi Q) sd_xf 5 [(0, .ref 116), (1, .int x1), (2, .int x2), (3, .int x3), (4, .int x4)] [] M 0 0) {k49 : sdM → Int32 → Int32 → Int32 → Int32 → Int32 → Prop} (hk49 : ∀ (M : sdM) (x1 : Int32) (x2 : Int32) (x3 : Int32) (x4 : Int32) (x5 : Int32), k49 M x1 x2 x3 x4 x5 → sdW l (sdE0 sc) Y_O_same D (sd_tys dA) b n ad L ad (sd_H D (sdE0 sc).1 n ad L) (sd_qi Q) sd_xf 49 [(0, .ref 116), (1, .int x1), (2, .int x2), (3, .int x3), (4, .int x4), (5, .int x5)] [] M 0 0) (M : sdM) (x1 : Int32) (x2 : Int32) (x4 : Int32) (x5 : Int32) (hw : k_O_same_131 Q k5 k49 M x1 x2 x4 x5) : sdW l (sdE0 sc) Y_O_same D (sd_tys dA) b n ad L ad (sd_H D (sdE0 sc).1 n ad L) (sd_qi Q) sd_xf 131 [(0, .ref 116), (1, .int x1), (2, .int x2), (4, .int x4), (5, .int x5)] [] M 0 0 := by
  unfold k_O_same_131 at hw
  refine x_iconst (v := 0) d_O_same_131 (by decide) ?_
  exact t_O_same_132 hA hT hO hk5 hk49 M x1 x2 x4 x5 (0 : Int32) hw
def h_O_same_49 (Q : Int32 → sdM → Prop) (k5 : sdM → Int32 → Int32 → Int32 → Int32 → Prop) : Nat → sdM → Int32 → Int32 → Int32 → Int32 → Int32 → Prop
  | 0, _, _, _, _, _, _ => False
  | N + 1, M, x1, x2, x3, x4, x5 => vp_in (((4 : Int32) * x1) + x4) 68 ∧ ((M 129 (((4 : Int32) * x1) + x4).toNatClampNeg) ≤ x5 → k_O_same_139 Q k5 M x1 x2 x3 x4) ∧ (¬ (M 129 (((4 : Int32) * x1) + x4).toNatClampNeg) ≤ x5 → (x3 = 0 → k_O_same_139 Q k5 M x1 x2 x3 x4) ∧ (¬ x3 = 0 → vp_in ((((48 : Int32) * x1) + ((12 : Int32) * x4)) + x5) 816 ∧ vp_in ((((48 : Int32) * x2) + ((12 : Int32) * x4)) + x5) 816 ∧ (¬ (M 130 ((((48 : Int32) * x1) + ((12 : Int32) * x4)) + x5).toNatClampNeg) = (M 130 ((((48 : Int32) * x2) + ((12 : Int32) * x4)) + x5).toNatClampNeg) → k_O_same_131 Q k5 (fun M x1 x2 x3 x4 x5 => h_O_same_49 Q k5 N M x1 x2 x3 x4 x5) M x1 x2 x4 x5) ∧ ((M 130 ((((48 : Int32) * x1) + ((12 : Int32) * x4)) + x5).toNatClampNeg) = (M 130 ((((48 : Int32) * x2) + ((12 : Int32) * x4)) + x5).toNatClampNeg) → w_O_sameEntry M ((((48 : Int32) * x1) + ((12 : Int32) * x4)) + x5) ((((48 : Int32) * x2) + ((12 : Int32) * x4)) + x5) (fun r12 M11 => (r12 = 0 → k_O_same_131 Q k5 (fun M x1 x2 x3 x4 x5 => h_O_same_49 Q k5 N M x1 x2 x3 x4 x5) M11 x1 x2 x4 x5) ∧ (¬ r12 = 0 → k_O_same_132 Q k5 (fun M x1 x2 x3 x4 x5 => h_O_same_49 Q k5 N M x1 x2 x3 x4 x5) M11 x1 x2 x4 x5 (1 : Int32))))))
set_option maxHeartbeats 1000000 in
theorem t_O_same_49 (hA : sd_ad b n ad) (hT : l.stackTraces = false) (hO : isO n L dA) {Q : Int32 → sdM → Prop} {k5 : sdM → Int32 → Int32 → Int32 → Int32 → Prop} (hk5 : ∀ (M : sdM) (x1 : Int32) (x2 : Int32) (x3 : Int32) (x4 : Int32), k5 M x1 x2 x3 x4 → sdW l (sdE0 sc) Y_O_same D (sd_tys dA) b n ad L ad (sd_H D (sdE0 sc).1 n ad L) (sd_qi Q) sd_xf 5 [(0, .ref 116), (1, .int x1), (2, .int x2), (3, .int x3), (4, .int x4)] [] M 0 0) (N : Nat) : ∀ (M : sdM) (x1 : Int32) (x2 : Int32) (x3 : Int32) (x4 : Int32) (x5 : Int32), h_O_same_49 Q k5 N M x1 x2 x3 x4 x5 → sdW l (sdE0 sc) Y_O_same D (sd_tys dA) b n ad L ad (sd_H D (sdE0 sc).1 n ad L) (sd_qi Q) sd_xf 49 [(0, .ref 116), (1, .int x1), (2, .int x2), (3, .int x3), (4, .int x4), (5, .int x5)] [] M 0 0 := by
  induction N with
  | zero => intro M x1 x2 x3 x4 x5 hw; exact hw.elim
  | succ N ih =>
    intro M x1 x2 x3 x4 x5 hw
    rw [h_O_same_49] at hw
    refine x_iload 5 5 d_O_same_49 rfl ?_
    refine x_aload_n 0 0 d_O_same_51 rfl rfl ?_
    refine x_getr 16 129 d_O_same_52 hO.1 hO.2.1 rfl rfl (by decide) lay_O (List.mem_cons_of_mem _ q478) rfl ?_
    refine x_iconst (v := 4) d_O_same_55 (by decide) ?_
    refine x_iload_n 1 1 d_O_same_56 rfl rfl ?_
    refine x_imul d_O_same_57 ?_
    refine x_iload 4 4 d_O_same_58 rfl ?_
    refine x_iadd d_O_same_60 ?_
    obtain ⟨hi8, hw⟩ := hw
    refine x_iald d_O_same_61 hO.sizes.1 hO.sizes.2 rfl hi8 ?_
    refine x_icmp_ge 139 d_O_same_62 rfl (fun hc => ?_) (fun hc => ?_)
    · have hw := hw.1 hc
      refine x_sub [0, 1, 2, 3, 4] [(0, .ref 116), (1, .int x1), (2, .int x2), (3, .int x3), (4, .int x4)] rfl ?_
      exact t_O_same_139 hA hT hO hk5 M x1 x2 x3 x4 hw
    · have hw := hw.2 hc
      refine x_iload_n 3 3 d_O_same_65 rfl rfl ?_
      refine x_if_eq 139 d_O_same_66 rfl (fun hc => ?_) (fun hc => ?_)
      · have hw := hw.1 hc
        refine x_sub [0, 1, 2, 3, 4] [(0, .ref 116), (1, .int x1), (2, .int x2), (3, .int x3), (4, .int x4)] rfl ?_
        exact t_O_same_139 hA hT hO hk5 M x1 x2 x3 x4 hw
      · have hw := hw.2 hc
        refine x_bipush (v := 48) d_O_same_69 (by decide) ?_
        refine x_iload_n 1 1 d_O_same_71 rfl rfl ?_
        refine x_imul d_O_same_72 ?_
        refine x_bipush (v := 12) d_O_same_73 (by decide) ?_
        refine x_iload 4 4 d_O_same_75 rfl ?_
        refine x_imul d_O_same_77 ?_
        refine x_iadd d_O_same_78 ?_
        refine x_iload 5 5 d_O_same_79 rfl ?_
        refine x_iadd d_O_same_81 ?_
        refine x_istore 6 [(6, .int ((((48 : Int32) * x1) + ((12 : Int32) * x4)) + x5)), (0, .ref 116), (1, .int x1), (2, .int x2), (3, .int x3), (4, .int x4), (5, .int x5)] d_O_same_82 (by decide) rfl ?_
        refine x_bipush (v := 48) d_O_same_84 (by decide) ?_
        refine x_iload_n 2 3 d_O_same_86 rfl rfl ?_
        refine x_imul d_O_same_87 ?_
        refine x_bipush (v := 12) d_O_same_88 (by decide) ?_
        refine x_iload 4 5 d_O_same_90 rfl ?_
        refine x_imul d_O_same_92 ?_
        refine x_iadd d_O_same_93 ?_
        refine x_iload 5 6 d_O_same_94 rfl ?_
        refine x_iadd d_O_same_96 ?_
        refine x_istore 7 [(7, .int ((((48 : Int32) * x2) + ((12 : Int32) * x4)) + x5)), (6, .int ((((48 : Int32) * x1) + ((12 : Int32) * x4)) + x5)), (0, .ref 116), (1, .int x1), (2, .int x2), (3, .int x3), (4, .int x4), (5, .int x5)] d_O_same_97 (by decide) rfl ?_
        refine x_aload_n 0 2 d_O_same_99 rfl rfl ?_
        refine x_getr 17 130 d_O_same_100 hO.1 hO.2.1 rfl rfl (by decide) lay_O (List.mem_cons_of_mem _ q479) rfl ?_
        refine x_iload 6 1 d_O_same_103 rfl ?_
        obtain ⟨hi9, hw⟩ := hw
        refine x_iald d_O_same_105 hO.keys.1 hO.keys.2 rfl hi9 ?_
        refine x_aload_n 0 2 d_O_same_106 rfl rfl ?_
        refine x_getr 17 130 d_O_same_107 hO.1 hO.2.1 rfl rfl (by decide) lay_O (List.mem_cons_of_mem _ q479) rfl ?_
        refine x_iload 7 0 d_O_same_110 rfl ?_
        obtain ⟨hi10, hw⟩ := hw
        refine x_iald d_O_same_112 hO.keys.1 hO.keys.2 rfl hi10 ?_
        refine x_icmp_ne 131 d_O_same_113 rfl (fun hc => ?_) (fun hc => ?_)
        · have hw := hw.1 hc
          refine x_sub [2, 3, 4, 6, 7] [(0, .ref 116), (1, .int x1), (2, .int x2), (4, .int x4), (5, .int x5)] rfl ?_
          exact t_O_same_131 hA hT hO hk5 (fun M x1 x2 x3 x4 x5  hw => ih M x1 x2 x3 x4 x5 hw) M x1 x2 x4 x5 hw
        · have hw := hw.2 hc
          refine x_aload_n 0 2 d_O_same_116 rfl rfl ?_
          refine x_iload 6 1 d_O_same_117 rfl ?_
          refine x_iload 7 0 d_O_same_119 rfl ?_
          refine x_callVi (As := [.int ((((48 : Int32) * x1) + ((12 : Int32) * x4)) + x5), .int ((((48 : Int32) * x2) + ((12 : Int32) * x4)) + x5)]) (t := 116) (rest := []) (rc := 0) (rs := 0) (c_O_sameEntry hA hT hO hw) cw_O_same_O_sameEntry_105 hO.1 hO.2.1 rfl d_O_same_121 rfl rfl (Nat.le_of_ble_eq_true rfl) rfl (fun _ _ h => h.elim) (fun _ _ h => h) (fun r12 M11 hw => ?_)
          refine x_if_eq 131 d_O_same_124 rfl (fun hc => ?_) (fun hc => ?_)
          · have hw := hw.1 hc
            refine x_sub [2, 3, 4, 6, 7] [(0, .ref 116), (1, .int x1), (2, .int x2), (4, .int x4), (5, .int x5)] rfl ?_
            exact t_O_same_131 hA hT hO hk5 (fun M x1 x2 x3 x4 x5  hw => ih M x1 x2 x3 x4 x5 hw) M11 x1 x2 x4 x5 hw
          · have hw := hw.2 hc
            refine x_iconst (v := 1) d_O_same_127 (by decide) ?_
            refine x_goto 132 d_O_same_128 rfl ?_
            refine x_sub [2, 3, 4, 6, 7] [(0, .ref 116), (1, .int x1), (2, .int x2), (4, .int x4), (5, .int x5)] rfl ?_
            exact t_O_same_132 hA hT hO hk5 (fun M x1 x2 x3 x4 x5  hw => ih M x1 x2 x3 x4 x5 hw) M11 x1 x2 x4 x5 (1 : Int32) hw
def k_O_same_45 (Q : Int32 → sdM → Prop) (k5 : sdM → Int32 → Int32 → Int32 → Int32 → Prop) (M : sdM) (x1 : Int32) (x2 : Int32) (x4 : Int32) (s0 : Int32) : Prop := ∃ N9 : Nat, h_O_same_49 Q k5 N9 M x1 x2 s0 x4 (0 : Int32)
set_option maxHeartbeats 1000000 in
theorem t_O_same_45 (hA : sd_ad b n ad) (hT : l.stackTraces = false) (hO : isO n L dA) {Q : Int32 → sdM → Prop} {k5 : sdM → Int32 → Int32 → Int32 → Int32 → Prop} (hk5 : ∀ (M : sdM) (x1 : Int32) (x2 : Int32) (x3 : Int32) (x4 : Int32), k5 M x1 x2 x3 x4 → sdW l (sdE0 sc) Y_O_same D (sd_tys dA) b n ad L ad (sd_H D (sdE0 sc).1 n ad L) (sd_qi Q) sd_xf 5 [(0, .ref 116), (1, .int x1), (2, .int x2), (3, .int x3), (4, .int x4)] [] M 0 0) (M : sdM) (x1 : Int32) (x2 : Int32) (x4 : Int32) (s0 : Int32) (hw : k_O_same_45 Q k5 M x1 x2 x4 s0) : sdW l (sdE0 sc) Y_O_same D (sd_tys dA) b n ad L ad (sd_H D (sdE0 sc).1 n ad L) (sd_qi Q) sd_xf 45 [(0, .ref 116), (1, .int x1), (2, .int x2), (4, .int x4)] [.int s0] M 0 0 := by
  unfold k_O_same_45 at hw
  refine x_istore_n 3 [(3, .int s0), (0, .ref 116), (1, .int x1), (2, .int x2), (4, .int x4)] d_O_same_45 rfl (by decide) rfl ?_
  refine x_iconst (v := 0) d_O_same_46 (by decide) ?_
  refine x_istore 5 [(5, .int (0 : Int32)), (3, .int s0), (0, .ref 116), (1, .int x1), (2, .int x2), (4, .int x4)] d_O_same_47 (by decide) rfl ?_
  refine x_sub [2, 3, 4, 1, 5, 0] [(0, .ref 116), (1, .int x1), (2, .int x2), (3, .int s0), (4, .int x4), (5, .int (0 : Int32))] rfl ?_
  obtain ⟨N9, hw⟩ := hw
  exact t_O_same_49 hA hT hO hk5 N9 M x1 x2 s0 x4 (0 : Int32) hw
def k_O_same_44 (Q : Int32 → sdM → Prop) (k5 : sdM → Int32 → Int32 → Int32 → Int32 → Prop) (M : sdM) (x1 : Int32) (x2 : Int32) (x4 : Int32) : Prop := k_O_same_45 Q k5 M x1 x2 x4 (0 : Int32)
set_option maxHeartbeats 1000000 in
theorem t_O_same_44 (hA : sd_ad b n ad) (hT : l.stackTraces = false) (hO : isO n L dA) {Q : Int32 → sdM → Prop} {k5 : sdM → Int32 → Int32 → Int32 → Int32 → Prop} (hk5 : ∀ (M : sdM) (x1 : Int32) (x2 : Int32) (x3 : Int32) (x4 : Int32), k5 M x1 x2 x3 x4 → sdW l (sdE0 sc) Y_O_same D (sd_tys dA) b n ad L ad (sd_H D (sdE0 sc).1 n ad L) (sd_qi Q) sd_xf 5 [(0, .ref 116), (1, .int x1), (2, .int x2), (3, .int x3), (4, .int x4)] [] M 0 0) (M : sdM) (x1 : Int32) (x2 : Int32) (x4 : Int32) (hw : k_O_same_44 Q k5 M x1 x2 x4) : sdW l (sdE0 sc) Y_O_same D (sd_tys dA) b n ad L ad (sd_H D (sdE0 sc).1 n ad L) (sd_qi Q) sd_xf 44 [(0, .ref 116), (1, .int x1), (2, .int x2), (4, .int x4)] [] M 0 0 := by
  unfold k_O_same_44 at hw
  refine x_iconst (v := 0) d_O_same_44 (by decide) ?_
  exact t_O_same_45 hA hT hO hk5 M x1 x2 x4 (0 : Int32) hw
def h_O_same_5 (Q : Int32 → sdM → Prop) : Nat → sdM → Int32 → Int32 → Int32 → Int32 → Prop
  | 0, _, _, _, _, _ => False
  | N + 1, M, x1, x2, x3, x4 => ((4 : Int32) ≤ x4 → sdB x3 ∧ Q x3 M) ∧ (¬ (4 : Int32) ≤ x4 → (x3 = 0 → k_O_same_44 Q (fun M x1 x2 x3 x4 => h_O_same_5 Q N M x1 x2 x3 x4) M x1 x2 x4) ∧ (¬ x3 = 0 → vp_in (((4 : Int32) * x1) + x4) 68 ∧ vp_in (((4 : Int32) * x2) + x4) 68 ∧ (¬ (M 129 (((4 : Int32) * x1) + x4).toNatClampNeg) = (M 129 (((4 : Int32) * x2) + x4).toNatClampNeg) → k_O_same_44 Q (fun M x1 x2 x3 x4 => h_O_same_5 Q N M x1 x2 x3 x4) M x1 x2 x4) ∧ ((M 129 (((4 : Int32) * x1) + x4).toNatClampNeg) = (M 129 (((4 : Int32) * x2) + x4).toNatClampNeg) → k_O_same_45 Q (fun M x1 x2 x3 x4 => h_O_same_5 Q N M x1 x2 x3 x4) M x1 x2 x4 (1 : Int32))))
set_option maxHeartbeats 1000000 in
theorem t_O_same_5 (hA : sd_ad b n ad) (hT : l.stackTraces = false) (hO : isO n L dA) {Q : Int32 → sdM → Prop} (N : Nat) : ∀ (M : sdM) (x1 : Int32) (x2 : Int32) (x3 : Int32) (x4 : Int32), h_O_same_5 Q N M x1 x2 x3 x4 → sdW l (sdE0 sc) Y_O_same D (sd_tys dA) b n ad L ad (sd_H D (sdE0 sc).1 n ad L) (sd_qi Q) sd_xf 5 [(0, .ref 116), (1, .int x1), (2, .int x2), (3, .int x3), (4, .int x4)] [] M 0 0 := by
  induction N with
  | zero => intro M x1 x2 x3 x4 hw; exact hw.elim
  | succ N ih =>
    intro M x1 x2 x3 x4 hw
    rw [h_O_same_5] at hw
    refine x_iload 4 4 d_O_same_5 rfl ?_
    refine x_iconst (v := 4) d_O_same_7 (by decide) ?_
    refine x_icmp_ge 145 d_O_same_8 rfl (fun hc => ?_) (fun hc => ?_)
    · have hw := hw.1 hc
      refine x_iload_n 3 3 d_O_same_145 rfl rfl ?_
      exact x_zret d_O_same_146 rfl (sdB_n hw.1) (fun _ h => h) ⟨_, rfl, hw.2⟩
    · have hw := hw.2 hc
      refine x_iload_n 3 3 d_O_same_11 rfl rfl ?_
      refine x_if_eq 44 d_O_same_12 rfl (fun hc => ?_) (fun hc => ?_)
      · have hw := hw.1 hc
        refine x_sub [0, 1, 2, 4] [(0, .ref 116), (1, .int x1), (2, .int x2), (4, .int x4)] rfl ?_
        exact t_O_same_44 hA hT hO (fun M x1 x2 x3 x4  hw => ih M x1 x2 x3 x4 hw) M x1 x2 x4 hw
      · have hw := hw.2 hc
        refine x_aload_n 0 0 d_O_same_15 rfl rfl ?_
        refine x_getr 16 129 d_O_same_16 hO.1 hO.2.1 rfl rfl (by decide) lay_O (List.mem_cons_of_mem _ q478) rfl ?_
        refine x_iconst (v := 4) d_O_same_19 (by decide) ?_
        refine x_iload_n 1 1 d_O_same_20 rfl rfl ?_
        refine x_imul d_O_same_21 ?_
        refine x_iload 4 4 d_O_same_22 rfl ?_
        refine x_iadd d_O_same_24 ?_
        obtain ⟨hi13, hw⟩ := hw
        refine x_iald d_O_same_25 hO.sizes.1 hO.sizes.2 rfl hi13 ?_
        refine x_aload_n 0 0 d_O_same_26 rfl rfl ?_
        refine x_getr 16 129 d_O_same_27 hO.1 hO.2.1 rfl rfl (by decide) lay_O (List.mem_cons_of_mem _ q478) rfl ?_
        refine x_iconst (v := 4) d_O_same_30 (by decide) ?_
        refine x_iload_n 2 2 d_O_same_31 rfl rfl ?_
        refine x_imul d_O_same_32 ?_
        refine x_iload 4 4 d_O_same_33 rfl ?_
        refine x_iadd d_O_same_35 ?_
        obtain ⟨hi14, hw⟩ := hw
        refine x_iald d_O_same_36 hO.sizes.1 hO.sizes.2 rfl hi14 ?_
        refine x_icmp_ne 44 d_O_same_37 rfl (fun hc => ?_) (fun hc => ?_)
        · have hw := hw.1 hc
          refine x_sub [0, 1, 2, 4] [(0, .ref 116), (1, .int x1), (2, .int x2), (4, .int x4)] rfl ?_
          exact t_O_same_44 hA hT hO (fun M x1 x2 x3 x4  hw => ih M x1 x2 x3 x4 hw) M x1 x2 x4 hw
        · have hw := hw.2 hc
          refine x_iconst (v := 1) d_O_same_40 (by decide) ?_
          refine x_goto 45 d_O_same_41 rfl ?_
          refine x_sub [0, 1, 2, 4] [(0, .ref 116), (1, .int x1), (2, .int x2), (4, .int x4)] rfl ?_
          exact t_O_same_45 hA hT hO (fun M x1 x2 x3 x4  hw => ih M x1 x2 x3 x4 hw) M x1 x2 x4 (1 : Int32) hw
def w_O_same (M : sdM) (a1 : Int32) (a2 : Int32) (Q : Int32 → sdM → Prop) : Prop := ∃ N9 : Nat, h_O_same_5 Q N9 M a1 a2 (1 : Int32) (0 : Int32)
set_option maxHeartbeats 1000000 in
theorem c_O_same {a1 : Int32} {a2 : Int32} (hA : sd_ad b n ad) (hT : l.stackTraces = false) (hO : isO n L dA) {Q : Int32 → sdM → Prop} {M : sdM} (hw : w_O_same M a1 a2 Q) : sd_Cn l (sdE0 sc) y_O_same Y_O_same.2.2.2.2.1 Y_O_same.2.2.2.2.2.1 0 0 D (sd_tys dA) b n ad L M [.ref 116, .int a1, .int a2] (sd_qi Q) sd_xf := by
  refine sd_enter (Y := Y_O_same) rfl rfl rfl rfl (Nat.le_of_ble_eq_true rfl) ?_
  show sdW l (sdE0 sc) Y_O_same D (sd_tys dA) b n ad L ad (sd_H D (sdE0 sc).1 n ad L) (sd_qi Q) sd_xf 0 [(0, .ref 116), (1, .int a1), (2, .int a2)] [] M 0 0
  unfold w_O_same at hw
  refine x_iconst (v := 1) d_O_same_0 (by decide) ?_
  refine x_istore_n 3 [(3, .int (1 : Int32)), (0, .ref 116), (1, .int a1), (2, .int a2)] d_O_same_1 rfl (by decide) rfl ?_
  refine x_iconst (v := 0) d_O_same_2 (by decide) ?_
  refine x_istore 4 [(4, .int (0 : Int32)), (3, .int (1 : Int32)), (0, .ref 116), (1, .int a1), (2, .int a2)] d_O_same_3 (by decide) rfl ?_
  refine x_sub [2, 3, 4, 1, 0] [(0, .ref 116), (1, .int a1), (2, .int a2), (3, .int (1 : Int32)), (4, .int (0 : Int32))] rfl ?_
  obtain ⟨N9, hw⟩ := hw
  exact t_O_same_5 hA hT hO N9 M a1 a2 (1 : Int32) (0 : Int32) hw
end
abbrev y_O_clashes : MethodName := ⟨"SettingsDeskModel", "clashes", "(III)Z"⟩
theorem d_O_clashes_0 : decode prog_12_method_37_code 0 = .ok (.aload_n 0, 1) := by decide +kernel
theorem d_O_clashes_1 : decode prog_12_method_37_code 1 = .ok (.iload_n 1, 1) := by decide +kernel
theorem d_O_clashes_2 : decode prog_12_method_37_code 2 = .ok (.putfield 132, 3) := by decide +kernel
theorem d_O_clashes_5 : decode prog_12_method_37_code 5 = .ok (.aload_n 0, 1) := by decide +kernel
theorem d_O_clashes_6 : decode prog_12_method_37_code 6 = .ok (.iload_n 2, 1) := by decide +kernel
theorem d_O_clashes_7 : decode prog_12_method_37_code 7 = .ok (.putfield 135, 3) := by decide +kernel
theorem d_O_clashes_10 : decode prog_12_method_37_code 10 = .ok (.aload_n 0, 1) := by decide +kernel
theorem d_O_clashes_11 : decode prog_12_method_37_code 11 = .ok (.iload_n 3, 1) := by decide +kernel
theorem d_O_clashes_12 : decode prog_12_method_37_code 12 = .ok (.putfield 126, 3) := by decide +kernel
theorem d_O_clashes_15 : decode prog_12_method_37_code 15 = .ok (.iconst 1, 1) := by decide +kernel
theorem d_O_clashes_16 : decode prog_12_method_37_code 16 = .ok (.ireturn, 1) := by decide +kernel
def Y_O_clashes : sdY := ("SettingsDeskModel", prog_12_method_37_code, 4, (some .boolean), .code y_O_clashes prog_12_method_37_code 4 (some .boolean) :: sdB0, { frames := 0, cells := 0, slots := 0, locals := 0 }, 0, 0, [])
section
variable {l : Launch} {D : va_G} {dA : Nat → ClassId} {b n : Nat} {ad : Nat → Nat} {L : Nat → sdL} {sc : Option (Nat × Nat × (Nat → Int32))}
def w_O_clashes (M : sdM) (a1 : Int32) (a2 : Int32) (a3 : Int32) (Q : Int32 → sdM → Prop) : Prop := ∀ M7 : sdM, M7 = sd_s M 116 31 a1 → ∀ M9 : sdM, M9 = sd_s M7 116 32 a2 → ∀ M11 : sdM, M11 = sd_s M9 116 33 a3 → sdB (1 : Int32) ∧ Q (1 : Int32) M11
set_option maxHeartbeats 1000000 in
theorem c_O_clashes {a1 : Int32} {a2 : Int32} {a3 : Int32} (hA : sd_ad b n ad) (hT : l.stackTraces = false) (hO : isO n L dA) {Q : Int32 → sdM → Prop} {M : sdM} (hw : w_O_clashes M a1 a2 a3 Q) : sd_Cn l (sdE0 sc) y_O_clashes Y_O_clashes.2.2.2.2.1 Y_O_clashes.2.2.2.2.2.1 0 0 D (sd_tys dA) b n ad L M [.ref 116, .int a1, .int a2, .int a3] (sd_qi Q) sd_xf := by
  refine sd_enter (Y := Y_O_clashes) rfl rfl rfl rfl (Nat.le_of_ble_eq_true rfl) ?_
  show sdW l (sdE0 sc) Y_O_clashes D (sd_tys dA) b n ad L ad (sd_H D (sdE0 sc).1 n ad L) (sd_qi Q) sd_xf 0 [(0, .ref 116), (1, .int a1), (2, .int a2), (3, .int a3)] [] M 0 0
  unfold w_O_clashes at hw
  refine x_aload_n 0 0 d_O_clashes_0 rfl rfl ?_
  refine x_iload_n 1 1 d_O_clashes_1 rfl rfl ?_
  refine x_puti 31 (ty := .int) hA d_O_clashes_2 hO.1 hO.2.1 rfl rfl (by decide) lay_O (List.mem_cons_of_mem _ q505) rfl ty_O ty_O_ok nm_O rfl (by decide +kernel) rfl rfl (fun M7 e8 => ?_)
  have hw := hw M7 e8
  clear e8
  refine x_aload_n 0 0 d_O_clashes_5 rfl rfl ?_
  refine x_iload_n 2 2 d_O_clashes_6 rfl rfl ?_
  refine x_puti 32 (ty := .int) hA d_O_clashes_7 hO.1 hO.2.1 rfl rfl (by decide) lay_O (List.mem_cons_of_mem _ q506) rfl ty_O ty_O_ok nm_O rfl (by decide +kernel) rfl rfl (fun M9 e10 => ?_)
  have hw := hw M9 e10
  clear e10
  refine x_aload_n 0 0 d_O_clashes_10 rfl rfl ?_
  refine x_iload_n 3 3 d_O_clashes_11 rfl rfl ?_
  refine x_puti 33 (ty := .int) hA d_O_clashes_12 hO.1 hO.2.1 rfl rfl (by decide) lay_O (List.mem_cons_of_mem _ q496) rfl ty_O ty_O_ok nm_O rfl (by decide +kernel) rfl rfl (fun M11 e12 => ?_)
  have hw := hw M11 e12
  clear e12
  refine x_iconst (v := 1) d_O_clashes_15 (by decide) ?_
  exact x_zret d_O_clashes_16 rfl (sdB_n hw.1) (fun _ h => h) ⟨_, rfl, hw.2⟩
end
theorem q539 : (.fieldLink "SettingsDeskModel" 180 "SettingsDeskModel" "fault" "I" : Cond) ∈ sdB0 := sd_tb4 186 rfl rfl
theorem q540 : (.fieldLink "SettingsDeskModel" 183 "SettingsDeskModel" "faultList" "I" : Cond) ∈ sdB0 := sd_tb4 187 rfl rfl
theorem q541 : (.fieldLink "SettingsDeskModel" 186 "SettingsDeskModel" "faultKey" "I" : Cond) ∈ sdB0 := sd_tb4 188 rfl rfl
theorem q542 : (.fieldLink "SettingsDeskModel" 189 "SettingsDeskModel" "faultLeaf" "I" : Cond) ∈ sdB0 := sd_tb4 189 rfl rfl
abbrev y_O_note : MethodName := ⟨"SettingsDeskModel", "note", "(I)V"⟩
theorem d_O_note_0 : decode prog_12_method_40_code 0 = .ok (.aload_n 0, 1) := by decide +kernel
theorem d_O_note_1 : decode prog_12_method_40_code 1 = .ok (.iload_n 1, 1) := by decide +kernel
theorem d_O_note_2 : decode prog_12_method_40_code 2 = .ok (.putfield 180, 3) := by decide +kernel
theorem d_O_note_5 : decode prog_12_method_40_code 5 = .ok (.aload_n 0, 1) := by decide +kernel
theorem d_O_note_6 : decode prog_12_method_40_code 6 = .ok (.aload_n 0, 1) := by decide +kernel
theorem d_O_note_7 : decode prog_12_method_40_code 7 = .ok (.getfield 132, 3) := by decide +kernel
theorem d_O_note_10 : decode prog_12_method_40_code 10 = .ok (.putfield 183, 3) := by decide +kernel
theorem d_O_note_13 : decode prog_12_method_40_code 13 = .ok (.aload_n 0, 1) := by decide +kernel
theorem d_O_note_14 : decode prog_12_method_40_code 14 = .ok (.aload_n 0, 1) := by decide +kernel
theorem d_O_note_15 : decode prog_12_method_40_code 15 = .ok (.getfield 135, 3) := by decide +kernel
theorem d_O_note_18 : decode prog_12_method_40_code 18 = .ok (.putfield 186, 3) := by decide +kernel
theorem d_O_note_21 : decode prog_12_method_40_code 21 = .ok (.aload_n 0, 1) := by decide +kernel
theorem d_O_note_22 : decode prog_12_method_40_code 22 = .ok (.aload_n 0, 1) := by decide +kernel
theorem d_O_note_23 : decode prog_12_method_40_code 23 = .ok (.getfield 126, 3) := by decide +kernel
theorem d_O_note_26 : decode prog_12_method_40_code 26 = .ok (.putfield 189, 3) := by decide +kernel
theorem d_O_note_29 : decode prog_12_method_40_code 29 = .ok (.return_, 1) := by decide +kernel
def Y_O_note : sdY := ("SettingsDeskModel", prog_12_method_40_code, 2, none, .code y_O_note prog_12_method_40_code 2 none :: sdB0, { frames := 0, cells := 0, slots := 0, locals := 0 }, 0, 0, [])
section
variable {l : Launch} {D : va_G} {dA : Nat → ClassId} {b n : Nat} {ad : Nat → Nat} {L : Nat → sdL} {sc : Option (Nat × Nat × (Nat → Int32))}
def w_O_note (M : sdM) (a1 : Int32) (Q : sdM → Prop) : Prop := ∀ M9 : sdM, M9 = sd_s M 116 27 a1 → ∀ M11 : sdM, M11 = sd_s M9 116 28 (M9 116 31) → ∀ M13 : sdM, M13 = sd_s M11 116 29 (M11 116 32) → ∀ M15 : sdM, M15 = sd_s M13 116 30 (M13 116 33) → Q M15
set_option maxHeartbeats 1000000 in
theorem c_O_note {a1 : Int32} (hA : sd_ad b n ad) (hT : l.stackTraces = false) (hO : isO n L dA) {Q : sdM → Prop} {M : sdM} (hw : w_O_note M a1 Q) : sd_Cn l (sdE0 sc) y_O_note Y_O_note.2.2.2.2.1 Y_O_note.2.2.2.2.2.1 0 0 D (sd_tys dA) b n ad L M [.ref 116, .int a1] (sd_qv Q) sd_xf := by
  refine sd_enter (Y := Y_O_note) rfl rfl rfl rfl (Nat.le_of_ble_eq_true rfl) ?_
  show sdW l (sdE0 sc) Y_O_note D (sd_tys dA) b n ad L ad (sd_H D (sdE0 sc).1 n ad L) (sd_qv Q) sd_xf 0 [(0, .ref 116), (1, .int a1)] [] M 0 0
  unfold w_O_note at hw
  refine x_aload_n 0 0 d_O_note_0 rfl rfl ?_
  refine x_iload_n 1 1 d_O_note_1 rfl rfl ?_
  refine x_puti 27 (ty := .int) hA d_O_note_2 hO.1 hO.2.1 rfl rfl (by decide) lay_O (List.mem_cons_of_mem _ q539) rfl ty_O ty_O_ok nm_O rfl (by decide +kernel) rfl rfl (fun M9 e10 => ?_)
  have hw := hw M9 e10
  clear e10
  refine x_aload_n 0 0 d_O_note_5 rfl rfl ?_
  refine x_aload_n 0 0 d_O_note_6 rfl rfl ?_
  refine x_geti 31 d_O_note_7 hO.1 hO.2.1 rfl rfl (by decide) lay_O (List.mem_cons_of_mem _ q505) rfl ?_
  refine x_puti 28 (ty := .int) hA d_O_note_10 hO.1 hO.2.1 rfl rfl (by decide) lay_O (List.mem_cons_of_mem _ q540) rfl ty_O ty_O_ok nm_O rfl (by decide +kernel) rfl rfl (fun M11 e12 => ?_)
  have hw := hw M11 e12
  clear e12
  refine x_aload_n 0 0 d_O_note_13 rfl rfl ?_
  refine x_aload_n 0 0 d_O_note_14 rfl rfl ?_
  refine x_geti 32 d_O_note_15 hO.1 hO.2.1 rfl rfl (by decide) lay_O (List.mem_cons_of_mem _ q506) rfl ?_
  refine x_puti 29 (ty := .int) hA d_O_note_18 hO.1 hO.2.1 rfl rfl (by decide) lay_O (List.mem_cons_of_mem _ q541) rfl ty_O ty_O_ok nm_O rfl (by decide +kernel) rfl rfl (fun M13 e14 => ?_)
  have hw := hw M13 e14
  clear e14
  refine x_aload_n 0 0 d_O_note_21 rfl rfl ?_
  refine x_aload_n 0 0 d_O_note_22 rfl rfl ?_
  refine x_geti 33 d_O_note_23 hO.1 hO.2.1 rfl rfl (by decide) lay_O (List.mem_cons_of_mem _ q496) rfl ?_
  refine x_puti 30 (ty := .int) hA d_O_note_26 hO.1 hO.2.1 rfl rfl (by decide) lay_O (List.mem_cons_of_mem _ q542) rfl ty_O ty_O_ok nm_O rfl (by decide +kernel) rfl rfl (fun M15 e16 => ?_)
  have hw := hw M15 e16
  clear e16
  exact x_vret d_O_note_29 rfl (fun _ h => h) ⟨rfl, hw⟩
end
theorem q543 : (.fieldLink "SettingsDeskModel" 147 "SettingsDeskModel" "older" "I" : Cond) ∈ sdB0 := sd_tb4 179 rfl rfl
theorem q544 : (.fieldLink "SettingsDeskModel" 150 "SettingsDeskModel" "changes" "I" : Cond) ∈ sdB0 := sd_tb4 180 rfl rfl
theorem q545 : (.methodLink "SettingsDeskModel" 141 ⟨"SettingsDeskModel", "same", "(II)Z"⟩ : Cond) ∈ sdB0 := sd_tb5 157 rfl rfl
theorem q546 : (.code ⟨"SettingsDeskModel", "same", "(II)Z"⟩ prog_12_method_19_code 8 (some .boolean) : Cond) ∈ sdB0 := sd_tb5 160 rfl rfl
theorem q547 : (.instanceMethod ⟨"SettingsDeskModel", "same", "(II)Z"⟩ : Cond) ∈ sdB0 := sd_tb5 159 rfl rfl
theorem q548 : (.selects "SettingsDeskModel" ⟨"SettingsDeskModel", "same", "(II)Z"⟩ ⟨"SettingsDeskModel", "same", "(II)Z"⟩ : Cond) ∈ sdB0 := sd_tbp (q := (⟨"SettingsDeskModel", "same", "(II)Z"⟩, 35)) (List.mem_of_getElem? (i := 34) rfl)
abbrev y_O_become : MethodName := ⟨"SettingsDeskModel", "become", "(I)Z"⟩
theorem d_O_become_0 : decode prog_12_method_27_code 0 = .ok (.aload_n 0, 1) := by decide +kernel
theorem d_O_become_1 : decode prog_12_method_27_code 1 = .ok (.iload_n 1, 1) := by decide +kernel
theorem d_O_become_2 : decode prog_12_method_27_code 2 = .ok (.iconst 0, 1) := by decide +kernel
theorem d_O_become_3 : decode prog_12_method_27_code 3 = .ok (.invokevirtual 141, 3) := by decide +kernel
theorem d_O_become_6 : decode prog_12_method_27_code 6 = .ok (.ifCond .eq (5), 3) := by decide +kernel
theorem d_O_become_9 : decode prog_12_method_27_code 9 = .ok (.iconst 0, 1) := by decide +kernel
theorem d_O_become_10 : decode prog_12_method_27_code 10 = .ok (.ireturn, 1) := by decide +kernel
theorem d_O_become_11 : decode prog_12_method_27_code 11 = .ok (.bipush (9), 2) := by decide +kernel
theorem d_O_become_13 : decode prog_12_method_27_code 13 = .ok (.istore_n 2, 1) := by decide +kernel
theorem d_O_become_14 : decode prog_12_method_27_code 14 = .ok (.iload_n 2, 1) := by decide +kernel
theorem d_O_become_15 : decode prog_12_method_27_code 15 = .ok (.iconst 2, 1) := by decide +kernel
theorem d_O_become_16 : decode prog_12_method_27_code 16 = .ok (.if_icmp .le (17), 3) := by decide +kernel
theorem d_O_become_19 : decode prog_12_method_27_code 19 = .ok (.aload_n 0, 1) := by decide +kernel
theorem d_O_become_20 : decode prog_12_method_27_code 20 = .ok (.iload_n 2, 1) := by decide +kernel
theorem d_O_become_21 : decode prog_12_method_27_code 21 = .ok (.iconst 1, 1) := by decide +kernel
theorem d_O_become_22 : decode prog_12_method_27_code 22 = .ok (.isub, 1) := by decide +kernel
theorem d_O_become_23 : decode prog_12_method_27_code 23 = .ok (.iload_n 2, 1) := by decide +kernel
theorem d_O_become_24 : decode prog_12_method_27_code 24 = .ok (.invokevirtual 144, 3) := by decide +kernel
theorem d_O_become_27 : decode prog_12_method_27_code 27 = .ok (.iinc 2 (-1), 3) := by decide +kernel
theorem d_O_become_30 : decode prog_12_method_27_code 30 = .ok (.goto (-16), 3) := by decide +kernel
theorem d_O_become_33 : decode prog_12_method_27_code 33 = .ok (.aload_n 0, 1) := by decide +kernel
theorem d_O_become_34 : decode prog_12_method_27_code 34 = .ok (.iconst 0, 1) := by decide +kernel
theorem d_O_become_35 : decode prog_12_method_27_code 35 = .ok (.iconst 2, 1) := by decide +kernel
theorem d_O_become_36 : decode prog_12_method_27_code 36 = .ok (.invokevirtual 144, 3) := by decide +kernel
theorem d_O_become_39 : decode prog_12_method_27_code 39 = .ok (.aload_n 0, 1) := by decide +kernel
theorem d_O_become_40 : decode prog_12_method_27_code 40 = .ok (.iload_n 1, 1) := by decide +kernel
theorem d_O_become_41 : decode prog_12_method_27_code 41 = .ok (.iconst 0, 1) := by decide +kernel
theorem d_O_become_42 : decode prog_12_method_27_code 42 = .ok (.invokevirtual 144, 3) := by decide +kernel
theorem d_O_become_45 : decode prog_12_method_27_code 45 = .ok (.aload_n 0, 1) := by decide +kernel
theorem d_O_become_46 : decode prog_12_method_27_code 46 = .ok (.aload_n 0, 1) := by decide +kernel
theorem d_O_become_47 : decode prog_12_method_27_code 47 = .ok (.getfield 147, 3) := by decide +kernel
theorem d_O_become_50 : decode prog_12_method_27_code 50 = .ok (.bipush (8), 2) := by decide +kernel
theorem d_O_become_52 : decode prog_12_method_27_code 52 = .ok (.if_icmp .ge (12), 3) := by decide +kernel
theorem d_O_become_55 : decode prog_12_method_27_code 55 = .ok (.aload_n 0, 1) := by decide +kernel
theorem d_O_become_56 : decode prog_12_method_27_code 56 = .ok (.getfield 147, 3) := by decide +kernel
theorem d_O_become_59 : decode prog_12_method_27_code 59 = .ok (.iconst 1, 1) := by decide +kernel
theorem d_O_become_60 : decode prog_12_method_27_code 60 = .ok (.iadd, 1) := by decide +kernel
theorem d_O_become_61 : decode prog_12_method_27_code 61 = .ok (.goto (5), 3) := by decide +kernel
theorem d_O_become_64 : decode prog_12_method_27_code 64 = .ok (.bipush (8), 2) := by decide +kernel
theorem d_O_become_66 : decode prog_12_method_27_code 66 = .ok (.putfield 147, 3) := by decide +kernel
theorem d_O_become_69 : decode prog_12_method_27_code 69 = .ok (.aload_n 0, 1) := by decide +kernel
theorem d_O_become_70 : decode prog_12_method_27_code 70 = .ok (.dup, 1) := by decide +kernel
theorem d_O_become_71 : decode prog_12_method_27_code 71 = .ok (.getfield 150, 3) := by decide +kernel
theorem d_O_become_74 : decode prog_12_method_27_code 74 = .ok (.iconst 1, 1) := by decide +kernel
theorem d_O_become_75 : decode prog_12_method_27_code 75 = .ok (.iadd, 1) := by decide +kernel
theorem d_O_become_76 : decode prog_12_method_27_code 76 = .ok (.putfield 150, 3) := by decide +kernel
theorem d_O_become_79 : decode prog_12_method_27_code 79 = .ok (.iconst 1, 1) := by decide +kernel
theorem d_O_become_80 : decode prog_12_method_27_code 80 = .ok (.ireturn, 1) := by decide +kernel
def Y_O_become : sdY := ("SettingsDeskModel", prog_12_method_27_code, 3, (some .boolean), .code y_O_become prog_12_method_27_code 3 (some .boolean) :: sdB0, { frames := 4, cells := 0, slots := 0, locals := 94 }, 0, 0, [])
theorem cw_O_become_O_same_141 : sd_cwV Y_O_become Y_O_same y_O_same 141 2 "SettingsDeskModel" := ⟨sd_goodV q545 q547 q548 q459 q546, ⟨_, rfl⟩, ⟨rfl, rfl, rfl, rfl⟩, ⟨rfl, by decide, by decide, by decide +kernel⟩, ⟨by decide, by decide⟩⟩
theorem cw_O_become_O_copy_144 : sd_cwV Y_O_become Y_O_copy y_O_copy 144 2 "SettingsDeskModel" := ⟨sd_goodV q527 q529 q530 q459 q528, ⟨_, rfl⟩, ⟨rfl, rfl, rfl, rfl⟩, ⟨rfl, by decide, by decide, by decide +kernel⟩, ⟨by decide, by decide⟩⟩
section
variable {l : Launch} {D : va_G} {dA : Nat → ClassId} {b n : Nat} {ad : Nat → Nat} {L : Nat → sdL} {sc : Option (Nat × Nat × (Nat → Int32))}
def k_O_become_66 (Q : Int32 → sdM → Prop) (M : sdM) (s1 : Int32) : Prop := ∀ M10 : sdM, M10 = sd_s M 116 20 s1 → ∀ M12 : sdM, M12 = sd_s M10 116 21 ((M10 116 21) + (1 : Int32)) → sdB (1 : Int32) ∧ Q (1 : Int32) M12
set_option maxHeartbeats 1000000 in
theorem t_O_become_66 (hA : sd_ad b n ad) (hT : l.stackTraces = false) (hO : isO n L dA) {Q : Int32 → sdM → Prop} (M : sdM) (s1 : Int32) (hw : k_O_become_66 Q M s1) : sdW l (sdE0 sc) Y_O_become D (sd_tys dA) b n ad L ad (sd_H D (sdE0 sc).1 n ad L) (sd_qi Q) sd_xf 66 [(0, .ref 116)] [.int s1, .ref 116] M 0 0 := by
  unfold k_O_become_66 at hw
  refine x_puti 20 (ty := .int) hA d_O_become_66 hO.1 hO.2.1 rfl rfl (by decide) lay_O (List.mem_cons_of_mem _ q543) rfl ty_O ty_O_ok nm_O rfl (by decide +kernel) rfl rfl (fun M10 e11 => ?_)
  have hw := hw M10 e11
  clear e11
  refine x_aload_n 0 0 d_O_become_69 rfl rfl ?_
  refine x_dup d_O_become_70 rfl ?_
  refine x_geti 21 d_O_become_71 hO.1 hO.2.1 rfl rfl (by decide) lay_O (List.mem_cons_of_mem _ q544) rfl ?_
  refine x_iconst (v := 1) d_O_become_74 (by decide) ?_
  refine x_iadd d_O_become_75 ?_
  refine x_puti 21 (ty := .int) hA d_O_become_76 hO.1 hO.2.1 rfl rfl (by decide) lay_O (List.mem_cons_of_mem _ q544) rfl ty_O ty_O_ok nm_O rfl (by decide +kernel) rfl rfl (fun M12 e13 => ?_)
  have hw := hw M12 e13
  clear e13
  refine x_iconst (v := 1) d_O_become_79 (by decide) ?_
  exact x_zret d_O_become_80 rfl (sdB_n hw.1) (fun _ h => h) ⟨_, rfl, hw.2⟩
def h_O_become_14 (Q : Int32 → sdM → Prop) : Nat → sdM → Int32 → Int32 → Prop
  | 0, _, _, _ => False
  | N + 1, M, x1, x2 => (x2 ≤ (2 : Int32) → w_O_copy M (0 : Int32) (2 : Int32) (fun M14 => w_O_copy M14 x1 (0 : Int32) (fun M15 => ((8 : Int32) ≤ (M15 116 20) → k_O_become_66 Q M15 (8 : Int32)) ∧ (¬ (8 : Int32) ≤ (M15 116 20) → k_O_become_66 Q M15 ((M15 116 20) + (1 : Int32)))))) ∧ (¬ x2 ≤ (2 : Int32) → w_O_copy M (x2 - (1 : Int32)) x2 (fun M16 => h_O_become_14 Q N M16 x1 (x2 + (-1))))
set_option maxHeartbeats 1000000 in
theorem t_O_become_14 (hA : sd_ad b n ad) (hT : l.stackTraces = false) (hO : isO n L dA) {Q : Int32 → sdM → Prop} (N : Nat) : ∀ (M : sdM) (x1 : Int32) (x2 : Int32), h_O_become_14 Q N M x1 x2 → sdW l (sdE0 sc) Y_O_become D (sd_tys dA) b n ad L ad (sd_H D (sdE0 sc).1 n ad L) (sd_qi Q) sd_xf 14 [(0, .ref 116), (1, .int x1), (2, .int x2)] [] M 0 0 := by
  induction N with
  | zero => intro M x1 x2 hw; exact hw.elim
  | succ N ih =>
    intro M x1 x2 hw
    rw [h_O_become_14] at hw
    refine x_iload_n 2 2 d_O_become_14 rfl rfl ?_
    refine x_iconst (v := 2) d_O_become_15 (by decide) ?_
    refine x_icmp_le 33 d_O_become_16 rfl (fun hc => ?_) (fun hc => ?_)
    · have hw := hw.1 hc
      refine x_aload_n 0 0 d_O_become_33 rfl rfl ?_
      refine x_iconst (v := 0) d_O_become_34 (by decide) ?_
      refine x_iconst (v := 2) d_O_become_35 (by decide) ?_
      refine x_callVv (As := [.int (0 : Int32), .int (2 : Int32)]) (t := 116) (rest := []) (rc := 0) (rs := 0) (c_O_copy hA hT hO hw) cw_O_become_O_copy_144 hO.1 hO.2.1 rfl d_O_become_36 rfl rfl (Nat.le_of_ble_eq_true rfl) rfl (fun _ _ h => h.elim) (fun _ _ h => h) (fun M14 hw => ?_)
      refine x_aload_n 0 0 d_O_become_39 rfl rfl ?_
      refine x_iload_n 1 1 d_O_become_40 rfl rfl ?_
      refine x_iconst (v := 0) d_O_become_41 (by decide) ?_
      refine x_callVv (As := [.int x1, .int (0 : Int32)]) (t := 116) (rest := []) (rc := 0) (rs := 0) (c_O_copy hA hT hO hw) cw_O_become_O_copy_144 hO.1 hO.2.1 rfl d_O_become_42 rfl rfl (Nat.le_of_ble_eq_true rfl) rfl (fun _ _ h => h.elim) (fun _ _ h => h) (fun M15 hw => ?_)
      refine x_aload_n 0 0 d_O_become_45 rfl rfl ?_
      refine x_aload_n 0 0 d_O_become_46 rfl rfl ?_
      refine x_geti 20 d_O_become_47 hO.1 hO.2.1 rfl rfl (by decide) lay_O (List.mem_cons_of_mem _ q543) rfl ?_
      refine x_bipush (v := 8) d_O_become_50 (by decide) ?_
      refine x_icmp_ge 64 d_O_become_52 rfl (fun hc => ?_) (fun hc => ?_)
      · have hw := hw.1 hc
        refine x_bipush (v := 8) d_O_become_64 (by decide) ?_
        refine x_sub [0] [(0, .ref 116)] rfl ?_
        exact t_O_become_66 hA hT hO M15 (8 : Int32) hw
      · have hw := hw.2 hc
        refine x_aload_n 0 0 d_O_become_55 rfl rfl ?_
        refine x_geti 20 d_O_become_56 hO.1 hO.2.1 rfl rfl (by decide) lay_O (List.mem_cons_of_mem _ q543) rfl ?_
        refine x_iconst (v := 1) d_O_become_59 (by decide) ?_
        refine x_iadd d_O_become_60 ?_
        refine x_goto 66 d_O_become_61 rfl ?_
        refine x_sub [0] [(0, .ref 116)] rfl ?_
        exact t_O_become_66 hA hT hO M15 ((M15 116 20) + (1 : Int32)) hw
    · have hw := hw.2 hc
      refine x_aload_n 0 0 d_O_become_19 rfl rfl ?_
      refine x_iload_n 2 2 d_O_become_20 rfl rfl ?_
      refine x_iconst (v := 1) d_O_become_21 (by decide) ?_
      refine x_isub d_O_become_22 ?_
      refine x_iload_n 2 2 d_O_become_23 rfl rfl ?_
      refine x_callVv (As := [.int (x2 - (1 : Int32)), .int x2]) (t := 116) (rest := []) (rc := 0) (rs := 0) (c_O_copy hA hT hO hw) cw_O_become_O_copy_144 hO.1 hO.2.1 rfl d_O_become_24 rfl rfl (Nat.le_of_ble_eq_true rfl) rfl (fun _ _ h => h.elim) (fun _ _ h => h) (fun M16 hw => ?_)
      refine x_iinc 2 2 [(2, .int (x2 + (-1))), (0, .ref 116), (1, .int x1)] d_O_become_27 rfl (congrArg (HAdd.hAdd x2) (show Int32.ofInt (-1) = (-1) by decide)) (by decide) rfl ?_
      refine x_goto 14 d_O_become_30 rfl ?_
      refine x_sub [1, 2, 0] [(0, .ref 116), (1, .int x1), (2, .int (x2 + (-1)))] rfl ?_
      exact ih M16 x1 (x2 + (-1)) hw
def w_O_become (M : sdM) (a1 : Int32) (Q : Int32 → sdM → Prop) : Prop := w_O_same M a1 (0 : Int32) (fun r18 M17 => (r18 = 0 → ∃ N9 : Nat, h_O_become_14 Q N9 M17 a1 (9 : Int32)) ∧ (¬ r18 = 0 → sdB (0 : Int32) ∧ Q (0 : Int32) M17))
set_option maxHeartbeats 1000000 in
theorem c_O_become {a1 : Int32} (hA : sd_ad b n ad) (hT : l.stackTraces = false) (hO : isO n L dA) {Q : Int32 → sdM → Prop} {M : sdM} (hw : w_O_become M a1 Q) : sd_Cn l (sdE0 sc) y_O_become Y_O_become.2.2.2.2.1 Y_O_become.2.2.2.2.2.1 0 0 D (sd_tys dA) b n ad L M [.ref 116, .int a1] (sd_qi Q) sd_xf := by
  refine sd_enter (Y := Y_O_become) rfl rfl rfl rfl (Nat.le_of_ble_eq_true rfl) ?_
  show sdW l (sdE0 sc) Y_O_become D (sd_tys dA) b n ad L ad (sd_H D (sdE0 sc).1 n ad L) (sd_qi Q) sd_xf 0 [(0, .ref 116), (1, .int a1)] [] M 0 0
  unfold w_O_become at hw
  refine x_aload_n 0 0 d_O_become_0 rfl rfl ?_
  refine x_iload_n 1 1 d_O_become_1 rfl rfl ?_
  refine x_iconst (v := 0) d_O_become_2 (by decide) ?_
  refine x_callVi (As := [.int a1, .int (0 : Int32)]) (t := 116) (rest := []) (rc := 0) (rs := 0) (c_O_same hA hT hO hw) cw_O_become_O_same_141 hO.1 hO.2.1 rfl d_O_become_3 rfl rfl (Nat.le_of_ble_eq_true rfl) rfl (fun _ _ h => h.elim) (fun _ _ h => h) (fun r18 M17 hw => ?_)
  refine x_if_eq 11 d_O_become_6 rfl (fun hc => ?_) (fun hc => ?_)
  · have hw := hw.1 hc
    refine x_bipush (v := 9) d_O_become_11 (by decide) ?_
    refine x_istore_n 2 [(2, .int (9 : Int32)), (0, .ref 116), (1, .int a1)] d_O_become_13 rfl (by decide) rfl ?_
    refine x_sub [1, 2, 0] [(0, .ref 116), (1, .int a1), (2, .int (9 : Int32))] rfl ?_
    obtain ⟨N9, hw⟩ := hw
    exact t_O_become_14 hA hT hO N9 M17 a1 (9 : Int32) hw
  · have hw := hw.2 hc
    refine x_iconst (v := 0) d_O_become_9 (by decide) ?_
    exact x_zret d_O_become_10 rfl (sdB_n hw.1) (fun _ h => h) ⟨_, rfl, hw.2⟩
end
