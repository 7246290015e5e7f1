abbrev y_S_firstRow : MethodName := ⟨"SettingsDesk$Settings", "firstRow", "(I)I"⟩
theorem d_S_firstRow_0 : decode prog_9_method_4_code 0 = .ok (.iload_n 1, 1) := by decide +kernel
theorem d_S_firstRow_1 : decode prog_9_method_4_code 1 = .ok (.bipush (12), 2) := by decide +kernel
theorem d_S_firstRow_3 : decode prog_9_method_4_code 3 = .ok (.imul, 1) := by decide +kernel
theorem d_S_firstRow_4 : decode prog_9_method_4_code 4 = .ok (.ireturn, 1) := by decide +kernel
def Y_S_firstRow : sdY := ("SettingsDesk$Settings", prog_9_method_4_code, 2, (some .int), .code y_S_firstRow prog_9_method_4_code 2 (some .int) :: sdB0, { frames := 0, cells := 0, slots := 0, locals := 0 }, 0, 0, [])
section
variable {l : Launch} {D : va_G} {dA : Nat → ClassId} {b n : Nat} {ad : Nat → Nat} {L : Nat → sdL} {sc : Option (Nat × Nat × (Nat → Int32))}
def w_S_firstRow (o : Nat) (M : sdM) (a1 : Int32) (Q : Int32 → sdM → Prop) : Prop := Q (a1 * (12 : Int32)) M
set_option maxHeartbeats 1000000 in
theorem c_S_firstRow {a1 : Int32} {o : Nat} (hA : sd_ad b n ad) (hT : l.stackTraces = false) (ho : isS n L dA o) {Q : Int32 → sdM → Prop} {M : sdM} (hw : w_S_firstRow o M a1 Q) : sd_Cn l (sdE0 sc) y_S_firstRow Y_S_firstRow.2.2.2.2.1 Y_S_firstRow.2.2.2.2.2.1 0 0 D (sd_tys dA) b n ad L M [.ref o, .int a1] (sd_qi Q) sd_xf := by
  refine sd_enter (Y := Y_S_firstRow) rfl rfl rfl rfl (Nat.le_of_ble_eq_true rfl) ?_
  show sdW l (sdE0 sc) Y_S_firstRow D (sd_tys dA) b n ad L ad (sd_H D (sdE0 sc).1 n ad L) (sd_qi Q) sd_xf 0 [(0, .ref o), (1, .int a1)] [] M 0 0
  unfold w_S_firstRow at hw
  refine x_iload_n 1 1 d_S_firstRow_0 rfl rfl ?_
  refine x_bipush (v := 12) d_S_firstRow_1 (by decide) ?_
  refine x_imul d_S_firstRow_3 ?_
  exact x_iret d_S_firstRow_4 rfl (fun _ h => h) ⟨_, rfl, hw⟩
end
theorem q0 : (.fieldLink "SettingsDesk$Settings" 9 "SettingsDesk$Settings" "counts" "[I" : Cond) ∈ sdB0 := sd_tb1 137 rfl rfl
abbrev y_S_endRow : MethodName := ⟨"SettingsDesk$Settings", "endRow", "(I)I"⟩
theorem d_S_endRow_0 : decode prog_9_method_5_code 0 = .ok (.iload_n 1, 1) := by decide +kernel
theorem d_S_endRow_1 : decode prog_9_method_5_code 1 = .ok (.bipush (12), 2) := by decide +kernel
theorem d_S_endRow_3 : decode prog_9_method_5_code 3 = .ok (.imul, 1) := by decide +kernel
theorem d_S_endRow_4 : decode prog_9_method_5_code 4 = .ok (.aload_n 0, 1) := by decide +kernel
theorem d_S_endRow_5 : decode prog_9_method_5_code 5 = .ok (.getfield 9, 3) := by decide +kernel
theorem d_S_endRow_8 : decode prog_9_method_5_code 8 = .ok (.iload_n 1, 1) := by decide +kernel
theorem d_S_endRow_9 : decode prog_9_method_5_code 9 = .ok (.iaload, 1) := by decide +kernel
theorem d_S_endRow_10 : decode prog_9_method_5_code 10 = .ok (.iadd, 1) := by decide +kernel
theorem d_S_endRow_11 : decode prog_9_method_5_code 11 = .ok (.ireturn, 1) := by decide +kernel
def Y_S_endRow : sdY := ("SettingsDesk$Settings", prog_9_method_5_code, 2, (some .int), .code y_S_endRow prog_9_method_5_code 2 (some .int) :: sdB0, { frames := 0, cells := 0, slots := 0, locals := 0 }, 0, 0, [])
section
variable {l : Launch} {D : va_G} {dA : Nat → ClassId} {b n : Nat} {ad : Nat → Nat} {L : Nat → sdL} {sc : Option (Nat × Nat × (Nat → Int32))}
def w_S_endRow (o : Nat) (M : sdM) (a1 : Int32) (Q : Int32 → sdM → Prop) : Prop := vp_in a1 4 ∧ Q ((a1 * (12 : Int32)) + (M (o + 1) a1.toNatClampNeg)) M
set_option maxHeartbeats 1000000 in
theorem c_S_endRow {a1 : Int32} {o : Nat} (hA : sd_ad b n ad) (hT : l.stackTraces = false) (ho : isS n L dA o) {Q : Int32 → sdM → Prop} {M : sdM} (hw : w_S_endRow o M a1 Q) : sd_Cn l (sdE0 sc) y_S_endRow Y_S_endRow.2.2.2.2.1 Y_S_endRow.2.2.2.2.2.1 0 0 D (sd_tys dA) b n ad L M [.ref o, .int a1] (sd_qi Q) sd_xf := by
  refine sd_enter (Y := Y_S_endRow) rfl rfl rfl rfl (Nat.le_of_ble_eq_true rfl) ?_
  show sdW l (sdE0 sc) Y_S_endRow D (sd_tys dA) b n ad L ad (sd_H D (sdE0 sc).1 n ad L) (sd_qi Q) sd_xf 0 [(0, .ref o), (1, .int a1)] [] M 0 0
  unfold w_S_endRow at hw
  refine x_iload_n 1 1 d_S_endRow_0 rfl rfl ?_
  refine x_bipush (v := 12) d_S_endRow_1 (by decide) ?_
  refine x_imul d_S_endRow_3 ?_
  refine x_aload_n 0 0 d_S_endRow_4 rfl rfl ?_
  refine x_getr 0 (o + 1) d_S_endRow_5 ho.1 ho.2.1 rfl rfl (by decide) lay_S (List.mem_cons_of_mem _ q0) rfl ?_
  refine x_iload_n 1 1 d_S_endRow_8 rfl rfl ?_
  obtain ⟨hi2, hw⟩ := hw
  refine x_iald d_S_endRow_9 ho.counts.1 ho.counts.2 rfl hi2 ?_
  refine x_iadd d_S_endRow_10 ?_
  exact x_iret d_S_endRow_11 rfl (fun _ h => h) ⟨_, rfl, hw⟩
end
theorem q1 : (.fieldLink "SettingsDesk$Settings" 21 "SettingsDesk$Settings" "given" "[I" : Cond) ∈ sdB0 := sd_tb1 143 rfl rfl
abbrev y_S_isGiven : MethodName := ⟨"SettingsDesk$Settings", "isGiven", "(II)Z"⟩
theorem d_S_isGiven_0 : decode prog_9_method_16_code 0 = .ok (.iload_n 1, 1) := by decide +kernel
theorem d_S_isGiven_1 : decode prog_9_method_16_code 1 = .ok (.iconst (-1), 1) := by decide +kernel
theorem d_S_isGiven_2 : decode prog_9_method_16_code 2 = .ok (.if_icmp .eq (20), 3) := by decide +kernel
theorem d_S_isGiven_5 : decode prog_9_method_16_code 5 = .ok (.aload_n 0, 1) := by decide +kernel
theorem d_S_isGiven_6 : decode prog_9_method_16_code 6 = .ok (.getfield 21, 3) := by decide +kernel
theorem d_S_isGiven_9 : decode prog_9_method_16_code 9 = .ok (.iload_n 1, 1) := by decide +kernel
theorem d_S_isGiven_10 : decode prog_9_method_16_code 10 = .ok (.iaload, 1) := by decide +kernel
theorem d_S_isGiven_11 : decode prog_9_method_16_code 11 = .ok (.iconst 1, 1) := by decide +kernel
theorem d_S_isGiven_12 : decode prog_9_method_16_code 12 = .ok (.iload_n 2, 1) := by decide +kernel
theorem d_S_isGiven_13 : decode prog_9_method_16_code 13 = .ok (.ishl, 1) := by decide +kernel
theorem d_S_isGiven_14 : decode prog_9_method_16_code 14 = .ok (.iand, 1) := by decide +kernel
theorem d_S_isGiven_15 : decode prog_9_method_16_code 15 = .ok (.ifCond .eq (7), 3) := by decide +kernel
theorem d_S_isGiven_18 : decode prog_9_method_16_code 18 = .ok (.iconst 1, 1) := by decide +kernel
theorem d_S_isGiven_19 : decode prog_9_method_16_code 19 = .ok (.goto (4), 3) := by decide +kernel
theorem d_S_isGiven_22 : decode prog_9_method_16_code 22 = .ok (.iconst 0, 1) := by decide +kernel
theorem d_S_isGiven_23 : decode prog_9_method_16_code 23 = .ok (.ireturn, 1) := by decide +kernel
def Y_S_isGiven : sdY := ("SettingsDesk$Settings", prog_9_method_16_code, 3, (some .boolean), .code y_S_isGiven prog_9_method_16_code 3 (some .boolean) :: sdB0, { frames := 0, cells := 0, slots := 0, locals := 0 }, 0, 0, [])
section
variable {l : Launch} {D : va_G} {dA : Nat → ClassId} {b n : Nat} {ad : Nat → Nat} {L : Nat → sdL} {sc : Option (Nat × Nat × (Nat → Int32))}
def k_S_isGiven_23 (o : Nat) (Q : Int32 → sdM → Prop) (M : sdM) (s0 : Int32) : Prop := sdB s0 ∧ Q s0 M
set_option maxHeartbeats 1000000 in
theorem t_S_isGiven_23 {o : Nat} (hA : sd_ad b n ad) (hT : l.stackTraces = false) (ho : isS n L dA o) {Q : Int32 → sdM → Prop} (M : sdM) (s0 : Int32) (hw : k_S_isGiven_23 o Q M s0) : sdW l (sdE0 sc) Y_S_isGiven D (sd_tys dA) b n ad L ad (sd_H D (sdE0 sc).1 n ad L) (sd_qi Q) sd_xf 23 [] [.int s0] M 0 0 := by
  unfold k_S_isGiven_23 at hw
  exact x_zret d_S_isGiven_23 rfl (sdB_n hw.1) (fun _ h => h) ⟨_, rfl, hw.2⟩
def k_S_isGiven_22 (o : Nat) (Q : Int32 → sdM → Prop) (M : sdM) : Prop := k_S_isGiven_23 o Q M (0 : Int32)
set_option maxHeartbeats 1000000 in
theorem t_S_isGiven_22 {o : Nat} (hA : sd_ad b n ad) (hT : l.stackTraces = false) (ho : isS n L dA o) {Q : Int32 → sdM → Prop} (M : sdM) (hw : k_S_isGiven_22 o Q M ) : sdW l (sdE0 sc) Y_S_isGiven D (sd_tys dA) b n ad L ad (sd_H D (sdE0 sc).1 n ad L) (sd_qi Q) sd_xf 22 [] [] M 0 0 := by
  unfold k_S_isGiven_22 at hw
  refine x_iconst (v := 0) d_S_isGiven_22 (by decide) ?_
  exact t_S_isGiven_23 hA hT ho M (0 : Int32) hw
def w_S_isGiven (o : Nat) (M : sdM) (a1 : Int32) (a2 : Int32) (Q : Int32 → sdM → Prop) : Prop := (a1 = (-1 : Int32) → k_S_isGiven_22 o Q M) ∧ (¬ a1 = (-1 : Int32) → vp_in a1 48 ∧ (((M (o + 4) a1.toNatClampNeg) &&& ((1 : Int32) <<< (a2 &&& 31))) = 0 → k_S_isGiven_22 o Q M) ∧ (¬ ((M (o + 4) a1.toNatClampNeg) &&& ((1 : Int32) <<< (a2 &&& 31))) = 0 → k_S_isGiven_23 o Q M (1 : Int32)))
set_option maxHeartbeats 1000000 in
theorem c_S_isGiven {a1 : Int32} {a2 : Int32} {o : Nat} (hA : sd_ad b n ad) (hT : l.stackTraces = false) (ho : isS n L dA o) {Q : Int32 → sdM → Prop} {M : sdM} (hw : w_S_isGiven o M a1 a2 Q) : sd_Cn l (sdE0 sc) y_S_isGiven Y_S_isGiven.2.2.2.2.1 Y_S_isGiven.2.2.2.2.2.1 0 0 D (sd_tys dA) b n ad L M [.ref o, .int a1, .int a2] (sd_qi Q) sd_xf := by
  refine sd_enter (Y := Y_S_isGiven) rfl rfl rfl rfl (Nat.le_of_ble_eq_true rfl) ?_
  show sdW l (sdE0 sc) Y_S_isGiven D (sd_tys dA) b n ad L ad (sd_H D (sdE0 sc).1 n ad L) (sd_qi Q) sd_xf 0 [(0, .ref o), (1, .int a1), (2, .int a2)] [] M 0 0
  unfold w_S_isGiven at hw
  refine x_iload_n 1 1 d_S_isGiven_0 rfl rfl ?_
  refine x_iconst (v := (-1)) d_S_isGiven_1 (by decide) ?_
  refine x_icmp_eq 22 d_S_isGiven_2 rfl (fun hc => ?_) (fun hc => ?_)
  · have hw := hw.1 hc
    refine x_sub [] [] rfl ?_
    exact t_S_isGiven_22 hA hT ho M hw
  · have hw := hw.2 hc
    refine x_aload_n 0 0 d_S_isGiven_5 rfl rfl ?_
    refine x_getr 3 (o + 4) d_S_isGiven_6 ho.1 ho.2.1 rfl rfl (by decide) lay_S (List.mem_cons_of_mem _ q1) rfl ?_
    refine x_iload_n 1 1 d_S_isGiven_9 rfl rfl ?_
    obtain ⟨hi2, hw⟩ := hw
    refine x_iald d_S_isGiven_10 ho.given.1 ho.given.2 rfl hi2 ?_
    refine x_iconst (v := 1) d_S_isGiven_11 (by decide) ?_
    refine x_iload_n 2 2 d_S_isGiven_12 rfl rfl ?_
    refine x_ishl d_S_isGiven_13 ?_
    refine x_iand d_S_isGiven_14 ?_
    refine x_if_eq 22 d_S_isGiven_15 rfl (fun hc => ?_) (fun hc => ?_)
    · have hw := hw.1 hc
      refine x_sub [] [] rfl ?_
      exact t_S_isGiven_22 hA hT ho M hw
    · have hw := hw.2 hc
      refine x_iconst (v := 1) d_S_isGiven_18 (by decide) ?_
      refine x_goto 23 d_S_isGiven_19 rfl ?_
      refine x_sub [] [] rfl ?_
      exact t_S_isGiven_23 hA hT ho M (1 : Int32) hw
end
theorem q2 : (.fieldLink "SettingsDesk$Settings" 18 "SettingsDesk$Settings" "values" "[I" : Cond) ∈ sdB0 := sd_tb1 142 rfl rfl
abbrev y_S_valueAt : MethodName := ⟨"SettingsDesk$Settings", "valueAt", "(II)I"⟩
theorem d_S_valueAt_0 : decode prog_9_method_17_code 0 = .ok (.iload_n 1, 1) := by decide +kernel
theorem d_S_valueAt_1 : decode prog_9_method_17_code 1 = .ok (.iconst (-1), 1) := by decide +kernel
theorem d_S_valueAt_2 : decode prog_9_method_17_code 2 = .ok (.if_icmp .ne (7), 3) := by decide +kernel
theorem d_S_valueAt_5 : decode prog_9_method_17_code 5 = .ok (.iconst 0, 1) := by decide +kernel
theorem d_S_valueAt_6 : decode prog_9_method_17_code 6 = .ok (.goto (13), 3) := by decide +kernel
theorem d_S_valueAt_9 : decode prog_9_method_17_code 9 = .ok (.aload_n 0, 1) := by decide +kernel
theorem d_S_valueAt_10 : decode prog_9_method_17_code 10 = .ok (.getfield 18, 3) := by decide +kernel
theorem d_S_valueAt_13 : decode prog_9_method_17_code 13 = .ok (.iload_n 1, 1) := by decide +kernel
theorem d_S_valueAt_14 : decode prog_9_method_17_code 14 = .ok (.iconst 4, 1) := by decide +kernel
theorem d_S_valueAt_15 : decode prog_9_method_17_code 15 = .ok (.imul, 1) := by decide +kernel
theorem d_S_valueAt_16 : decode prog_9_method_17_code 16 = .ok (.iload_n 2, 1) := by decide +kernel
theorem d_S_valueAt_17 : decode prog_9_method_17_code 17 = .ok (.iadd, 1) := by decide +kernel
theorem d_S_valueAt_18 : decode prog_9_method_17_code 18 = .ok (.iaload, 1) := by decide +kernel
theorem d_S_valueAt_19 : decode prog_9_method_17_code 19 = .ok (.ireturn, 1) := by decide +kernel
def Y_S_valueAt : sdY := ("SettingsDesk$Settings", prog_9_method_17_code, 3, (some .int), .code y_S_valueAt prog_9_method_17_code 3 (some .int) :: sdB0, { frames := 0, cells := 0, slots := 0, locals := 0 }, 0, 0, [])
section
variable {l : Launch} {D : va_G} {dA : Nat → ClassId} {b n : Nat} {ad : Nat → Nat} {L : Nat → sdL} {sc : Option (Nat × Nat × (Nat → Int32))}
def k_S_valueAt_19 (o : Nat) (Q : Int32 → sdM → Prop) (M : sdM) (s0 : Int32) : Prop := Q s0 M
set_option maxHeartbeats 1000000 in
theorem t_S_valueAt_19 {o : Nat} (hA : sd_ad b n ad) (hT : l.stackTraces = false) (ho : isS n L dA o) {Q : Int32 → sdM → Prop} (M : sdM) (s0 : Int32) (hw : k_S_valueAt_19 o Q M s0) : sdW l (sdE0 sc) Y_S_valueAt D (sd_tys dA) b n ad L ad (sd_H D (sdE0 sc).1 n ad L) (sd_qi Q) sd_xf 19 [] [.int s0] M 0 0 := by
  unfold k_S_valueAt_19 at hw
  exact x_iret d_S_valueAt_19 rfl (fun _ h => h) ⟨_, rfl, hw⟩
def w_S_valueAt (o : Nat) (M : sdM) (a1 : Int32) (a2 : Int32) (Q : Int32 → sdM → Prop) : Prop := (¬ a1 = (-1 : Int32) → vp_in ((a1 * (4 : Int32)) + a2) 192 ∧ k_S_valueAt_19 o Q M (M (o + 3) ((a1 * (4 : Int32)) + a2).toNatClampNeg)) ∧ (a1 = (-1 : Int32) → k_S_valueAt_19 o Q M (0 : Int32))
set_option maxHeartbeats 1000000 in
theorem c_S_valueAt {a1 : Int32} {a2 : Int32} {o : Nat} (hA : sd_ad b n ad) (hT : l.stackTraces = false) (ho : isS n L dA o) {Q : Int32 → sdM → Prop} {M : sdM} (hw : w_S_valueAt o M a1 a2 Q) : sd_Cn l (sdE0 sc) y_S_valueAt Y_S_valueAt.2.2.2.2.1 Y_S_valueAt.2.2.2.2.2.1 0 0 D (sd_tys dA) b n ad L M [.ref o, .int a1, .int a2] (sd_qi Q) sd_xf := by
  refine sd_enter (Y := Y_S_valueAt) rfl rfl rfl rfl (Nat.le_of_ble_eq_true rfl) ?_
  show sdW l (sdE0 sc) Y_S_valueAt D (sd_tys dA) b n ad L ad (sd_H D (sdE0 sc).1 n ad L) (sd_qi Q) sd_xf 0 [(0, .ref o), (1, .int a1), (2, .int a2)] [] M 0 0
  unfold w_S_valueAt at hw
  refine x_iload_n 1 1 d_S_valueAt_0 rfl rfl ?_
  refine x_iconst (v := (-1)) d_S_valueAt_1 (by decide) ?_
  refine x_icmp_ne 9 d_S_valueAt_2 rfl (fun hc => ?_) (fun hc => ?_)
  · have hw := hw.1 hc
    refine x_aload_n 0 0 d_S_valueAt_9 rfl rfl ?_
    refine x_getr 2 (o + 3) d_S_valueAt_10 ho.1 ho.2.1 rfl rfl (by decide) lay_S (List.mem_cons_of_mem _ q2) rfl ?_
    refine x_iload_n 1 1 d_S_valueAt_13 rfl rfl ?_
    refine x_iconst (v := 4) d_S_valueAt_14 (by decide) ?_
    refine x_imul d_S_valueAt_15 ?_
    refine x_iload_n 2 2 d_S_valueAt_16 rfl rfl ?_
    refine x_iadd d_S_valueAt_17 ?_
    obtain ⟨hi2, hw⟩ := hw
    refine x_iald d_S_valueAt_18 ho.values.1 ho.values.2 rfl hi2 ?_
    refine x_sub [] [] rfl ?_
    exact t_S_valueAt_19 hA hT ho M (M (o + 3) ((a1 * (4 : Int32)) + a2).toNatClampNeg) hw
  · have hw := hw.2 hc
    refine x_iconst (v := 0) d_S_valueAt_5 (by decide) ?_
    refine x_goto 19 d_S_valueAt_6 rfl ?_
    refine x_sub [] [] rfl ?_
    exact t_S_valueAt_19 hA hT ho M (0 : Int32) hw
end
theorem q3 : (.methodLink "SettingsDesk$Settings" 59 ⟨"SettingsDesk$Settings", "isGiven", "(II)Z"⟩ : Cond) ∈ sdB0 := sd_tb2 29 rfl rfl
theorem q4 : (.code ⟨"SettingsDesk$Settings", "isGiven", "(II)Z"⟩ prog_9_method_16_code 3 (some .boolean) : Cond) ∈ sdB0 := sd_tb2 32 rfl rfl
theorem q5 : (.instanceMethod ⟨"SettingsDesk$Settings", "isGiven", "(II)Z"⟩ : Cond) ∈ sdB0 := sd_tb2 30 rfl rfl
theorem q6 : (.selects "SettingsDesk$Settings" ⟨"SettingsDesk$Settings", "isGiven", "(II)Z"⟩ ⟨"SettingsDesk$Settings", "isGiven", "(II)Z"⟩ : Cond) ∈ sdB0 := sd_tb2 31 rfl rfl
theorem q7 : (.initialized "SettingsDesk$Settings" : Cond) ∈ sdB0 := sd_tb1 5 rfl rfl
theorem q8 : (.methodLink "SettingsDesk$Settings" 63 ⟨"SettingsDesk$Settings", "valueAt", "(II)I"⟩ : Cond) ∈ sdB0 := sd_tb2 33 rfl rfl
theorem q9 : (.code ⟨"SettingsDesk$Settings", "valueAt", "(II)I"⟩ prog_9_method_17_code 3 (some .int) : Cond) ∈ sdB0 := sd_tb2 36 rfl rfl
theorem q10 : (.instanceMethod ⟨"SettingsDesk$Settings", "valueAt", "(II)I"⟩ : Cond) ∈ sdB0 := sd_tb2 34 rfl rfl
theorem q11 : (.selects "SettingsDesk$Settings" ⟨"SettingsDesk$Settings", "valueAt", "(II)I"⟩ ⟨"SettingsDesk$Settings", "valueAt", "(II)I"⟩ : Cond) ∈ sdB0 := sd_tb2 35 rfl rfl
abbrev y_S_sameLeaf : MethodName := ⟨"SettingsDesk$Settings", "sameLeaf", "(IILSettingsDesk$Settings;I)Z"⟩
theorem d_S_sameLeaf_0 : decode prog_9_method_20_code 0 = .ok (.aload_n 0, 1) := by decide +kernel
theorem d_S_sameLeaf_1 : decode prog_9_method_20_code 1 = .ok (.iload_n 1, 1) := by decide +kernel
theorem d_S_sameLeaf_2 : decode prog_9_method_20_code 2 = .ok (.iload_n 2, 1) := by decide +kernel
theorem d_S_sameLeaf_3 : decode prog_9_method_20_code 3 = .ok (.invokevirtual 59, 3) := by decide +kernel
theorem d_S_sameLeaf_6 : decode prog_9_method_20_code 6 = .ok (.aload_n 3, 1) := by decide +kernel
theorem d_S_sameLeaf_7 : decode prog_9_method_20_code 7 = .ok (.iload 4, 2) := by decide +kernel
theorem d_S_sameLeaf_9 : decode prog_9_method_20_code 9 = .ok (.iload_n 2, 1) := by decide +kernel
theorem d_S_sameLeaf_10 : decode prog_9_method_20_code 10 = .ok (.invokevirtual 59, 3) := by decide +kernel
theorem d_S_sameLeaf_13 : decode prog_9_method_20_code 13 = .ok (.if_icmp .ne (23), 3) := by decide +kernel
theorem d_S_sameLeaf_16 : decode prog_9_method_20_code 16 = .ok (.aload_n 0, 1) := by decide +kernel
theorem d_S_sameLeaf_17 : decode prog_9_method_20_code 17 = .ok (.iload_n 1, 1) := by decide +kernel
theorem d_S_sameLeaf_18 : decode prog_9_method_20_code 18 = .ok (.iload_n 2, 1) := by decide +kernel
theorem d_S_sameLeaf_19 : decode prog_9_method_20_code 19 = .ok (.invokevirtual 63, 3) := by decide +kernel
theorem d_S_sameLeaf_22 : decode prog_9_method_20_code 22 = .ok (.aload_n 3, 1) := by decide +kernel
theorem d_S_sameLeaf_23 : decode prog_9_method_20_code 23 = .ok (.iload 4, 2) := by decide +kernel
theorem d_S_sameLeaf_25 : decode prog_9_method_20_code 25 = .ok (.iload_n 2, 1) := by decide +kernel
theorem d_S_sameLeaf_26 : decode prog_9_method_20_code 26 = .ok (.invokevirtual 63, 3) := by decide +kernel
theorem d_S_sameLeaf_29 : decode prog_9_method_20_code 29 = .ok (.if_icmp .ne (7), 3) := by decide +kernel
theorem d_S_sameLeaf_32 : decode prog_9_method_20_code 32 = .ok (.iconst 1, 1) := by decide +kernel
theorem d_S_sameLeaf_33 : decode prog_9_method_20_code 33 = .ok (.goto (4), 3) := by decide +kernel
theorem d_S_sameLeaf_36 : decode prog_9_method_20_code 36 = .ok (.iconst 0, 1) := by decide +kernel
theorem d_S_sameLeaf_37 : decode prog_9_method_20_code 37 = .ok (.ireturn, 1) := by decide +kernel
def Y_S_sameLeaf : sdY := ("SettingsDesk$Settings", prog_9_method_20_code, 5, (some .boolean), .code y_S_sameLeaf prog_9_method_20_code 5 (some .boolean) :: sdB0, { frames := 1, cells := 0, slots := 0, locals := 22 }, 0, 0, [])
theorem cw_S_sameLeaf_S_isGiven_59 : sd_cwV Y_S_sameLeaf Y_S_isGiven y_S_isGiven 59 2 "SettingsDesk$Settings" := ⟨sd_goodV q3 q5 q6 q7 q4, ⟨_, rfl⟩, ⟨rfl, rfl, rfl, rfl⟩, ⟨rfl, by decide, by decide, by decide +kernel⟩, ⟨by decide, by decide⟩⟩
theorem cw_S_sameLeaf_S_valueAt_63 : sd_cwV Y_S_sameLeaf Y_S_valueAt y_S_valueAt 63 2 "SettingsDesk$Settings" := ⟨sd_goodV q8 q10 q11 q7 q9, ⟨_, rfl⟩, ⟨rfl, rfl, rfl, rfl⟩, ⟨rfl, by decide, by decide, by decide +kernel⟩, ⟨by decide, by decide⟩⟩
section
variable {l : Launch} {D : va_G} {dA : Nat → ClassId} {b n : Nat} {ad : Nat → Nat} {L : Nat → sdL} {sc : Option (Nat × Nat × (Nat → Int32))}
def k_S_sameLeaf_37 (o : Nat) (Q : Int32 → sdM → Prop) (M : sdM) (s0 : Int32) : Prop := sdB s0 ∧ Q s0 M
set_option maxHeartbeats 1000000 in
theorem t_S_sameLeaf_37 {o : Nat} (hA : sd_ad b n ad) (hT : l.stackTraces = false) (ho : isS n L dA o) {Q : Int32 → sdM → Prop} (M : sdM) (s0 : Int32) (hw : k_S_sameLeaf_37 o Q M s0) : sdW l (sdE0 sc) Y_S_sameLeaf D (sd_tys dA) b n ad L ad (sd_H D (sdE0 sc).1 n ad L) (sd_qi Q) sd_xf 37 [] [.int s0] M 0 0 := by
  unfold k_S_sameLeaf_37 at hw
  exact x_zret d_S_sameLeaf_37 rfl (sdB_n hw.1) (fun _ h => h) ⟨_, rfl, hw.2⟩
def k_S_sameLeaf_36 (o : Nat) (Q : Int32 → sdM → Prop) (M : sdM) : Prop := k_S_sameLeaf_37 o Q M (0 : Int32)
set_option maxHeartbeats 1000000 in
theorem t_S_sameLeaf_36 {o : Nat} (hA : sd_ad b n ad) (hT : l.stackTraces = false) (ho : isS n L dA o) {Q : Int32 → sdM → Prop} (M : sdM) (hw : k_S_sameLeaf_36 o Q M ) : sdW l (sdE0 sc) Y_S_sameLeaf D (sd_tys dA) b n ad L ad (sd_H D (sdE0 sc).1 n ad L) (sd_qi Q) sd_xf 36 [] [] M 0 0 := by
  unfold k_S_sameLeaf_36 at hw
  refine x_iconst (v := 0) d_S_sameLeaf_36 (by decide) ?_
  exact t_S_sameLeaf_37 hA hT ho M (0 : Int32) hw
def w_S_sameLeaf (o : Nat) (M : sdM) (a1 : Int32) (a2 : Int32) (p3 : Nat) (a4 : Int32) (Q : Int32 → sdM → Prop) : Prop := w_S_isGiven o M a1 a2 (fun r10 M9 => w_S_isGiven p3 M9 a4 a2 (fun r12 M11 => (¬ r10 = r12 → k_S_sameLeaf_36 o Q M11) ∧ (r10 = r12 → w_S_valueAt o M11 a1 a2 (fun r14 M13 => w_S_valueAt p3 M13 a4 a2 (fun r16 M15 => (¬ r14 = r16 → k_S_sameLeaf_36 o Q M15) ∧ (r14 = r16 → k_S_sameLeaf_37 o Q M15 (1 : Int32)))))))
set_option maxHeartbeats 1000000 in
theorem c_S_sameLeaf {a1 : Int32} {a2 : Int32} {p3 : Nat} {a4 : Int32} {o : Nat} (hA : sd_ad b n ad) (hT : l.stackTraces = false) (ho : isS n L dA o) (hp3 : isS n L dA p3) {Q : Int32 → sdM → Prop} {M : sdM} (hw : w_S_sameLeaf o M a1 a2 p3 a4 Q) : sd_Cn l (sdE0 sc) y_S_sameLeaf Y_S_sameLeaf.2.2.2.2.1 Y_S_sameLeaf.2.2.2.2.2.1 0 0 D (sd_tys dA) b n ad L M [.ref o, .int a1, .int a2, .ref p3, .int a4] (sd_qi Q) sd_xf := by
  refine sd_enter (Y := Y_S_sameLeaf) rfl rfl rfl rfl (Nat.le_of_ble_eq_true rfl) ?_
  show sdW l (sdE0 sc) Y_S_sameLeaf D (sd_tys dA) b n ad L ad (sd_H D (sdE0 sc).1 n ad L) (sd_qi Q) sd_xf 0 [(0, .ref o), (1, .int a1), (2, .int a2), (3, .ref p3), (4, .int a4)] [] M 0 0
  unfold w_S_sameLeaf at hw
  refine x_aload_n 0 0 d_S_sameLeaf_0 rfl rfl ?_
  refine x_iload_n 1 1 d_S_sameLeaf_1 rfl rfl ?_
  refine x_iload_n 2 2 d_S_sameLeaf_2 rfl rfl ?_
  refine x_callVi (As := [.int a1, .int a2]) (t := o) (rest := []) (rc := 0) (rs := 0) (c_S_isGiven hA hT ho hw) cw_S_sameLeaf_S_isGiven_59 ho.1 ho.2.1 rfl d_S_sameLeaf_3 rfl rfl (Nat.le_of_ble_eq_true rfl) rfl (fun _ _ h => h.elim) (fun _ _ h => h) (fun r10 M9 hw => ?_)
  refine x_aload_n 3 3 d_S_sameLeaf_6 rfl rfl ?_
  refine x_iload 4 4 d_S_sameLeaf_7 rfl ?_
  refine x_iload_n 2 2 d_S_sameLeaf_9 rfl rfl ?_
  refine x_callVi (As := [.int a4, .int a2]) (t := p3) (rest := [.int r10]) (rc := 0) (rs := 0) (c_S_isGiven hA hT hp3 hw) cw_S_sameLeaf_S_isGiven_59 hp3.1 hp3.2.1 rfl d_S_sameLeaf_10 rfl rfl (Nat.le_of_ble_eq_true rfl) rfl (fun _ _ h => h.elim) (fun _ _ h => h) (fun r12 M11 hw => ?_)
  refine x_icmp_ne 36 d_S_sameLeaf_13 rfl (fun hc => ?_) (fun hc => ?_)
  · have hw := hw.1 hc
    refine x_sub [] [] rfl ?_
    exact t_S_sameLeaf_36 hA hT ho M11 hw
  · have hw := hw.2 hc
    refine x_aload_n 0 0 d_S_sameLeaf_16 rfl rfl ?_
    refine x_iload_n 1 1 d_S_sameLeaf_17 rfl rfl ?_
    refine x_iload_n 2 2 d_S_sameLeaf_18 rfl rfl ?_
    refine x_callVi (As := [.int a1, .int a2]) (t := o) (rest := []) (rc := 0) (rs := 0) (c_S_valueAt hA hT ho hw) cw_S_sameLeaf_S_valueAt_63 ho.1 ho.2.1 rfl d_S_sameLeaf_19 rfl rfl (Nat.le_of_ble_eq_true rfl) rfl (fun _ _ h => h.elim) (fun _ _ h => h) (fun r14 M13 hw => ?_)
    refine x_aload_n 3 3 d_S_sameLeaf_22 rfl rfl ?_
    refine x_iload 4 4 d_S_sameLeaf_23 rfl ?_
    refine x_iload_n 2 2 d_S_sameLeaf_25 rfl rfl ?_
    refine x_callVi (As := [.int a4, .int a2]) (t := p3) (rest := [.int r14]) (rc := 0) (rs := 0) (c_S_valueAt hA hT hp3 hw) cw_S_sameLeaf_S_valueAt_63 hp3.1 hp3.2.1 rfl d_S_sameLeaf_26 rfl rfl (Nat.le_of_ble_eq_true rfl) rfl (fun _ _ h => h.elim) (fun _ _ h => h) (fun r16 M15 hw => ?_)
    refine x_icmp_ne 36 d_S_sameLeaf_29 rfl (fun hc => ?_) (fun hc => ?_)
    · have hw := hw.1 hc
      refine x_sub [] [] rfl ?_
      exact t_S_sameLeaf_36 hA hT ho M15 hw
    · have hw := hw.2 hc
      refine x_iconst (v := 1) d_S_sameLeaf_32 (by decide) ?_
      refine x_goto 37 d_S_sameLeaf_33 rfl ?_
      refine x_sub [] [] rfl ?_
      exact t_S_sameLeaf_37 hA hT ho M15 (1 : Int32) hw
end
theorem q12 : (.methodLink "SettingsDesk$Settings" 80 ⟨"SettingsDesk$Settings", "sameLeaf", "(IILSettingsDesk$Settings;I)Z"⟩ : Cond) ∈ sdB0 := sd_tb2 25 rfl rfl
theorem q13 : (.code ⟨"SettingsDesk$Settings", "sameLeaf", "(IILSettingsDesk$Settings;I)Z"⟩ prog_9_method_20_code 5 (some .boolean) : Cond) ∈ sdB0 := sd_tb2 28 rfl rfl
theorem q14 : (.instanceMethod ⟨"SettingsDesk$Settings", "sameLeaf", "(IILSettingsDesk$Settings;I)Z"⟩ : Cond) ∈ sdB0 := sd_tb2 26 rfl rfl
theorem q15 : (.selects "SettingsDesk$Settings" ⟨"SettingsDesk$Settings", "sameLeaf", "(IILSettingsDesk$Settings;I)Z"⟩ ⟨"SettingsDesk$Settings", "sameLeaf", "(IILSettingsDesk$Settings;I)Z"⟩ : Cond) ∈ sdB0 := sd_tb2 27 rfl rfl
abbrev y_S_sameEntry : MethodName := ⟨"SettingsDesk$Settings", "sameEntry", "(ILSettingsDesk$Settings;I)Z"⟩
theorem d_S_sameEntry_0 : decode prog_9_method_21_code 0 = .ok (.iload_n 1, 1) := by decide +kernel
theorem d_S_sameEntry_1 : decode prog_9_method_21_code 1 = .ok (.iconst (-1), 1) := by decide +kernel
theorem d_S_sameEntry_2 : decode prog_9_method_21_code 2 = .ok (.if_icmp .eq (8), 3) := by decide +kernel
theorem d_S_sameEntry_5 : decode prog_9_method_21_code 5 = .ok (.iload_n 3, 1) := by decide +kernel
theorem d_S_sameEntry_6 : decode prog_9_method_21_code 6 = .ok (.iconst (-1), 1) := by decide +kernel
theorem d_S_sameEntry_7 : decode prog_9_method_21_code 7 = .ok (.if_icmp .ne (14), 3) := by decide +kernel
theorem d_S_sameEntry_10 : decode prog_9_method_21_code 10 = .ok (.iload_n 1, 1) := by decide +kernel
theorem d_S_sameEntry_11 : decode prog_9_method_21_code 11 = .ok (.iload_n 3, 1) := by decide +kernel
theorem d_S_sameEntry_12 : decode prog_9_method_21_code 12 = .ok (.if_icmp .ne (7), 3) := by decide +kernel
theorem d_S_sameEntry_15 : decode prog_9_method_21_code 15 = .ok (.iconst 1, 1) := by decide +kernel
theorem d_S_sameEntry_16 : decode prog_9_method_21_code 16 = .ok (.goto (4), 3) := by decide +kernel
theorem d_S_sameEntry_19 : decode prog_9_method_21_code 19 = .ok (.iconst 0, 1) := by decide +kernel
theorem d_S_sameEntry_20 : decode prog_9_method_21_code 20 = .ok (.ireturn, 1) := by decide +kernel
theorem d_S_sameEntry_21 : decode prog_9_method_21_code 21 = .ok (.iconst 0, 1) := by decide +kernel
theorem d_S_sameEntry_22 : decode prog_9_method_21_code 22 = .ok (.istore 4, 2) := by decide +kernel
theorem d_S_sameEntry_24 : decode prog_9_method_21_code 24 = .ok (.iload 4, 2) := by decide +kernel
theorem d_S_sameEntry_26 : decode prog_9_method_21_code 26 = .ok (.iconst 4, 1) := by decide +kernel
theorem d_S_sameEntry_27 : decode prog_9_method_21_code 27 = .ok (.if_icmp .ge (23), 3) := by decide +kernel
theorem d_S_sameEntry_30 : decode prog_9_method_21_code 30 = .ok (.aload_n 0, 1) := by decide +kernel
theorem d_S_sameEntry_31 : decode prog_9_method_21_code 31 = .ok (.iload_n 1, 1) := by decide +kernel
theorem d_S_sameEntry_32 : decode prog_9_method_21_code 32 = .ok (.iload 4, 2) := by decide +kernel
theorem d_S_sameEntry_34 : decode prog_9_method_21_code 34 = .ok (.aload_n 2, 1) := by decide +kernel
theorem d_S_sameEntry_35 : decode prog_9_method_21_code 35 = .ok (.iload_n 3, 1) := by decide +kernel
theorem d_S_sameEntry_36 : decode prog_9_method_21_code 36 = .ok (.invokevirtual 80, 3) := by decide +kernel
theorem d_S_sameEntry_39 : decode prog_9_method_21_code 39 = .ok (.ifCond .ne (5), 3) := by decide +kernel
theorem d_S_sameEntry_42 : decode prog_9_method_21_code 42 = .ok (.iconst 0, 1) := by decide +kernel
theorem d_S_sameEntry_43 : decode prog_9_method_21_code 43 = .ok (.ireturn, 1) := by decide +kernel
theorem d_S_sameEntry_44 : decode prog_9_method_21_code 44 = .ok (.iinc 4 (1), 3) := by decide +kernel
theorem d_S_sameEntry_47 : decode prog_9_method_21_code 47 = .ok (.goto (-23), 3) := by decide +kernel
theorem d_S_sameEntry_50 : decode prog_9_method_21_code 50 = .ok (.iconst 1, 1) := by decide +kernel
theorem d_S_sameEntry_51 : decode prog_9_method_21_code 51 = .ok (.ireturn, 1) := by decide +kernel
def Y_S_sameEntry : sdY := ("SettingsDesk$Settings", prog_9_method_21_code, 5, (some .boolean), .code y_S_sameEntry prog_9_method_21_code 5 (some .boolean) :: sdB0, { frames := 2, cells := 0, slots := 0, locals := 46 }, 0, 0, [])
theorem cw_S_sameEntry_S_sameLeaf_80 : sd_cwV Y_S_sameEntry Y_S_sameLeaf y_S_sameLeaf 80 4 "SettingsDesk$Settings" := ⟨sd_goodV q12 q14 q15 q7 q13, ⟨_, rfl⟩, ⟨rfl, rfl, rfl, rfl⟩, ⟨rfl, by decide, by decide, by decide +kernel⟩, ⟨by decide, by decide⟩⟩
section
variable {l : Launch} {D : va_G} {dA : Nat → ClassId} {b n : Nat} {ad : Nat → Nat} {L : Nat → sdL} {sc : Option (Nat × Nat × (Nat → Int32))}
def h_S_sameEntry_24 (o : Nat) (Q : Int32 → sdM → Prop) : Nat → sdM → Int32 → Nat → Int32 → Int32 → Prop
  | 0, _, _, _, _, _ => False
  | N + 1, M, x1, o2, x3, x4 => ((4 : Int32) ≤ x4 → sdB (1 : Int32) ∧ Q (1 : Int32) M) ∧ (¬ (4 : Int32) ≤ x4 → w_S_sameLeaf o M x1 x4 o2 x3 (fun r4 M3 => (¬ r4 = 0 → h_S_sameEntry_24 o Q N M3 x1 o2 x3 (x4 + 1)) ∧ (r4 = 0 → sdB (0 : Int32) ∧ Q (0 : Int32) M3)))
set_option maxHeartbeats 1000000 in
theorem t_S_sameEntry_24 {o : Nat} (hA : sd_ad b n ad) (hT : l.stackTraces = false) (ho : isS n L dA o) {Q : Int32 → sdM → Prop} (N : Nat) : ∀ (M : sdM) (x1 : Int32) (o2 : Nat) (x3 : Int32) (x4 : Int32) (ho2 : isS n L dA o2), h_S_sameEntry_24 o Q N M x1 o2 x3 x4 → sdW l (sdE0 sc) Y_S_sameEntry D (sd_tys dA) b n ad L ad (sd_H D (sdE0 sc).1 n ad L) (sd_qi Q) sd_xf 24 [(0, .ref o), (1, .int x1), (2, .ref o2), (3, .int x3), (4, .int x4)] [] M 0 0 := by
  induction N with
  | zero => intro M x1 o2 x3 x4 ho2 hw; exact hw.elim
  | succ N ih =>
    intro M x1 o2 x3 x4 ho2 hw
    rw [h_S_sameEntry_24] at hw
    refine x_iload 4 4 d_S_sameEntry_24 rfl ?_
    refine x_iconst (v := 4) d_S_sameEntry_26 (by decide) ?_
    refine x_icmp_ge 50 d_S_sameEntry_27 rfl (fun hc => ?_) (fun hc => ?_)
    · have hw := hw.1 hc
      refine x_iconst (v := 1) d_S_sameEntry_50 (by decide) ?_
      exact x_zret d_S_sameEntry_51 rfl (sdB_n hw.1) (fun _ h => h) ⟨_, rfl, hw.2⟩
    · have hw := hw.2 hc
      refine x_aload_n 0 0 d_S_sameEntry_30 rfl rfl ?_
      refine x_iload_n 1 1 d_S_sameEntry_31 rfl rfl ?_
      refine x_iload 4 4 d_S_sameEntry_32 rfl ?_
      refine x_aload_n 2 2 d_S_sameEntry_34 rfl rfl ?_
      refine x_iload_n 3 3 d_S_sameEntry_35 rfl rfl ?_
      refine x_callVi (As := [.int x1, .int x4, .ref o2, .int x3]) (t := o) (rest := []) (rc := 0) (rs := 0) (c_S_sameLeaf hA hT ho ho2 hw) cw_S_sameEntry_S_sameLeaf_80 ho.1 ho.2.1 rfl d_S_sameEntry_36 rfl rfl (Nat.le_of_ble_eq_true rfl) rfl (fun _ _ h => h.elim) (fun _ _ h => h) (fun r4 M3 hw => ?_)
      refine x_if_ne 44 d_S_sameEntry_39 rfl (fun hc => ?_) (fun hc => ?_)
      · have hw := hw.1 hc
        refine x_iinc 4 4 [(4, .int (x4 + 1)), (0, .ref o), (1, .int x1), (2, .ref o2), (3, .int x3)] d_S_sameEntry_44 rfl (congrArg (HAdd.hAdd x4) (show Int32.ofInt 1 = 1 by decide)) (by decide) rfl ?_
        refine x_goto 24 d_S_sameEntry_47 rfl ?_
        refine x_sub [1, 2, 3, 4, 0] [(0, .ref o), (1, .int x1), (2, .ref o2), (3, .int x3), (4, .int (x4 + 1))] rfl ?_
        exact ih M3 x1 o2 x3 (x4 + 1) ho2 hw
      · have hw := hw.2 hc
        refine x_iconst (v := 0) d_S_sameEntry_42 (by decide) ?_
        exact x_zret d_S_sameEntry_43 rfl (sdB_n hw.1) (fun _ h => h) ⟨_, rfl, hw.2⟩
def k_S_sameEntry_20 (o : Nat) (Q : Int32 → sdM → Prop) (M : sdM) (s0 : Int32) : Prop := sdB s0 ∧ Q s0 M
set_option maxHeartbeats 1000000 in
theorem t_S_sameEntry_20 {o : Nat} (hA : sd_ad b n ad) (hT : l.stackTraces = false) (ho : isS n L dA o) {Q : Int32 → sdM → Prop} (M : sdM) (s0 : Int32) (hw : k_S_sameEntry_20 o Q M s0) : sdW l (sdE0 sc) Y_S_sameEntry D (sd_tys dA) b n ad L ad (sd_H D (sdE0 sc).1 n ad L) (sd_qi Q) sd_xf 20 [] [.int s0] M 0 0 := by
  unfold k_S_sameEntry_20 at hw
  exact x_zret d_S_sameEntry_20 rfl (sdB_n hw.1) (fun _ h => h) ⟨_, rfl, hw.2⟩
def k_S_sameEntry_10 (o : Nat) (Q : Int32 → sdM → Prop) (M : sdM) (x1 : Int32) (x3 : Int32) : Prop := (¬ x1 = x3 → k_S_sameEntry_20 o Q M (0 : Int32)) ∧ (x1 = x3 → k_S_sameEntry_20 o Q M (1 : Int32))
set_option maxHeartbeats 1000000 in
theorem t_S_sameEntry_10 {o : Nat} (hA : sd_ad b n ad) (hT : l.stackTraces = false) (ho : isS n L dA o) {Q : Int32 → sdM → Prop} (M : sdM) (x1 : Int32) (x3 : Int32) (hw : k_S_sameEntry_10 o Q M x1 x3) : sdW l (sdE0 sc) Y_S_sameEntry D (sd_tys dA) b n ad L ad (sd_H D (sdE0 sc).1 n ad L) (sd_qi Q) sd_xf 10 [(1, .int x1), (3, .int x3)] [] M 0 0 := by
  unfold k_S_sameEntry_10 at hw
  refine x_iload_n 1 0 d_S_sameEntry_10 rfl rfl ?_
  refine x_iload_n 3 1 d_S_sameEntry_11 rfl rfl ?_
  refine x_icmp_ne 19 d_S_sameEntry_12 rfl (fun hc => ?_) (fun hc => ?_)
  · have hw := hw.1 hc
    refine x_iconst (v := 0) d_S_sameEntry_19 (by decide) ?_
    refine x_sub [] [] rfl ?_
    exact t_S_sameEntry_20 hA hT ho M (0 : Int32) hw
  · have hw := hw.2 hc
    refine x_iconst (v := 1) d_S_sameEntry_15 (by decide) ?_
    refine x_goto 20 d_S_sameEntry_16 rfl ?_
    refine x_sub [] [] rfl ?_
    exact t_S_sameEntry_20 hA hT ho M (1 : Int32) hw
def w_S_sameEntry (o : Nat) (M : sdM) (a1 : Int32) (p2 : Nat) (a3 : Int32) (Q : Int32 → sdM → Prop) : Prop := (a1 = (-1 : Int32) → k_S_sameEntry_10 o Q M a1 a3) ∧ (¬ a1 = (-1 : Int32) → (¬ a3 = (-1 : Int32) → ∃ N9 : Nat, h_S_sameEntry_24 o Q N9 M a1 p2 a3 (0 : Int32)) ∧ (a3 = (-1 : Int32) → k_S_sameEntry_10 o Q M a1 a3))
set_option maxHeartbeats 1000000 in
theorem c_S_sameEntry {a1 : Int32} {p2 : Nat} {a3 : Int32} {o : Nat} (hA : sd_ad b n ad) (hT : l.stackTraces = false) (ho : isS n L dA o) (hp2 : isS n L dA p2) {Q : Int32 → sdM → Prop} {M : sdM} (hw : w_S_sameEntry o M a1 p2 a3 Q) : sd_Cn l (sdE0 sc) y_S_sameEntry Y_S_sameEntry.2.2.2.2.1 Y_S_sameEntry.2.2.2.2.2.1 0 0 D (sd_tys dA) b n ad L M [.ref o, .int a1, .ref p2, .int a3] (sd_qi Q) sd_xf := by
  refine sd_enter (Y := Y_S_sameEntry) rfl rfl rfl rfl (Nat.le_of_ble_eq_true rfl) ?_
  show sdW l (sdE0 sc) Y_S_sameEntry D (sd_tys dA) b n ad L ad (sd_H D (sdE0 sc).1 n ad L) (sd_qi Q) sd_xf 0 [(0, .ref o), (1, .int a1), (2, .ref p2), (3, .int a3)] [] M 0 0
  unfold w_S_sameEntry at hw
  refine x_iload_n 1 1 d_S_sameEntry_0 rfl rfl ?_
  refine x_iconst (v := (-1)) d_S_sameEntry_1 (by decide) ?_
  refine x_icmp_eq 10 d_S_sameEntry_2 rfl (fun hc => ?_) (fun hc => ?_)
  · have hw := hw.1 hc
    refine x_sub [1, 3] [(1, .int a1), (3, .int a3)] rfl ?_
    exact t_S_sameEntry_10 hA hT ho M a1 a3 hw
  · have hw := hw.2 hc
    refine x_iload_n 3 3 d_S_sameEntry_5 rfl rfl ?_
    refine x_iconst (v := (-1)) d_S_sameEntry_6 (by decide) ?_
    refine x_icmp_ne 21 d_S_sameEntry_7 rfl (fun hc => ?_) (fun hc => ?_)
    · have hw := hw.1 hc
      refine x_iconst (v := 0) d_S_sameEntry_21 (by decide) ?_
      refine x_istore 4 [(4, .int (0 : Int32)), (0, .ref o), (1, .int a1), (2, .ref p2), (3, .int a3)] d_S_sameEntry_22 (by decide) rfl ?_
      refine x_sub [1, 2, 3, 4, 0] [(0, .ref o), (1, .int a1), (2, .ref p2), (3, .int a3), (4, .int (0 : Int32))] rfl ?_
      obtain ⟨N9, hw⟩ := hw
      exact t_S_sameEntry_24 hA hT ho N9 M a1 p2 a3 (0 : Int32) hp2 hw
    · have hw := hw.2 hc
      refine x_sub [1, 3] [(1, .int a1), (3, .int a3)] rfl ?_
      exact t_S_sameEntry_10 hA hT ho M a1 a3 hw
end
theorem q16 : (.fieldLink "SettingsDesk$Settings" 15 "SettingsDesk$Settings" "keys" "[I" : Cond) ∈ sdB0 := sd_tb1 140 rfl rfl
theorem q17 : (.methodLink "SettingsDesk$Settings" 36 ⟨"SettingsDesk$Settings", "firstRow", "(I)I"⟩ : Cond) ∈ sdB0 := sd_tb2 13 rfl rfl
theorem q18 : (.code ⟨"SettingsDesk$Settings", "firstRow", "(I)I"⟩ prog_9_method_4_code 2 (some .int) : Cond) ∈ sdB0 := sd_tb2 16 rfl rfl
theorem q19 : (.instanceMethod ⟨"SettingsDesk$Settings", "firstRow", "(I)I"⟩ : Cond) ∈ sdB0 := sd_tb2 14 rfl rfl
theorem q20 : (.selects "SettingsDesk$Settings" ⟨"SettingsDesk$Settings", "firstRow", "(I)I"⟩ ⟨"SettingsDesk$Settings", "firstRow", "(I)I"⟩ : Cond) ∈ sdB0 := sd_tb2 15 rfl rfl
theorem q21 : (.methodLink "SettingsDesk$Settings" 40 ⟨"SettingsDesk$Settings", "endRow", "(I)I"⟩ : Cond) ∈ sdB0 := sd_tb2 17 rfl rfl
theorem q22 : (.code ⟨"SettingsDesk$Settings", "endRow", "(I)I"⟩ prog_9_method_5_code 2 (some .int) : Cond) ∈ sdB0 := sd_tb2 20 rfl rfl
theorem q23 : (.instanceMethod ⟨"SettingsDesk$Settings", "endRow", "(I)I"⟩ : Cond) ∈ sdB0 := sd_tb2 18 rfl rfl
theorem q24 : (.selects "SettingsDesk$Settings" ⟨"SettingsDesk$Settings", "endRow", "(I)I"⟩ ⟨"SettingsDesk$Settings", "endRow", "(I)I"⟩ : Cond) ∈ sdB0 := sd_tb2 19 rfl rfl
theorem q25 : (.methodLink "SettingsDesk$Settings" 88 ⟨"SettingsDesk$Settings", "sameEntry", "(ILSettingsDesk$Settings;I)Z"⟩ : Cond) ∈ sdB0 := sd_tb2 21 rfl rfl
theorem q26 : (.code ⟨"SettingsDesk$Settings", "sameEntry", "(ILSettingsDesk$Settings;I)Z"⟩ prog_9_method_21_code 5 (some .boolean) : Cond) ∈ sdB0 := sd_tb2 24 rfl rfl
theorem q27 : (.instanceMethod ⟨"SettingsDesk$Settings", "sameEntry", "(ILSettingsDesk$Settings;I)Z"⟩ : Cond) ∈ sdB0 := sd_tb2 22 rfl rfl
theorem q28 : (.selects "SettingsDesk$Settings" ⟨"SettingsDesk$Settings", "sameEntry", "(ILSettingsDesk$Settings;I)Z"⟩ ⟨"SettingsDesk$Settings", "sameEntry", "(ILSettingsDesk$Settings;I)Z"⟩ : Cond) ∈ sdB0 := sd_tb2 23 rfl rfl
abbrev y_S_sameList : MethodName := ⟨"SettingsDesk$Settings", "sameList", "(ILSettingsDesk$Settings;)Z"⟩
theorem d_S_sameList_0 : decode prog_9_method_23_code 0 = .ok (.aload_n 0, 1) := by decide +kernel
theorem d_S_sameList_1 : decode prog_9_method_23_code 1 = .ok (.getfield 9, 3) := by decide +kernel
theorem d_S_sameList_4 : decode prog_9_method_23_code 4 = .ok (.iload_n 1, 1) := by decide +kernel
theorem d_S_sameList_5 : decode prog_9_method_23_code 5 = .ok (.iaload, 1) := by decide +kernel
theorem d_S_sameList_6 : decode prog_9_method_23_code 6 = .ok (.aload_n 2, 1) := by decide +kernel
theorem d_S_sameList_7 : decode prog_9_method_23_code 7 = .ok (.getfield 9, 3) := by decide +kernel
theorem d_S_sameList_10 : decode prog_9_method_23_code 10 = .ok (.iload_n 1, 1) := by decide +kernel
theorem d_S_sameList_11 : decode prog_9_method_23_code 11 = .ok (.iaload, 1) := by decide +kernel
theorem d_S_sameList_12 : decode prog_9_method_23_code 12 = .ok (.if_icmp .eq (5), 3) := by decide +kernel
theorem d_S_sameList_15 : decode prog_9_method_23_code 15 = .ok (.iconst 0, 1) := by decide +kernel
theorem d_S_sameList_16 : decode prog_9_method_23_code 16 = .ok (.ireturn, 1) := by decide +kernel
theorem d_S_sameList_17 : decode prog_9_method_23_code 17 = .ok (.aload_n 0, 1) := by decide +kernel
theorem d_S_sameList_18 : decode prog_9_method_23_code 18 = .ok (.iload_n 1, 1) := by decide +kernel
theorem d_S_sameList_19 : decode prog_9_method_23_code 19 = .ok (.invokevirtual 36, 3) := by decide +kernel
theorem d_S_sameList_22 : decode prog_9_method_23_code 22 = .ok (.istore_n 3, 1) := by decide +kernel
theorem d_S_sameList_23 : decode prog_9_method_23_code 23 = .ok (.iload_n 3, 1) := by decide +kernel
theorem d_S_sameList_24 : decode prog_9_method_23_code 24 = .ok (.aload_n 0, 1) := by decide +kernel
theorem d_S_sameList_25 : decode prog_9_method_23_code 25 = .ok (.iload_n 1, 1) := by decide +kernel
theorem d_S_sameList_26 : decode prog_9_method_23_code 26 = .ok (.invokevirtual 40, 3) := by decide +kernel
theorem d_S_sameList_29 : decode prog_9_method_23_code 29 = .ok (.if_icmp .ge (36), 3) := by decide +kernel
theorem d_S_sameList_32 : decode prog_9_method_23_code 32 = .ok (.aload_n 0, 1) := by decide +kernel
theorem d_S_sameList_33 : decode prog_9_method_23_code 33 = .ok (.getfield 15, 3) := by decide +kernel
theorem d_S_sameList_36 : decode prog_9_method_23_code 36 = .ok (.iload_n 3, 1) := by decide +kernel
theorem d_S_sameList_37 : decode prog_9_method_23_code 37 = .ok (.iaload, 1) := by decide +kernel
theorem d_S_sameList_38 : decode prog_9_method_23_code 38 = .ok (.aload_n 2, 1) := by decide +kernel
theorem d_S_sameList_39 : decode prog_9_method_23_code 39 = .ok (.getfield 15, 3) := by decide +kernel
theorem d_S_sameList_42 : decode prog_9_method_23_code 42 = .ok (.iload_n 3, 1) := by decide +kernel
theorem d_S_sameList_43 : decode prog_9_method_23_code 43 = .ok (.iaload, 1) := by decide +kernel
theorem d_S_sameList_44 : decode prog_9_method_23_code 44 = .ok (.if_icmp .ne (13), 3) := by decide +kernel
theorem d_S_sameList_47 : decode prog_9_method_23_code 47 = .ok (.aload_n 0, 1) := by decide +kernel
theorem d_S_sameList_48 : decode prog_9_method_23_code 48 = .ok (.iload_n 3, 1) := by decide +kernel
theorem d_S_sameList_49 : decode prog_9_method_23_code 49 = .ok (.aload_n 2, 1) := by decide +kernel
theorem d_S_sameList_50 : decode prog_9_method_23_code 50 = .ok (.iload_n 3, 1) := by decide +kernel
theorem d_S_sameList_51 : decode prog_9_method_23_code 51 = .ok (.invokevirtual 88, 3) := by decide +kernel
theorem d_S_sameList_54 : decode prog_9_method_23_code 54 = .ok (.ifCond .ne (5), 3) := by decide +kernel
theorem d_S_sameList_57 : decode prog_9_method_23_code 57 = .ok (.iconst 0, 1) := by decide +kernel
theorem d_S_sameList_58 : decode prog_9_method_23_code 58 = .ok (.ireturn, 1) := by decide +kernel
theorem d_S_sameList_59 : decode prog_9_method_23_code 59 = .ok (.iinc 3 (1), 3) := by decide +kernel
theorem d_S_sameList_62 : decode prog_9_method_23_code 62 = .ok (.goto (-39), 3) := by decide +kernel
theorem d_S_sameList_65 : decode prog_9_method_23_code 65 = .ok (.iconst 1, 1) := by decide +kernel
theorem d_S_sameList_66 : decode prog_9_method_23_code 66 = .ok (.ireturn, 1) := by decide +kernel
def Y_S_sameList : sdY := ("SettingsDesk$Settings", prog_9_method_23_code, 4, (some .boolean), .code y_S_sameList prog_9_method_23_code 4 (some .boolean) :: sdB0, { frames := 3, cells := 0, slots := 0, locals := 70 }, 0, 0, [])
theorem cw_S_sameList_S_firstRow_36 : sd_cwV Y_S_sameList Y_S_firstRow y_S_firstRow 36 1 "SettingsDesk$Settings" := ⟨sd_goodV q17 q19 q20 q7 q18, ⟨_, rfl⟩, ⟨rfl, rfl, rfl, rfl⟩, ⟨rfl, by decide, by decide, by decide +kernel⟩, ⟨by decide, by decide⟩⟩
theorem cw_S_sameList_S_endRow_40 : sd_cwV Y_S_sameList Y_S_endRow y_S_endRow 40 1 "SettingsDesk$Settings" := ⟨sd_goodV q21 q23 q24 q7 q22, ⟨_, rfl⟩, ⟨rfl, rfl, rfl, rfl⟩, ⟨rfl, by decide, by decide, by decide +kernel⟩, ⟨by decide, by decide⟩⟩
theorem cw_S_sameList_S_sameEntry_88 : sd_cwV Y_S_sameList Y_S_sameEntry y_S_sameEntry 88 3 "SettingsDesk$Settings" := ⟨sd_goodV q25 q27 q28 q7 q26, ⟨_, rfl⟩, ⟨rfl, rfl, rfl, rfl⟩, ⟨rfl, by decide, by decide, by decide +kernel⟩, ⟨by decide, by decide⟩⟩
section
variable {l : Launch} {D : va_G} {dA : Nat → ClassId} {b n : Nat} {ad : Nat → Nat} {L : Nat → sdL} {sc : Option (Nat × Nat × (Nat → Int32))}
def k_S_sameList_57 (o : Nat) (Q : Int32 → sdM → Prop) (M : sdM) : Prop := sdB (0 : Int32) ∧ Q (0 : Int32) M
set_option maxHeartbeats 1000000 in
theorem t_S_sameList_57 {o : Nat} (hA : sd_ad b n ad) (hT : l.stackTraces = false) (ho : isS n L dA o) {Q : Int32 → sdM → Prop} (M : sdM) (hw : k_S_sameList_57 o Q M ) : sdW l (sdE0 sc) Y_S_sameList D (sd_tys dA) b n ad L ad (sd_H D (sdE0 sc).1 n ad L) (sd_qi Q) sd_xf 57 [] [] M 0 0 := by
  unfold k_S_sameList_57 at hw
  refine x_iconst (v := 0) d_S_sameList_57 (by decide) ?_
  exact x_zret d_S_sameList_58 rfl (sdB_n hw.1) (fun _ h => h) ⟨_, rfl, hw.2⟩
def h_S_sameList_23 (o : Nat) (Q : Int32 → sdM → Prop) : Nat → sdM → Int32 → Nat → Int32 → Prop
  | 0, _, _, _, _ => False
  | N + 1, M, x1, o2, x3 => w_S_endRow o M x1 (fun r12 M11 => (r12 ≤ x3 → sdB (1 : Int32) ∧ Q (1 : Int32) M11) ∧ (¬ r12 ≤ x3 → vp_in x3 48 ∧ vp_in x3 48 ∧ (¬ (M11 (o + 2) x3.toNatClampNeg) = (M11 (o2 + 2) x3.toNatClampNeg) → k_S_sameList_57 o Q M11) ∧ ((M11 (o + 2) x3.toNatClampNeg) = (M11 (o2 + 2) x3.toNatClampNeg) → w_S_sameEntry o M11 x3 o2 x3 (fun r16 M15 => (¬ r16 = 0 → h_S_sameList_23 o Q N M15 x1 o2 (x3 + 1)) ∧ (r16 = 0 → k_S_sameList_57 o Q M15)))))
set_option maxHeartbeats 1000000 in
theorem t_S_sameList_23 {o : Nat} (hA : sd_ad b n ad) (hT : l.stackTraces = false) (ho : isS n L dA o) {Q : Int32 → sdM → Prop} (N : Nat) : ∀ (M : sdM) (x1 : Int32) (o2 : Nat) (x3 : Int32) (ho2 : isS n L dA o2), h_S_sameList_23 o Q N M x1 o2 x3 → sdW l (sdE0 sc) Y_S_sameList D (sd_tys dA) b n ad L ad (sd_H D (sdE0 sc).1 n ad L) (sd_qi Q) sd_xf 23 [(0, .ref o), (1, .int x1), (2, .ref o2), (3, .int x3)] [] M 0 0 := by
  induction N with
  | zero => intro M x1 o2 x3 ho2 hw; exact hw.elim
  | succ N ih =>
    intro M x1 o2 x3 ho2 hw
    rw [h_S_sameList_23] at hw
    refine x_iload_n 3 3 d_S_sameList_23 rfl rfl ?_
    refine x_aload_n 0 0 d_S_sameList_24 rfl rfl ?_
    refine x_iload_n 1 1 d_S_sameList_25 rfl rfl ?_
    refine x_callVi (As := [.int x1]) (t := o) (rest := [.int x3]) (rc := 0) (rs := 0) (c_S_endRow hA hT ho hw) cw_S_sameList_S_endRow_40 ho.1 ho.2.1 rfl d_S_sameList_26 rfl rfl (Nat.le_of_ble_eq_true rfl) rfl (fun _ _ h => h.elim) (fun _ _ h => h) (fun r12 M11 hw => ?_)
    refine x_icmp_ge 65 d_S_sameList_29 rfl (fun hc => ?_) (fun hc => ?_)
    · have hw := hw.1 hc
      refine x_iconst (v := 1) d_S_sameList_65 (by decide) ?_
      exact x_zret d_S_sameList_66 rfl (sdB_n hw.1) (fun _ h => h) ⟨_, rfl, hw.2⟩
    · have hw := hw.2 hc
      refine x_aload_n 0 0 d_S_sameList_32 rfl rfl ?_
      refine x_getr 1 (o + 2) d_S_sameList_33 ho.1 ho.2.1 rfl rfl (by decide) lay_S (List.mem_cons_of_mem _ q16) rfl ?_
      refine x_iload_n 3 3 d_S_sameList_36 rfl rfl ?_
      obtain ⟨hi13, hw⟩ := hw
      refine x_iald d_S_sameList_37 ho.keys.1 ho.keys.2 rfl hi13 ?_
      refine x_aload_n 2 2 d_S_sameList_38 rfl rfl ?_
      refine x_getr 1 (o2 + 2) d_S_sameList_39 ho2.1 ho2.2.1 rfl rfl (by decide) lay_S (List.mem_cons_of_mem _ q16) rfl ?_
      refine x_iload_n 3 3 d_S_sameList_42 rfl rfl ?_
      obtain ⟨hi14, hw⟩ := hw
      refine x_iald d_S_sameList_43 ho2.keys.1 ho2.keys.2 rfl hi14 ?_
      refine x_icmp_ne 57 d_S_sameList_44 rfl (fun hc => ?_) (fun hc => ?_)
      · have hw := hw.1 hc
        refine x_sub [] [] rfl ?_
        exact t_S_sameList_57 hA hT ho M11 hw
      · have hw := hw.2 hc
        refine x_aload_n 0 0 d_S_sameList_47 rfl rfl ?_
        refine x_iload_n 3 3 d_S_sameList_48 rfl rfl ?_
        refine x_aload_n 2 2 d_S_sameList_49 rfl rfl ?_
        refine x_iload_n 3 3 d_S_sameList_50 rfl rfl ?_
        refine x_callVi (As := [.int x3, .ref o2, .int x3]) (t := o) (rest := []) (rc := 0) (rs := 0) (c_S_sameEntry hA hT ho ho2 hw) cw_S_sameList_S_sameEntry_88 ho.1 ho.2.1 rfl d_S_sameList_51 rfl rfl (Nat.le_of_ble_eq_true rfl) rfl (fun _ _ h => h.elim) (fun _ _ h => h) (fun r16 M15 hw => ?_)
        refine x_if_ne 59 d_S_sameList_54 rfl (fun hc => ?_) (fun hc => ?_)
        · have hw := hw.1 hc
          refine x_iinc 3 3 [(3, .int (x3 + 1)), (0, .ref o), (1, .int x1), (2, .ref o2)] d_S_sameList_59 rfl (congrArg (HAdd.hAdd x3) (show Int32.ofInt 1 = 1 by decide)) (by decide) rfl ?_
          refine x_goto 23 d_S_sameList_62 rfl ?_
          refine x_sub [1, 2, 3, 0] [(0, .ref o), (1, .int x1), (2, .ref o2), (3, .int (x3 + 1))] rfl ?_
          exact ih M15 x1 o2 (x3 + 1) ho2 hw
        · have hw := hw.2 hc
          refine x_sub [] [] rfl ?_
          exact t_S_sameList_57 hA hT ho M15 hw
def w_S_sameList (o : Nat) (M : sdM) (a1 : Int32) (p2 : Nat) (Q : Int32 → sdM → Prop) : Prop := vp_in a1 4 ∧ vp_in a1 4 ∧ ((M (o + 1) a1.toNatClampNeg) = (M (p2 + 1) a1.toNatClampNeg) → w_S_firstRow o M a1 (fun r20 M19 => ∃ N9 : Nat, h_S_sameList_23 o Q N9 M19 a1 p2 r20)) ∧ (¬ (M (o + 1) a1.toNatClampNeg) = (M (p2 + 1) a1.toNatClampNeg) → sdB (0 : Int32) ∧ Q (0 : Int32) M)
set_option maxHeartbeats 1000000 in
theorem c_S_sameList {a1 : Int32} {p2 : Nat} {o : Nat} (hA : sd_ad b n ad) (hT : l.stackTraces = false) (ho : isS n L dA o) (hp2 : isS n L dA p2) {Q : Int32 → sdM → Prop} {M : sdM} (hw : w_S_sameList o M a1 p2 Q) : sd_Cn l (sdE0 sc) y_S_sameList Y_S_sameList.2.2.2.2.1 Y_S_sameList.2.2.2.2.2.1 0 0 D (sd_tys dA) b n ad L M [.ref o, .int a1, .ref p2] (sd_qi Q) sd_xf := by
  refine sd_enter (Y := Y_S_sameList) rfl rfl rfl rfl (Nat.le_of_ble_eq_true rfl) ?_
  show sdW l (sdE0 sc) Y_S_sameList D (sd_tys dA) b n ad L ad (sd_H D (sdE0 sc).1 n ad L) (sd_qi Q) sd_xf 0 [(0, .ref o), (1, .int a1), (2, .ref p2)] [] M 0 0
  unfold w_S_sameList at hw
  refine x_aload_n 0 0 d_S_sameList_0 rfl rfl ?_
  refine x_getr 0 (o + 1) d_S_sameList_1 ho.1 ho.2.1 rfl rfl (by decide) lay_S (List.mem_cons_of_mem _ q0) rfl ?_
  refine x_iload_n 1 1 d_S_sameList_4 rfl rfl ?_
  obtain ⟨hi17, hw⟩ := hw
  refine x_iald d_S_sameList_5 ho.counts.1 ho.counts.2 rfl hi17 ?_
  refine x_aload_n 2 2 d_S_sameList_6 rfl rfl ?_
  refine x_getr 0 (p2 + 1) d_S_sameList_7 hp2.1 hp2.2.1 rfl rfl (by decide) lay_S (List.mem_cons_of_mem _ q0) rfl ?_
  refine x_iload_n 1 1 d_S_sameList_10 rfl rfl ?_
  obtain ⟨hi18, hw⟩ := hw
  refine x_iald d_S_sameList_11 hp2.counts.1 hp2.counts.2 rfl hi18 ?_
  refine x_icmp_eq 17 d_S_sameList_12 rfl (fun hc => ?_) (fun hc => ?_)
  · have hw := hw.1 hc
    refine x_aload_n 0 0 d_S_sameList_17 rfl rfl ?_
    refine x_iload_n 1 1 d_S_sameList_18 rfl rfl ?_
    refine x_callVi (As := [.int a1]) (t := o) (rest := []) (rc := 0) (rs := 0) (c_S_firstRow hA hT ho hw) cw_S_sameList_S_firstRow_36 ho.1 ho.2.1 rfl d_S_sameList_19 rfl rfl (Nat.le_of_ble_eq_true rfl) rfl (fun _ _ h => h.elim) (fun _ _ h => h) (fun r20 M19 hw => ?_)
    refine x_istore_n 3 [(3, .int r20), (0, .ref o), (1, .int a1), (2, .ref p2)] d_S_sameList_22 rfl (by decide) rfl ?_
    refine x_sub [1, 2, 3, 0] [(0, .ref o), (1, .int a1), (2, .ref p2), (3, .int r20)] rfl ?_
    obtain ⟨N9, hw⟩ := hw
    exact t_S_sameList_23 hA hT ho N9 M19 a1 p2 r20 hp2 hw
  · have hw := hw.2 hc
    refine x_iconst (v := 0) d_S_sameList_15 (by decide) ?_
    exact x_zret d_S_sameList_16 rfl (sdB_n hw.1) (fun _ h => h) ⟨_, rfl, hw.2⟩
end
theorem q29 : (.methodLink "SettingsDesk$Settings" 84 ⟨"SettingsDesk$Settings", "sameList", "(ILSettingsDesk$Settings;)Z"⟩ : Cond) ∈ sdB0 := sd_tb2 9 rfl rfl
theorem q30 : (.code ⟨"SettingsDesk$Settings", "sameList", "(ILSettingsDesk$Settings;)Z"⟩ prog_9_method_23_code 4 (some .boolean) : Cond) ∈ sdB0 := sd_tb2 12 rfl rfl
theorem q31 : (.instanceMethod ⟨"SettingsDesk$Settings", "sameList", "(ILSettingsDesk$Settings;)Z"⟩ : Cond) ∈ sdB0 := sd_tb2 10 rfl rfl
theorem q32 : (.selects "SettingsDesk$Settings" ⟨"SettingsDesk$Settings", "sameList", "(ILSettingsDesk$Settings;)Z"⟩ ⟨"SettingsDesk$Settings", "sameList", "(ILSettingsDesk$Settings;)Z"⟩ : Cond) ∈ sdB0 := sd_tb2 11 rfl rfl
abbrev y_S_sameAs : MethodName := ⟨"SettingsDesk$Settings", "sameAs", "(LSettingsDesk$Settings;)Z"⟩
theorem d_S_sameAs_0 : decode prog_9_method_22_code 0 = .ok (.iconst 0, 1) := by decide +kernel
theorem d_S_sameAs_1 : decode prog_9_method_22_code 1 = .ok (.istore_n 2, 1) := by decide +kernel
theorem d_S_sameAs_2 : decode prog_9_method_22_code 2 = .ok (.iload_n 2, 1) := by decide +kernel
theorem d_S_sameAs_3 : decode prog_9_method_22_code 3 = .ok (.iconst 4, 1) := by decide +kernel
theorem d_S_sameAs_4 : decode prog_9_method_22_code 4 = .ok (.if_icmp .ge (20), 3) := by decide +kernel
theorem d_S_sameAs_7 : decode prog_9_method_22_code 7 = .ok (.aload_n 0, 1) := by decide +kernel
theorem d_S_sameAs_8 : decode prog_9_method_22_code 8 = .ok (.iload_n 2, 1) := by decide +kernel
theorem d_S_sameAs_9 : decode prog_9_method_22_code 9 = .ok (.aload_n 1, 1) := by decide +kernel
theorem d_S_sameAs_10 : decode prog_9_method_22_code 10 = .ok (.invokevirtual 84, 3) := by decide +kernel
theorem d_S_sameAs_13 : decode prog_9_method_22_code 13 = .ok (.ifCond .ne (5), 3) := by decide +kernel
theorem d_S_sameAs_16 : decode prog_9_method_22_code 16 = .ok (.iconst 0, 1) := by decide +kernel
theorem d_S_sameAs_17 : decode prog_9_method_22_code 17 = .ok (.ireturn, 1) := by decide +kernel
theorem d_S_sameAs_18 : decode prog_9_method_22_code 18 = .ok (.iinc 2 (1), 3) := by decide +kernel
theorem d_S_sameAs_21 : decode prog_9_method_22_code 21 = .ok (.goto (-19), 3) := by decide +kernel
theorem d_S_sameAs_24 : decode prog_9_method_22_code 24 = .ok (.iconst 1, 1) := by decide +kernel
theorem d_S_sameAs_25 : decode prog_9_method_22_code 25 = .ok (.ireturn, 1) := by decide +kernel
def Y_S_sameAs : sdY := ("SettingsDesk$Settings", prog_9_method_22_code, 3, (some .boolean), .code y_S_sameAs prog_9_method_22_code 3 (some .boolean) :: sdB0, { frames := 4, cells := 0, slots := 0, locals := 93 }, 0, 0, [])
theorem cw_S_sameAs_S_sameList_84 : sd_cwV Y_S_sameAs Y_S_sameList y_S_sameList 84 2 "SettingsDesk$Settings" := ⟨sd_goodV q29 q31 q32 q7 q30, ⟨_, rfl⟩, ⟨rfl, rfl, rfl, rfl⟩, ⟨rfl, by decide, by decide, by decide +kernel⟩, ⟨by decide, by decide⟩⟩
section
variable {l : Launch} {D : va_G} {dA : Nat → ClassId} {b n : Nat} {ad : Nat → Nat} {L : Nat → sdL} {sc : Option (Nat × Nat × (Nat → Int32))}
def h_S_sameAs_2 (o : Nat) (Q : Int32 → sdM → Prop) : Nat → sdM → Nat → Int32 → Prop
  | 0, _, _, _ => False
  | N + 1, M, o1, x2 => ((4 : Int32) ≤ x2 → sdB (1 : Int32) ∧ Q (1 : Int32) M) ∧ (¬ (4 : Int32) ≤ x2 → w_S_sameList o M x2 o1 (fun r4 M3 => (¬ r4 = 0 → h_S_sameAs_2 o Q N M3 o1 (x2 + 1)) ∧ (r4 = 0 → sdB (0 : Int32) ∧ Q (0 : Int32) M3)))
set_option maxHeartbeats 1000000 in
theorem t_S_sameAs_2 {o : Nat} (hA : sd_ad b n ad) (hT : l.stackTraces = false) (ho : isS n L dA o) {Q : Int32 → sdM → Prop} (N : Nat) : ∀ (M : sdM) (o1 : Nat) (x2 : Int32) (ho1 : isS n L dA o1), h_S_sameAs_2 o Q N M o1 x2 → sdW l (sdE0 sc) Y_S_sameAs D (sd_tys dA) b n ad L ad (sd_H D (sdE0 sc).1 n ad L) (sd_qi Q) sd_xf 2 [(0, .ref o), (1, .ref o1), (2, .int x2)] [] M 0 0 := by
  induction N with
  | zero => intro M o1 x2 ho1 hw; exact hw.elim
  | succ N ih =>
    intro M o1 x2 ho1 hw
    rw [h_S_sameAs_2] at hw
    refine x_iload_n 2 2 d_S_sameAs_2 rfl rfl ?_
    refine x_iconst (v := 4) d_S_sameAs_3 (by decide) ?_
    refine x_icmp_ge 24 d_S_sameAs_4 rfl (fun hc => ?_) (fun hc => ?_)
    · have hw := hw.1 hc
      refine x_iconst (v := 1) d_S_sameAs_24 (by decide) ?_
      exact x_zret d_S_sameAs_25 rfl (sdB_n hw.1) (fun _ h => h) ⟨_, rfl, hw.2⟩
    · have hw := hw.2 hc
      refine x_aload_n 0 0 d_S_sameAs_7 rfl rfl ?_
      refine x_iload_n 2 2 d_S_sameAs_8 rfl rfl ?_
      refine x_aload_n 1 1 d_S_sameAs_9 rfl rfl ?_
      refine x_callVi (As := [.int x2, .ref o1]) (t := o) (rest := []) (rc := 0) (rs := 0) (c_S_sameList hA hT ho ho1 hw) cw_S_sameAs_S_sameList_84 ho.1 ho.2.1 rfl d_S_sameAs_10 rfl rfl (Nat.le_of_ble_eq_true rfl) rfl (fun _ _ h => h.elim) (fun _ _ h => h) (fun r4 M3 hw => ?_)
      refine x_if_ne 18 d_S_sameAs_13 rfl (fun hc => ?_) (fun hc => ?_)
      · have hw := hw.1 hc
        refine x_iinc 2 2 [(2, .int (x2 + 1)), (0, .ref o), (1, .ref o1)] d_S_sameAs_18 rfl (congrArg (HAdd.hAdd x2) (show Int32.ofInt 1 = 1 by decide)) (by decide) rfl ?_
        refine x_goto 2 d_S_sameAs_21 rfl ?_
        refine x_sub [1, 2, 0] [(0, .ref o), (1, .ref o1), (2, .int (x2 + 1))] rfl ?_
        exact ih M3 o1 (x2 + 1) ho1 hw
      · have hw := hw.2 hc
        refine x_iconst (v := 0) d_S_sameAs_16 (by decide) ?_
        exact x_zret d_S_sameAs_17 rfl (sdB_n hw.1) (fun _ h => h) ⟨_, rfl, hw.2⟩
def w_S_sameAs (o : Nat) (M : sdM) (p1 : Nat) (Q : Int32 → sdM → Prop) : Prop := ∃ N9 : Nat, h_S_sameAs_2 o Q N9 M p1 (0 : Int32)
set_option maxHeartbeats 1000000 in
theorem c_S_sameAs {p1 : Nat} {o : Nat} (hA : sd_ad b n ad) (hT : l.stackTraces = false) (ho : isS n L dA o) (hp1 : isS n L dA p1) {Q : Int32 → sdM → Prop} {M : sdM} (hw : w_S_sameAs o M p1 Q) : sd_Cn l (sdE0 sc) y_S_sameAs Y_S_sameAs.2.2.2.2.1 Y_S_sameAs.2.2.2.2.2.1 0 0 D (sd_tys dA) b n ad L M [.ref o, .ref p1] (sd_qi Q) sd_xf := by
  refine sd_enter (Y := Y_S_sameAs) rfl rfl rfl rfl (Nat.le_of_ble_eq_true rfl) ?_
  show sdW l (sdE0 sc) Y_S_sameAs D (sd_tys dA) b n ad L ad (sd_H D (sdE0 sc).1 n ad L) (sd_qi Q) sd_xf 0 [(0, .ref o), (1, .ref p1)] [] M 0 0
  unfold w_S_sameAs at hw
  refine x_iconst (v := 0) d_S_sameAs_0 (by decide) ?_
  refine x_istore_n 2 [(2, .int (0 : Int32)), (0, .ref o), (1, .ref p1)] d_S_sameAs_1 rfl (by decide) rfl ?_
  refine x_sub [1, 2, 0] [(0, .ref o), (1, .ref p1), (2, .int (0 : Int32))] rfl ?_
  obtain ⟨N9, hw⟩ := hw
  exact t_S_sameAs_2 hA hT ho N9 M p1 (0 : Int32) hp1 hw
end
abbrev y_JM_floorMod : MethodName := ⟨"java/lang/Math", "floorMod", "(II)I"⟩
theorem d_JM_floorMod_0 : decode prog_17_method_50_code 0 = .ok (.iload_n 0, 1) := by decide +kernel
theorem d_JM_floorMod_1 : decode prog_17_method_50_code 1 = .ok (.iload_n 1, 1) := by decide +kernel
theorem d_JM_floorMod_2 : decode prog_17_method_50_code 2 = .ok (.irem, 1) := by decide +kernel
theorem d_JM_floorMod_3 : decode prog_17_method_50_code 3 = .ok (.istore_n 2, 1) := by decide +kernel
theorem d_JM_floorMod_4 : decode prog_17_method_50_code 4 = .ok (.iload_n 0, 1) := by decide +kernel
theorem d_JM_floorMod_5 : decode prog_17_method_50_code 5 = .ok (.iload_n 1, 1) := by decide +kernel
theorem d_JM_floorMod_6 : decode prog_17_method_50_code 6 = .ok (.ixor, 1) := by decide +kernel
theorem d_JM_floorMod_7 : decode prog_17_method_50_code 7 = .ok (.ifCond .ge (11), 3) := by decide +kernel
theorem d_JM_floorMod_10 : decode prog_17_method_50_code 10 = .ok (.iload_n 2, 1) := by decide +kernel
theorem d_JM_floorMod_11 : decode prog_17_method_50_code 11 = .ok (.ifCond .eq (7), 3) := by decide +kernel
theorem d_JM_floorMod_14 : decode prog_17_method_50_code 14 = .ok (.iload_n 2, 1) := by decide +kernel
theorem d_JM_floorMod_15 : decode prog_17_method_50_code 15 = .ok (.iload_n 1, 1) := by decide +kernel
theorem d_JM_floorMod_16 : decode prog_17_method_50_code 16 = .ok (.iadd, 1) := by decide +kernel
theorem d_JM_floorMod_17 : decode prog_17_method_50_code 17 = .ok (.ireturn, 1) := by decide +kernel
theorem d_JM_floorMod_18 : decode prog_17_method_50_code 18 = .ok (.iload_n 2, 1) := by decide +kernel
theorem d_JM_floorMod_19 : decode prog_17_method_50_code 19 = .ok (.ireturn, 1) := by decide +kernel
def Y_JM_floorMod : sdY := ("java/lang/Math", prog_17_method_50_code, 3, (some .int), .code y_JM_floorMod prog_17_method_50_code 3 (some .int) :: sdB0, { frames := 0, cells := 0, slots := 0, locals := 0 }, 0, 0, [])
section
variable {l : Launch} {D : va_G} {dA : Nat → ClassId} {b n : Nat} {ad : Nat → Nat} {L : Nat → sdL} {sc : Option (Nat × Nat × (Nat → Int32))}
def k_JM_floorMod_18 (Q : Int32 → sdM → Prop) (M : sdM) (x2 : Int32) : Prop := Q x2 M
set_option maxHeartbeats 1000000 in
theorem t_JM_floorMod_18 (hA : sd_ad b n ad) (hT : l.stackTraces = false) {Q : Int32 → sdM → Prop} (M : sdM) (x2 : Int32) (hw : k_JM_floorMod_18 Q M x2) : sdW l (sdE0 sc) Y_JM_floorMod D (sd_tys dA) b n ad L ad (sd_H D (sdE0 sc).1 n ad L) (sd_qi Q) sd_xf 18 [(2, .int x2)] [] M 0 0 := by
  unfold k_JM_floorMod_18 at hw
  refine x_iload_n 2 0 d_JM_floorMod_18 rfl rfl ?_
  exact x_iret d_JM_floorMod_19 rfl (fun _ h => h) ⟨_, rfl, hw⟩
def w_JM_floorMod (M : sdM) (a0 : Int32) (a1 : Int32) (Q : Int32 → sdM → Prop) : Prop := ¬ a1 = 0 ∧ (0 ≤ (a0 ^^^ a1) → k_JM_floorMod_18 Q M (a0 - a0 / a1 * a1)) ∧ (¬ 0 ≤ (a0 ^^^ a1) → ((a0 - a0 / a1 * a1) = 0 → k_JM_floorMod_18 Q M (a0 - a0 / a1 * a1)) ∧ (¬ (a0 - a0 / a1 * a1) = 0 → Q ((a0 - a0 / a1 * a1) + a1) M))
set_option maxHeartbeats 1000000 in
theorem c_JM_floorMod {a0 : Int32} {a1 : Int32} (hA : sd_ad b n ad) (hT : l.stackTraces = false) {Q : Int32 → sdM → Prop} {M : sdM} (hw : w_JM_floorMod M a0 a1 Q) : sd_Cn l (sdE0 sc) y_JM_floorMod Y_JM_floorMod.2.2.2.2.1 Y_JM_floorMod.2.2.2.2.2.1 0 0 D (sd_tys dA) b n ad L M [.int a0, .int a1] (sd_qi Q) sd_xf := by
  refine sd_enter (Y := Y_JM_floorMod) rfl (by decide +kernel) rfl rfl (Nat.le_of_ble_eq_true rfl) ?_
  show sdW l (sdE0 sc) Y_JM_floorMod D (sd_tys dA) b n ad L ad (sd_H D (sdE0 sc).1 n ad L) (sd_qi Q) sd_xf 0 [(0, .int a0), (1, .int a1)] [] M 0 0
  unfold w_JM_floorMod at hw
  refine x_iload_n 0 0 d_JM_floorMod_0 rfl rfl ?_
  refine x_iload_n 1 1 d_JM_floorMod_1 rfl rfl ?_
  obtain ⟨hz2, hw⟩ := hw
  refine x_irem d_JM_floorMod_2 hz2 ?_
  refine x_istore_n 2 [(2, .int (a0 - a0 / a1 * a1)), (0, .int a0), (1, .int a1)] d_JM_floorMod_3 rfl (by decide) rfl ?_
  refine x_iload_n 0 1 d_JM_floorMod_4 rfl rfl ?_
  refine x_iload_n 1 2 d_JM_floorMod_5 rfl rfl ?_
  refine x_ixor d_JM_floorMod_6 ?_
  refine x_if_ge 18 d_JM_floorMod_7 rfl (fun hc => ?_) (fun hc => ?_)
  · have hw := hw.1 hc
    refine x_sub [0] [(2, .int (a0 - a0 / a1 * a1))] rfl ?_
    exact t_JM_floorMod_18 hA hT M (a0 - a0 / a1 * a1) hw
  · have hw := hw.2 hc
    refine x_iload_n 2 0 d_JM_floorMod_10 rfl rfl ?_
    refine x_if_eq 18 d_JM_floorMod_11 rfl (fun hc => ?_) (fun hc => ?_)
    · have hw := hw.1 hc
      refine x_sub [0] [(2, .int (a0 - a0 / a1 * a1))] rfl ?_
      exact t_JM_floorMod_18 hA hT M (a0 - a0 / a1 * a1) hw
    · have hw := hw.2 hc
      refine x_iload_n 2 0 d_JM_floorMod_14 rfl rfl ?_
      refine x_iload_n 1 2 d_JM_floorMod_15 rfl rfl ?_
      refine x_iadd d_JM_floorMod_16 ?_
      exact x_iret d_JM_floorMod_17 rfl (fun _ h => h) ⟨_, rfl, hw⟩
end
theorem q33 : (.methodLink "SettingsDesk$Settings" 24 ⟨"java/lang/System", "arraycopy", "(Ljava/lang/Object;ILjava/lang/Object;II)V"⟩ : Cond) ∈ sdB0 := sd_tb2 44 rfl rfl
theorem q34 : (.native ⟨"java/lang/System", "arraycopy", "(Ljava/lang/Object;ILjava/lang/Object;II)V"⟩ : Cond) ∈ sdB0 := sd_tb2 46 rfl rfl
theorem q35 : (.static ⟨"java/lang/System", "arraycopy", "(Ljava/lang/Object;ILjava/lang/Object;II)V"⟩ : Cond) ∈ sdB0 := sd_tb2 45 rfl rfl
theorem q36 : (.initialized "java/lang/System" : Cond) ∈ sdB0 := sd_tb1 16 rfl rfl
abbrev y_S_copyFrom : MethodName := ⟨"SettingsDesk$Settings", "copyFrom", "(LSettingsDesk$Settings;)V"⟩
theorem d_S_copyFrom_0 : decode prog_9_method_2_code 0 = .ok (.aload_n 1, 1) := by decide +kernel
theorem d_S_copyFrom_1 : decode prog_9_method_2_code 1 = .ok (.getfield 9, 3) := by decide +kernel
theorem d_S_copyFrom_4 : decode prog_9_method_2_code 4 = .ok (.iconst 0, 1) := by decide +kernel
theorem d_S_copyFrom_5 : decode prog_9_method_2_code 5 = .ok (.aload_n 0, 1) := by decide +kernel
theorem d_S_copyFrom_6 : decode prog_9_method_2_code 6 = .ok (.getfield 9, 3) := by decide +kernel
theorem d_S_copyFrom_9 : decode prog_9_method_2_code 9 = .ok (.iconst 0, 1) := by decide +kernel
theorem d_S_copyFrom_10 : decode prog_9_method_2_code 10 = .ok (.iconst 4, 1) := by decide +kernel
theorem d_S_copyFrom_11 : decode prog_9_method_2_code 11 = .ok (.invokestatic 24, 3) := by decide +kernel
theorem d_S_copyFrom_14 : decode prog_9_method_2_code 14 = .ok (.aload_n 1, 1) := by decide +kernel
theorem d_S_copyFrom_15 : decode prog_9_method_2_code 15 = .ok (.getfield 15, 3) := by decide +kernel
theorem d_S_copyFrom_18 : decode prog_9_method_2_code 18 = .ok (.iconst 0, 1) := by decide +kernel
theorem d_S_copyFrom_19 : decode prog_9_method_2_code 19 = .ok (.aload_n 0, 1) := by decide +kernel
theorem d_S_copyFrom_20 : decode prog_9_method_2_code 20 = .ok (.getfield 15, 3) := by decide +kernel
theorem d_S_copyFrom_23 : decode prog_9_method_2_code 23 = .ok (.iconst 0, 1) := by decide +kernel
theorem d_S_copyFrom_24 : decode prog_9_method_2_code 24 = .ok (.bipush (48), 2) := by decide +kernel
theorem d_S_copyFrom_26 : decode prog_9_method_2_code 26 = .ok (.invokestatic 24, 3) := by decide +kernel
theorem d_S_copyFrom_29 : decode prog_9_method_2_code 29 = .ok (.aload_n 1, 1) := by decide +kernel
theorem d_S_copyFrom_30 : decode prog_9_method_2_code 30 = .ok (.getfield 18, 3) := by decide +kernel
theorem d_S_copyFrom_33 : decode prog_9_method_2_code 33 = .ok (.iconst 0, 1) := by decide +kernel
theorem d_S_copyFrom_34 : decode prog_9_method_2_code 34 = .ok (.aload_n 0, 1) := by decide +kernel
theorem d_S_copyFrom_35 : decode prog_9_method_2_code 35 = .ok (.getfield 18, 3) := by decide +kernel
theorem d_S_copyFrom_38 : decode prog_9_method_2_code 38 = .ok (.iconst 0, 1) := by decide +kernel
theorem d_S_copyFrom_39 : decode prog_9_method_2_code 39 = .ok (.sipush (192), 3) := by decide +kernel
theorem d_S_copyFrom_42 : decode prog_9_method_2_code 42 = .ok (.invokestatic 24, 3) := by decide +kernel
theorem d_S_copyFrom_45 : decode prog_9_method_2_code 45 = .ok (.aload_n 1, 1) := by decide +kernel
theorem d_S_copyFrom_46 : decode prog_9_method_2_code 46 = .ok (.getfield 21, 3) := by decide +kernel
theorem d_S_copyFrom_49 : decode prog_9_method_2_code 49 = .ok (.iconst 0, 1) := by decide +kernel
theorem d_S_copyFrom_50 : decode prog_9_method_2_code 50 = .ok (.aload_n 0, 1) := by decide +kernel
theorem d_S_copyFrom_51 : decode prog_9_method_2_code 51 = .ok (.getfield 21, 3) := by decide +kernel
theorem d_S_copyFrom_54 : decode prog_9_method_2_code 54 = .ok (.iconst 0, 1) := by decide +kernel
theorem d_S_copyFrom_55 : decode prog_9_method_2_code 55 = .ok (.bipush (48), 2) := by decide +kernel
theorem d_S_copyFrom_57 : decode prog_9_method_2_code 57 = .ok (.invokestatic 24, 3) := by decide +kernel
theorem d_S_copyFrom_60 : decode prog_9_method_2_code 60 = .ok (.return_, 1) := by decide +kernel
def Y_S_copyFrom : sdY := ("SettingsDesk$Settings", prog_9_method_2_code, 2, none, .code y_S_copyFrom prog_9_method_2_code 2 none :: sdB0, { frames := 1, cells := 0, slots := 0, locals := 18 }, 0, 0, [])
section
variable {l : Launch} {D : va_G} {dA : Nat → ClassId} {b n : Nat} {ad : Nat → Nat} {L : Nat → sdL} {sc : Option (Nat × Nat × (Nat → Int32))}
def w_S_copyFrom (o : Nat) (M : sdM) (p1 : Nat) (Q : sdM → Prop) : Prop := (¬ (0 : Int32) < 0 ∧ ¬ (0 : Int32) < 0 ∧ ¬ (4 : Int32) < 0 ∧ (0 : Int32).toNatClampNeg + (4 : Int32).toNatClampNeg ≤ 4 ∧ (0 : Int32).toNatClampNeg + (4 : Int32).toNatClampNeg ≤ 4) ∧ ∀ M14 : sdM, M14 = va_up M (o + 1) (va_cpy (M (p1 + 1)) (M (o + 1)) (0 : Int32).toNatClampNeg (0 : Int32).toNatClampNeg (4 : Int32).toNatClampNeg) → (¬ (0 : Int32) < 0 ∧ ¬ (0 : Int32) < 0 ∧ ¬ (48 : Int32) < 0 ∧ (0 : Int32).toNatClampNeg + (48 : Int32).toNatClampNeg ≤ 48 ∧ (0 : Int32).toNatClampNeg + (48 : Int32).toNatClampNeg ≤ 48) ∧ ∀ M17 : sdM, M17 = va_up M14 (o + 2) (va_cpy (M14 (p1 + 2)) (M14 (o + 2)) (0 : Int32).toNatClampNeg (0 : Int32).toNatClampNeg (48 : Int32).toNatClampNeg) → (¬ (0 : Int32) < 0 ∧ ¬ (0 : Int32) < 0 ∧ ¬ (192 : Int32) < 0 ∧ (0 : Int32).toNatClampNeg + (192 : Int32).toNatClampNeg ≤ 192 ∧ (0 : Int32).toNatClampNeg + (192 : Int32).toNatClampNeg ≤ 192) ∧ ∀ M20 : sdM, M20 = va_up M17 (o + 3) (va_cpy (M17 (p1 + 3)) (M17 (o + 3)) (0 : Int32).toNatClampNeg (0 : Int32).toNatClampNeg (192 : Int32).toNatClampNeg) → (¬ (0 : Int32) < 0 ∧ ¬ (0 : Int32) < 0 ∧ ¬ (48 : Int32) < 0 ∧ (0 : Int32).toNatClampNeg + (48 : Int32).toNatClampNeg ≤ 48 ∧ (0 : Int32).toNatClampNeg + (48 : Int32).toNatClampNeg ≤ 48) ∧ ∀ M23 : sdM, M23 = va_up M20 (o + 4) (va_cpy (M20 (p1 + 4)) (M20 (o + 4)) (0 : Int32).toNatClampNeg (0 : Int32).toNatClampNeg (48 : Int32).toNatClampNeg) → Q M23
set_option maxHeartbeats 1000000 in
theorem c_S_copyFrom {p1 : Nat} {o : Nat} (hA : sd_ad b n ad) (hT : l.stackTraces = false) (ho : isS n L dA o) (hp1 : isS n L dA p1) {Q : sdM → Prop} {M : sdM} (hw : w_S_copyFrom o M p1 Q) : sd_Cn l (sdE0 sc) y_S_copyFrom Y_S_copyFrom.2.2.2.2.1 Y_S_copyFrom.2.2.2.2.2.1 0 0 D (sd_tys dA) b n ad L M [.ref o, .ref p1] (sd_qv Q) sd_xf := by
  refine sd_enter (Y := Y_S_copyFrom) rfl rfl rfl rfl (Nat.le_of_ble_eq_true rfl) ?_
  show sdW l (sdE0 sc) Y_S_copyFrom D (sd_tys dA) b n ad L ad (sd_H D (sdE0 sc).1 n ad L) (sd_qv Q) sd_xf 0 [(0, .ref o), (1, .ref p1)] [] M 0 0
  unfold w_S_copyFrom at hw
  refine x_aload_n 1 1 d_S_copyFrom_0 rfl rfl ?_
  refine x_getr 0 (p1 + 1) d_S_copyFrom_1 hp1.1 hp1.2.1 rfl rfl (by decide) lay_S (List.mem_cons_of_mem _ q0) rfl ?_
  refine x_iconst (v := 0) d_S_copyFrom_4 (by decide) ?_
  refine x_aload_n 0 0 d_S_copyFrom_5 rfl rfl ?_
  refine x_getr 0 (o + 1) d_S_copyFrom_6 ho.1 ho.2.1 rfl rfl (by decide) lay_S (List.mem_cons_of_mem _ q0) rfl ?_
  refine x_iconst (v := 0) d_S_copyFrom_9 (by decide) ?_
  refine x_iconst (v := 4) d_S_copyFrom_10 (by decide) ?_
  obtain ⟨hi13, hw⟩ := hw
  refine x_copyi hA d_S_copyFrom_11 (List.mem_cons_of_mem _ q33) (List.mem_cons_of_mem _ q34) (List.mem_cons_of_mem _ q35) (List.mem_cons_of_mem _ q36) hp1.counts.1 hp1.counts.2 ho.counts.1 ho.counts.2 rfl hi13 (Nat.le_of_ble_eq_true rfl) (Nat.le_of_ble_eq_true rfl) (fun M14 e15 => ?_)
  have hw := hw M14 e15
  clear e15
  refine x_aload_n 1 1 d_S_copyFrom_14 rfl rfl ?_
  refine x_getr 1 (p1 + 2) d_S_copyFrom_15 hp1.1 hp1.2.1 rfl rfl (by decide) lay_S (List.mem_cons_of_mem _ q16) rfl ?_
  refine x_iconst (v := 0) d_S_copyFrom_18 (by decide) ?_
  refine x_aload_n 0 0 d_S_copyFrom_19 rfl rfl ?_
  refine x_getr 1 (o + 2) d_S_copyFrom_20 ho.1 ho.2.1 rfl rfl (by decide) lay_S (List.mem_cons_of_mem _ q16) rfl ?_
  refine x_iconst (v := 0) d_S_copyFrom_23 (by decide) ?_
  refine x_bipush (v := 48) d_S_copyFrom_24 (by decide) ?_
  obtain ⟨hi16, hw⟩ := hw
  refine x_copyi hA d_S_copyFrom_26 (List.mem_cons_of_mem _ q33) (List.mem_cons_of_mem _ q34) (List.mem_cons_of_mem _ q35) (List.mem_cons_of_mem _ q36) hp1.keys.1 hp1.keys.2 ho.keys.1 ho.keys.2 rfl hi16 (Nat.le_of_ble_eq_true rfl) (Nat.le_of_ble_eq_true rfl) (fun M17 e18 => ?_)
  have hw := hw M17 e18
  clear e18
  refine x_aload_n 1 1 d_S_copyFrom_29 rfl rfl ?_
  refine x_getr 2 (p1 + 3) d_S_copyFrom_30 hp1.1 hp1.2.1 rfl rfl (by decide) lay_S (List.mem_cons_of_mem _ q2) rfl ?_
  refine x_iconst (v := 0) d_S_copyFrom_33 (by decide) ?_
  refine x_aload_n 0 0 d_S_copyFrom_34 rfl rfl ?_
  refine x_getr 2 (o + 3) d_S_copyFrom_35 ho.1 ho.2.1 rfl rfl (by decide) lay_S (List.mem_cons_of_mem _ q2) rfl ?_
  refine x_iconst (v := 0) d_S_copyFrom_38 (by decide) ?_
  refine x_sipush (v := 192) d_S_copyFrom_39 (by decide) ?_
  obtain ⟨hi19, hw⟩ := hw
  refine x_copyi hA d_S_copyFrom_42 (List.mem_cons_of_mem _ q33) (List.mem_cons_of_mem _ q34) (List.mem_cons_of_mem _ q35) (List.mem_cons_of_mem _ q36) hp1.values.1 hp1.values.2 ho.values.1 ho.values.2 rfl hi19 (Nat.le_of_ble_eq_true rfl) (Nat.le_of_ble_eq_true rfl) (fun M20 e21 => ?_)
  have hw := hw M20 e21
  clear e21
  refine x_aload_n 1 1 d_S_copyFrom_45 rfl rfl ?_
  refine x_getr 3 (p1 + 4) d_S_copyFrom_46 hp1.1 hp1.2.1 rfl rfl (by decide) lay_S (List.mem_cons_of_mem _ q1) rfl ?_
  refine x_iconst (v := 0) d_S_copyFrom_49 (by decide) ?_
  refine x_aload_n 0 0 d_S_copyFrom_50 rfl rfl ?_
  refine x_getr 3 (o + 4) d_S_copyFrom_51 ho.1 ho.2.1 rfl rfl (by decide) lay_S (List.mem_cons_of_mem _ q1) rfl ?_
  refine x_iconst (v := 0) d_S_copyFrom_54 (by decide) ?_
  refine x_bipush (v := 48) d_S_copyFrom_55 (by decide) ?_
  obtain ⟨hi22, hw⟩ := hw
  refine x_copyi hA d_S_copyFrom_57 (List.mem_cons_of_mem _ q33) (List.mem_cons_of_mem _ q34) (List.mem_cons_of_mem _ q35) (List.mem_cons_of_mem _ q36) hp1.given.1 hp1.given.2 ho.given.1 ho.given.2 rfl hi22 (Nat.le_of_ble_eq_true rfl) (Nat.le_of_ble_eq_true rfl) (fun M23 e24 => ?_)
  have hw := hw M23 e24
  clear e24
  exact x_vret d_S_copyFrom_60 rfl (fun _ h => h) ⟨rfl, hw⟩
end
abbrev y_JM_min : MethodName := ⟨"java/lang/Math", "min", "(II)I"⟩
theorem d_JM_min_0 : decode prog_17_method_69_code 0 = .ok (.iload_n 0, 1) := by decide +kernel
theorem d_JM_min_1 : decode prog_17_method_69_code 1 = .ok (.iload_n 1, 1) := by decide +kernel
theorem d_JM_min_2 : decode prog_17_method_69_code 2 = .ok (.if_icmp .gt (7), 3) := by decide +kernel
theorem d_JM_min_5 : decode prog_17_method_69_code 5 = .ok (.iload_n 0, 1) := by decide +kernel
theorem d_JM_min_6 : decode prog_17_method_69_code 6 = .ok (.goto (4), 3) := by decide +kernel
theorem d_JM_min_9 : decode prog_17_method_69_code 9 = .ok (.iload_n 1, 1) := by decide +kernel
theorem d_JM_min_10 : decode prog_17_method_69_code 10 = .ok (.ireturn, 1) := by decide +kernel
def Y_JM_min : sdY := ("java/lang/Math", prog_17_method_69_code, 2, (some .int), .code y_JM_min prog_17_method_69_code 2 (some .int) :: sdB0, { frames := 0, cells := 0, slots := 0, locals := 0 }, 0, 0, [])
section
variable {l : Launch} {D : va_G} {dA : Nat → ClassId} {b n : Nat} {ad : Nat → Nat} {L : Nat → sdL} {sc : Option (Nat × Nat × (Nat → Int32))}
def k_JM_min_10 (Q : Int32 → sdM → Prop) (M : sdM) (s0 : Int32) : Prop := Q s0 M
set_option maxHeartbeats 1000000 in
theorem t_JM_min_10 (hA : sd_ad b n ad) (hT : l.stackTraces = false) {Q : Int32 → sdM → Prop} (M : sdM) (s0 : Int32) (hw : k_JM_min_10 Q M s0) : sdW l (sdE0 sc) Y_JM_min D (sd_tys dA) b n ad L ad (sd_H D (sdE0 sc).1 n ad L) (sd_qi Q) sd_xf 10 [] [.int s0] M 0 0 := by
  unfold k_JM_min_10 at hw
  exact x_iret d_JM_min_10 rfl (fun _ h => h) ⟨_, rfl, hw⟩
def w_JM_min (M : sdM) (a0 : Int32) (a1 : Int32) (Q : Int32 → sdM → Prop) : Prop := (a1 < a0 → k_JM_min_10 Q M a1) ∧ (¬ a1 < a0 → k_JM_min_10 Q M a0)
set_option maxHeartbeats 1000000 in
theorem c_JM_min {a0 : Int32} {a1 : Int32} (hA : sd_ad b n ad) (hT : l.stackTraces = false) {Q : Int32 → sdM → Prop} {M : sdM} (hw : w_JM_min M a0 a1 Q) : sd_Cn l (sdE0 sc) y_JM_min Y_JM_min.2.2.2.2.1 Y_JM_min.2.2.2.2.2.1 0 0 D (sd_tys dA) b n ad L M [.int a0, .int a1] (sd_qi Q) sd_xf := by
  refine sd_enter (Y := Y_JM_min) rfl (by decide +kernel) rfl rfl (Nat.le_of_ble_eq_true rfl) ?_
  show sdW l (sdE0 sc) Y_JM_min D (sd_tys dA) b n ad L ad (sd_H D (sdE0 sc).1 n ad L) (sd_qi Q) sd_xf 0 [(0, .int a0), (1, .int a1)] [] M 0 0
  unfold w_JM_min at hw
  refine x_iload_n 0 0 d_JM_min_0 rfl rfl ?_
  refine x_iload_n 1 1 d_JM_min_1 rfl rfl ?_
  refine x_icmp_gt 9 d_JM_min_2 rfl (fun hc => ?_) (fun hc => ?_)
  · have hw := hw.1 hc
    refine x_iload_n 1 1 d_JM_min_9 rfl rfl ?_
    refine x_sub [] [] rfl ?_
    exact t_JM_min_10 hA hT M a1 hw
  · have hw := hw.2 hc
    refine x_iload_n 0 0 d_JM_min_5 rfl rfl ?_
    refine x_goto 10 d_JM_min_6 rfl ?_
    refine x_sub [] [] rfl ?_
    exact t_JM_min_10 hA hT M a0 hw
end
theorem q37 : (.fieldLink "SettingsDesk$Settings" 70 "SettingsDesk$Leaf" "hasStandard" "Z" : Cond) ∈ sdB0 := sd_tb1 59 rfl rfl
abbrev y_S_isNothing : MethodName := ⟨"SettingsDesk$Settings", "isNothing", "(IILSettingsDesk$Leaf;)Z"⟩
theorem d_S_isNothing_0 : decode prog_9_method_18_code 0 = .ok (.aload_n 0, 1) := by decide +kernel
theorem d_S_isNothing_1 : decode prog_9_method_18_code 1 = .ok (.iload_n 1, 1) := by decide +kernel
theorem d_S_isNothing_2 : decode prog_9_method_18_code 2 = .ok (.iload_n 2, 1) := by decide +kernel
theorem d_S_isNothing_3 : decode prog_9_method_18_code 3 = .ok (.invokevirtual 59, 3) := by decide +kernel
theorem d_S_isNothing_6 : decode prog_9_method_18_code 6 = .ok (.ifCond .ne (14), 3) := by decide +kernel
theorem d_S_isNothing_9 : decode prog_9_method_18_code 9 = .ok (.aload_n 3, 1) := by decide +kernel
theorem d_S_isNothing_10 : decode prog_9_method_18_code 10 = .ok (.getfield 70, 3) := by decide +kernel
theorem d_S_isNothing_13 : decode prog_9_method_18_code 13 = .ok (.ifCond .ne (7), 3) := by decide +kernel
theorem d_S_isNothing_16 : decode prog_9_method_18_code 16 = .ok (.iconst 1, 1) := by decide +kernel
theorem d_S_isNothing_17 : decode prog_9_method_18_code 17 = .ok (.goto (4), 3) := by decide +kernel
theorem d_S_isNothing_20 : decode prog_9_method_18_code 20 = .ok (.iconst 0, 1) := by decide +kernel
theorem d_S_isNothing_21 : decode prog_9_method_18_code 21 = .ok (.ireturn, 1) := by decide +kernel
def Y_S_isNothing : sdY := ("SettingsDesk$Settings", prog_9_method_18_code, 4, (some .boolean), .code y_S_isNothing prog_9_method_18_code 4 (some .boolean) :: sdB0, { frames := 1, cells := 0, slots := 0, locals := 22 }, 0, 0, [])
theorem cw_S_isNothing_S_isGiven_59 : sd_cwV Y_S_isNothing Y_S_isGiven y_S_isGiven 59 2 "SettingsDesk$Settings" := ⟨sd_goodV q3 q5 q6 q7 q4, ⟨_, rfl⟩, ⟨rfl, rfl, rfl, rfl⟩, ⟨rfl, by decide, by decide, by decide +kernel⟩, ⟨by decide, by decide⟩⟩
section
variable {l : Launch} {D : va_G} {dA : Nat → ClassId} {b n : Nat} {ad : Nat → Nat} {L : Nat → sdL} {sc : Option (Nat × Nat × (Nat → Int32))}
def k_S_isNothing_21 (o : Nat) (Q : Int32 → sdM → Prop) (M : sdM) (s0 : Int32) : Prop := sdB s0 ∧ Q s0 M
set_option maxHeartbeats 1000000 in
theorem t_S_isNothing_21 {o : Nat} (hA : sd_ad b n ad) (hT : l.stackTraces = false) (ho : isS n L dA o) {Q : Int32 → sdM → Prop} (M : sdM) (s0 : Int32) (hw : k_S_isNothing_21 o Q M s0) : sdW l (sdE0 sc) Y_S_isNothing D (sd_tys dA) b n ad L ad (sd_H D (sdE0 sc).1 n ad L) (sd_qi Q) sd_xf 21 [] [.int s0] M 0 0 := by
  unfold k_S_isNothing_21 at hw
  exact x_zret d_S_isNothing_21 rfl (sdB_n hw.1) (fun _ h => h) ⟨_, rfl, hw.2⟩
def k_S_isNothing_20 (o : Nat) (Q : Int32 → sdM → Prop) (M : sdM) : Prop := k_S_isNothing_21 o Q M (0 : Int32)
set_option maxHeartbeats 1000000 in
theorem t_S_isNothing_20 {o : Nat} (hA : sd_ad b n ad) (hT : l.stackTraces = false) (ho : isS n L dA o) {Q : Int32 → sdM → Prop} (M : sdM) (hw : k_S_isNothing_20 o Q M ) : sdW l (sdE0 sc) Y_S_isNothing D (sd_tys dA) b n ad L ad (sd_H D (sdE0 sc).1 n ad L) (sd_qi Q) sd_xf 20 [] [] M 0 0 := by
  unfold k_S_isNothing_20 at hw
  refine x_iconst (v := 0) d_S_isNothing_20 (by decide) ?_
  exact t_S_isNothing_21 hA hT ho M (0 : Int32) hw
def w_S_isNothing (o : Nat) (M : sdM) (a1 : Int32) (a2 : Int32) (p3 : Nat) (Q : Int32 → sdM → Prop) : Prop := w_S_isGiven o M a1 a2 (fun r4 M3 => (¬ r4 = 0 → k_S_isNothing_20 o Q M3) ∧ (r4 = 0 → (¬ (M3 p3 5) = 0 → k_S_isNothing_20 o Q M3) ∧ ((M3 p3 5) = 0 → k_S_isNothing_21 o Q M3 (1 : Int32))))
set_option maxHeartbeats 1000000 in
theorem c_S_isNothing {a1 : Int32} {a2 : Int32} {p3 : Nat} {o : Nat} (hA : sd_ad b n ad) (hT : l.stackTraces = false) (ho : isS n L dA o) (hp3 : isF n L p3) {Q : Int32 → sdM → Prop} {M : sdM} (hw : w_S_isNothing o M a1 a2 p3 Q) : sd_Cn l (sdE0 sc) y_S_isNothing Y_S_isNothing.2.2.2.2.1 Y_S_isNothing.2.2.2.2.2.1 0 0 D (sd_tys dA) b n ad L M [.ref o, .int a1, .int a2, .ref p3] (sd_qi Q) sd_xf := by
  refine sd_enter (Y := Y_S_isNothing) rfl rfl rfl rfl (Nat.le_of_ble_eq_true rfl) ?_
  show sdW l (sdE0 sc) Y_S_isNothing D (sd_tys dA) b n ad L ad (sd_H D (sdE0 sc).1 n ad L) (sd_qi Q) sd_xf 0 [(0, .ref o), (1, .int a1), (2, .int a2), (3, .ref p3)] [] M 0 0
  unfold w_S_isNothing at hw
  refine x_aload_n 0 0 d_S_isNothing_0 rfl rfl ?_
  refine x_iload_n 1 1 d_S_isNothing_1 rfl rfl ?_
  refine x_iload_n 2 2 d_S_isNothing_2 rfl rfl ?_
  refine x_callVi (As := [.int a1, .int a2]) (t := o) (rest := []) (rc := 0) (rs := 0) (c_S_isGiven hA hT ho hw) cw_S_isNothing_S_isGiven_59 ho.1 ho.2.1 rfl d_S_isNothing_3 rfl rfl (Nat.le_of_ble_eq_true rfl) rfl (fun _ _ h => h.elim) (fun _ _ h => h) (fun r4 M3 hw => ?_)
  refine x_if_ne 20 d_S_isNothing_6 rfl (fun hc => ?_) (fun hc => ?_)
  · have hw := hw.1 hc
    refine x_sub [] [] rfl ?_
    exact t_S_isNothing_20 hA hT ho M3 hw
  · have hw := hw.2 hc
    refine x_aload_n 3 3 d_S_isNothing_9 rfl rfl ?_
    refine x_geti 5 d_S_isNothing_10 hp3.1 hp3.2 rfl rfl (by decide) lay_F (List.mem_cons_of_mem _ q37) rfl ?_
    refine x_if_ne 20 d_S_isNothing_13 rfl (fun hc => ?_) (fun hc => ?_)
    · have hw := hw.1 hc
      refine x_sub [] [] rfl ?_
      exact t_S_isNothing_20 hA hT ho M3 hw
    · have hw := hw.2 hc
      refine x_iconst (v := 1) d_S_isNothing_16 (by decide) ?_
      refine x_goto 21 d_S_isNothing_17 rfl ?_
      refine x_sub [] [] rfl ?_
      exact t_S_isNothing_21 hA hT ho M3 (1 : Int32) hw
end
abbrev y_S_rowOf : MethodName := ⟨"SettingsDesk$Settings", "rowOf", "(II)I"⟩
theorem d_S_rowOf_0 : decode prog_9_method_6_code 0 = .ok (.aload_n 0, 1) := by decide +kernel
theorem d_S_rowOf_1 : decode prog_9_method_6_code 1 = .ok (.iload_n 1, 1) := by decide +kernel
theorem d_S_rowOf_2 : decode prog_9_method_6_code 2 = .ok (.invokevirtual 36, 3) := by decide +kernel
theorem d_S_rowOf_5 : decode prog_9_method_6_code 5 = .ok (.istore_n 3, 1) := by decide +kernel
theorem d_S_rowOf_6 : decode prog_9_method_6_code 6 = .ok (.iload_n 3, 1) := by decide +kernel
theorem d_S_rowOf_7 : decode prog_9_method_6_code 7 = .ok (.aload_n 0, 1) := by decide +kernel
theorem d_S_rowOf_8 : decode prog_9_method_6_code 8 = .ok (.iload_n 1, 1) := by decide +kernel
theorem d_S_rowOf_9 : decode prog_9_method_6_code 9 = .ok (.invokevirtual 40, 3) := by decide +kernel
theorem d_S_rowOf_12 : decode prog_9_method_6_code 12 = .ok (.if_icmp .ge (21), 3) := by decide +kernel
theorem d_S_rowOf_15 : decode prog_9_method_6_code 15 = .ok (.aload_n 0, 1) := by decide +kernel
theorem d_S_rowOf_16 : decode prog_9_method_6_code 16 = .ok (.getfield 15, 3) := by decide +kernel
theorem d_S_rowOf_19 : decode prog_9_method_6_code 19 = .ok (.iload_n 3, 1) := by decide +kernel
theorem d_S_rowOf_20 : decode prog_9_method_6_code 20 = .ok (.iaload, 1) := by decide +kernel
theorem d_S_rowOf_21 : decode prog_9_method_6_code 21 = .ok (.iload_n 2, 1) := by decide +kernel
theorem d_S_rowOf_22 : decode prog_9_method_6_code 22 = .ok (.if_icmp .ne (5), 3) := by decide +kernel
theorem d_S_rowOf_25 : decode prog_9_method_6_code 25 = .ok (.iload_n 3, 1) := by decide +kernel
theorem d_S_rowOf_26 : decode prog_9_method_6_code 26 = .ok (.ireturn, 1) := by decide +kernel
theorem d_S_rowOf_27 : decode prog_9_method_6_code 27 = .ok (.iinc 3 (1), 3) := by decide +kernel
theorem d_S_rowOf_30 : decode prog_9_method_6_code 30 = .ok (.goto (-24), 3) := by decide +kernel
theorem d_S_rowOf_33 : decode prog_9_method_6_code 33 = .ok (.iconst (-1), 1) := by decide +kernel
theorem d_S_rowOf_34 : decode prog_9_method_6_code 34 = .ok (.ireturn, 1) := by decide +kernel
def Y_S_rowOf : sdY := ("SettingsDesk$Settings", prog_9_method_6_code, 4, (some .int), .code y_S_rowOf prog_9_method_6_code 4 (some .int) :: sdB0, { frames := 1, cells := 0, slots := 0, locals := 21 }, 0, 0, [])
theorem cw_S_rowOf_S_firstRow_36 : sd_cwV Y_S_rowOf Y_S_firstRow y_S_firstRow 36 1 "SettingsDesk$Settings" := ⟨sd_goodV q17 q19 q20 q7 q18, ⟨_, rfl⟩, ⟨rfl, rfl, rfl, rfl⟩, ⟨rfl, by decide, by decide, by decide +kernel⟩, ⟨by decide, by decide⟩⟩
theorem cw_S_rowOf_S_endRow_40 : sd_cwV Y_S_rowOf Y_S_endRow y_S_endRow 40 1 "SettingsDesk$Settings" := ⟨sd_goodV q21 q23 q24 q7 q22, ⟨_, rfl⟩, ⟨rfl, rfl, rfl, rfl⟩, ⟨rfl, by decide, by decide, by decide +kernel⟩, ⟨by decide, by decide⟩⟩
section
variable {l : Launch} {D : va_G} {dA : Nat → ClassId} {b n : Nat} {ad : Nat → Nat} {L : Nat → sdL} {sc : Option (Nat × Nat × (Nat → Int32))}
def h_S_rowOf_6 (o : Nat) (Q : Int32 → sdM → Prop) : Nat → sdM → Int32 → Int32 → Int32 → Prop
  | 0, _, _, _, _ => False
  | N + 1, M, x1, x2, x3 => w_S_endRow o M x1 (fun r7 M6 => (r7 ≤ x3 → Q (-1 : Int32) M6) ∧ (¬ r7 ≤ x3 → vp_in x3 48 ∧ (¬ (M6 (o + 2) x3.toNatClampNeg) = x2 → h_S_rowOf_6 o Q N M6 x1 x2 (x3 + 1)) ∧ ((M6 (o + 2) x3.toNatClampNeg) = x2 → Q x3 M6)))
set_option maxHeartbeats 1000000 in
theorem t_S_rowOf_6 {o : Nat} (hA : sd_ad b n ad) (hT : l.stackTraces = false) (ho : isS n L dA o) {Q : Int32 → sdM → Prop} (N : Nat) : ∀ (M : sdM) (x1 : Int32) (x2 : Int32) (x3 : Int32), h_S_rowOf_6 o Q N M x1 x2 x3 → sdW l (sdE0 sc) Y_S_rowOf D (sd_tys dA) b n ad L ad (sd_H D (sdE0 sc).1 n ad L) (sd_qi Q) sd_xf 6 [(0, .ref o), (1, .int x1), (2, .int x2), (3, .int x3)] [] M 0 0 := by
  induction N with
  | zero => intro M x1 x2 x3 hw; exact hw.elim
  | succ N ih =>
    intro M x1 x2 x3 hw
    rw [h_S_rowOf_6] at hw
    refine x_iload_n 3 3 d_S_rowOf_6 rfl rfl ?_
    refine x_aload_n 0 0 d_S_rowOf_7 rfl rfl ?_
    refine x_iload_n 1 1 d_S_rowOf_8 rfl rfl ?_
    refine x_callVi (As := [.int x1]) (t := o) (rest := [.int x3]) (rc := 0) (rs := 0) (c_S_endRow hA hT ho hw) cw_S_rowOf_S_endRow_40 ho.1 ho.2.1 rfl d_S_rowOf_9 rfl rfl (Nat.le_of_ble_eq_true rfl) rfl (fun _ _ h => h.elim) (fun _ _ h => h) (fun r7 M6 hw => ?_)
    refine x_icmp_ge 33 d_S_rowOf_12 rfl (fun hc => ?_) (fun hc => ?_)
    · have hw := hw.1 hc
      refine x_iconst (v := (-1)) d_S_rowOf_33 (by decide) ?_
      exact x_iret d_S_rowOf_34 rfl (fun _ h => h) ⟨_, rfl, hw⟩
    · have hw := hw.2 hc
      refine x_aload_n 0 0 d_S_rowOf_15 rfl rfl ?_
      refine x_getr 1 (o + 2) d_S_rowOf_16 ho.1 ho.2.1 rfl rfl (by decide) lay_S (List.mem_cons_of_mem _ q16) rfl ?_
      refine x_iload_n 3 3 d_S_rowOf_19 rfl rfl ?_
      obtain ⟨hi8, hw⟩ := hw
      refine x_iald d_S_rowOf_20 ho.keys.1 ho.keys.2 rfl hi8 ?_
      refine x_iload_n 2 2 d_S_rowOf_21 rfl rfl ?_
      refine x_icmp_ne 27 d_S_rowOf_22 rfl (fun hc => ?_) (fun hc => ?_)
      · have hw := hw.1 hc
        refine x_iinc 3 3 [(3, .int (x3 + 1)), (0, .ref o), (1, .int x1), (2, .int x2)] d_S_rowOf_27 rfl (congrArg (HAdd.hAdd x3) (show Int32.ofInt 1 = 1 by decide)) (by decide) rfl ?_
        refine x_goto 6 d_S_rowOf_30 rfl ?_
        refine x_sub [1, 2, 3, 0] [(0, .ref o), (1, .int x1), (2, .int x2), (3, .int (x3 + 1))] rfl ?_
        exact ih M6 x1 x2 (x3 + 1) hw
      · have hw := hw.2 hc
        refine x_iload_n 3 3 d_S_rowOf_25 rfl rfl ?_
        exact x_iret d_S_rowOf_26 rfl (fun _ h => h) ⟨_, rfl, hw⟩
def w_S_rowOf (o : Nat) (M : sdM) (a1 : Int32) (a2 : Int32) (Q : Int32 → sdM → Prop) : Prop := w_S_firstRow o M a1 (fun r10 M9 => ∃ N9 : Nat, h_S_rowOf_6 o Q N9 M9 a1 a2 r10)
set_option maxHeartbeats 1000000 in
theorem c_S_rowOf {a1 : Int32} {a2 : Int32} {o : Nat} (hA : sd_ad b n ad) (hT : l.stackTraces = false) (ho : isS n L dA o) {Q : Int32 → sdM → Prop} {M : sdM} (hw : w_S_rowOf o M a1 a2 Q) : sd_Cn l (sdE0 sc) y_S_rowOf Y_S_rowOf.2.2.2.2.1 Y_S_rowOf.2.2.2.2.2.1 0 0 D (sd_tys dA) b n ad L M [.ref o, .int a1, .int a2] (sd_qi Q) sd_xf := by
  refine sd_enter (Y := Y_S_rowOf) rfl rfl rfl rfl (Nat.le_of_ble_eq_true rfl) ?_
  show sdW l (sdE0 sc) Y_S_rowOf D (sd_tys dA) b n ad L ad (sd_H D (sdE0 sc).1 n ad L) (sd_qi Q) sd_xf 0 [(0, .ref o), (1, .int a1), (2, .int a2)] [] M 0 0
  unfold w_S_rowOf at hw
  refine x_aload_n 0 0 d_S_rowOf_0 rfl rfl ?_
  refine x_iload_n 1 1 d_S_rowOf_1 rfl rfl ?_
  refine x_callVi (As := [.int a1]) (t := o) (rest := []) (rc := 0) (rs := 0) (c_S_firstRow hA hT ho hw) cw_S_rowOf_S_firstRow_36 ho.1 ho.2.1 rfl d_S_rowOf_2 rfl rfl (Nat.le_of_ble_eq_true rfl) rfl (fun _ _ h => h.elim) (fun _ _ h => h) (fun r10 M9 hw => ?_)
  refine x_istore_n 3 [(3, .int r10), (0, .ref o), (1, .int a1), (2, .int a2)] d_S_rowOf_5 rfl (by decide) rfl ?_
  refine x_sub [1, 2, 3, 0] [(0, .ref o), (1, .int a1), (2, .int a2), (3, .int r10)] rfl ?_
  obtain ⟨N9, hw⟩ := hw
  exact t_S_rowOf_6 hA hT ho N9 M9 a1 a2 r10 hw
end
theorem q38 : (.fieldLink "SettingsDesk$Settings" 76 "SettingsDesk$Leaf" "standardValue" "I" : Cond) ∈ sdB0 := sd_tb1 61 rfl rfl
abbrev y_S_whatIs : MethodName := ⟨"SettingsDesk$Settings", "whatIs", "(IILSettingsDesk$Leaf;)I"⟩
theorem d_S_whatIs_0 : decode prog_9_method_19_code 0 = .ok (.aload_n 0, 1) := by decide +kernel
theorem d_S_whatIs_1 : decode prog_9_method_19_code 1 = .ok (.iload_n 1, 1) := by decide +kernel
theorem d_S_whatIs_2 : decode prog_9_method_19_code 2 = .ok (.iload_n 2, 1) := by decide +kernel
theorem d_S_whatIs_3 : decode prog_9_method_19_code 3 = .ok (.invokevirtual 59, 3) := by decide +kernel
theorem d_S_whatIs_6 : decode prog_9_method_19_code 6 = .ok (.ifCond .eq (12), 3) := by decide +kernel
theorem d_S_whatIs_9 : decode prog_9_method_19_code 9 = .ok (.aload_n 0, 1) := by decide +kernel
theorem d_S_whatIs_10 : decode prog_9_method_19_code 10 = .ok (.iload_n 1, 1) := by decide +kernel
theorem d_S_whatIs_11 : decode prog_9_method_19_code 11 = .ok (.iload_n 2, 1) := by decide +kernel
theorem d_S_whatIs_12 : decode prog_9_method_19_code 12 = .ok (.invokevirtual 63, 3) := by decide +kernel
theorem d_S_whatIs_15 : decode prog_9_method_19_code 15 = .ok (.goto (7), 3) := by decide +kernel
theorem d_S_whatIs_18 : decode prog_9_method_19_code 18 = .ok (.aload_n 3, 1) := by decide +kernel
theorem d_S_whatIs_19 : decode prog_9_method_19_code 19 = .ok (.getfield 76, 3) := by decide +kernel
theorem d_S_whatIs_22 : decode prog_9_method_19_code 22 = .ok (.ireturn, 1) := by decide +kernel
def Y_S_whatIs : sdY := ("SettingsDesk$Settings", prog_9_method_19_code, 4, (some .int), .code y_S_whatIs prog_9_method_19_code 4 (some .int) :: sdB0, { frames := 1, cells := 0, slots := 0, locals := 22 }, 0, 0, [])
theorem cw_S_whatIs_S_isGiven_59 : sd_cwV Y_S_whatIs Y_S_isGiven y_S_isGiven 59 2 "SettingsDesk$Settings" := ⟨sd_goodV q3 q5 q6 q7 q4, ⟨_, rfl⟩, ⟨rfl, rfl, rfl, rfl⟩, ⟨rfl, by decide, by decide, by decide +kernel⟩, ⟨by decide, by decide⟩⟩
theorem cw_S_whatIs_S_valueAt_63 : sd_cwV Y_S_whatIs Y_S_valueAt y_S_valueAt 63 2 "SettingsDesk$Settings" := ⟨sd_goodV q8 q10 q11 q7 q9, ⟨_, rfl⟩, ⟨rfl, rfl, rfl, rfl⟩, ⟨rfl, by decide, by decide, by decide +kernel⟩, ⟨by decide, by decide⟩⟩
section
variable {l : Launch} {D : va_G} {dA : Nat → ClassId} {b n : Nat} {ad : Nat → Nat} {L : Nat → sdL} {sc : Option (Nat × Nat × (Nat → Int32))}
def k_S_whatIs_22 (o : Nat) (Q : Int32 → sdM → Prop) (M : sdM) (s0 : Int32) : Prop := Q s0 M
set_option maxHeartbeats 1000000 in
theorem t_S_whatIs_22 {o : Nat} (hA : sd_ad b n ad) (hT : l.stackTraces = false) (ho : isS n L dA o) {Q : Int32 → sdM → Prop} (M : sdM) (s0 : Int32) (hw : k_S_whatIs_22 o Q M s0) : sdW l (sdE0 sc) Y_S_whatIs D (sd_tys dA) b n ad L ad (sd_H D (sdE0 sc).1 n ad L) (sd_qi Q) sd_xf 22 [] [.int s0] M 0 0 := by
  unfold k_S_whatIs_22 at hw
  exact x_iret d_S_whatIs_22 rfl (fun _ h => h) ⟨_, rfl, hw⟩
def w_S_whatIs (o : Nat) (M : sdM) (a1 : Int32) (a2 : Int32) (p3 : Nat) (Q : Int32 → sdM → Prop) : Prop := w_S_isGiven o M a1 a2 (fun r6 M5 => (r6 = 0 → k_S_whatIs_22 o Q M5 (M5 p3 6)) ∧ (¬ r6 = 0 → w_S_valueAt o M5 a1 a2 (fun r8 M7 => k_S_whatIs_22 o Q M7 r8)))
set_option maxHeartbeats 1000000 in
theorem c_S_whatIs {a1 : Int32} {a2 : Int32} {p3 : Nat} {o : Nat} (hA : sd_ad b n ad) (hT : l.stackTraces = false) (ho : isS n L dA o) (hp3 : isF n L p3) {Q : Int32 → sdM → Prop} {M : sdM} (hw : w_S_whatIs o M a1 a2 p3 Q) : sd_Cn l (sdE0 sc) y_S_whatIs Y_S_whatIs.2.2.2.2.1 Y_S_whatIs.2.2.2.2.2.1 0 0 D (sd_tys dA) b n ad L M [.ref o, .int a1, .int a2, .ref p3] (sd_qi Q) sd_xf := by
  refine sd_enter (Y := Y_S_whatIs) rfl rfl rfl rfl (Nat.le_of_ble_eq_true rfl) ?_
  show sdW l (sdE0 sc) Y_S_whatIs D (sd_tys dA) b n ad L ad (sd_H D (sdE0 sc).1 n ad L) (sd_qi Q) sd_xf 0 [(0, .ref o), (1, .int a1), (2, .int a2), (3, .ref p3)] [] M 0 0
  unfold w_S_whatIs at hw
  refine x_aload_n 0 0 d_S_whatIs_0 rfl rfl ?_
  refine x_iload_n 1 1 d_S_whatIs_1 rfl rfl ?_
  refine x_iload_n 2 2 d_S_whatIs_2 rfl rfl ?_
  refine x_callVi (As := [.int a1, .int a2]) (t := o) (rest := []) (rc := 0) (rs := 0) (c_S_isGiven hA hT ho hw) cw_S_whatIs_S_isGiven_59 ho.1 ho.2.1 rfl d_S_whatIs_3 rfl rfl (Nat.le_of_ble_eq_true rfl) rfl (fun _ _ h => h.elim) (fun _ _ h => h) (fun r6 M5 hw => ?_)
  refine x_if_eq 18 d_S_whatIs_6 rfl (fun hc => ?_) (fun hc => ?_)
  · have hw := hw.1 hc
    refine x_aload_n 3 3 d_S_whatIs_18 rfl rfl ?_
    refine x_geti 6 d_S_whatIs_19 hp3.1 hp3.2 rfl rfl (by decide) lay_F (List.mem_cons_of_mem _ q38) rfl ?_
    refine x_sub [] [] rfl ?_
    exact t_S_whatIs_22 hA hT ho M5 (M5 p3 6) hw
  · have hw := hw.2 hc
    refine x_aload_n 0 0 d_S_whatIs_9 rfl rfl ?_
    refine x_iload_n 1 1 d_S_whatIs_10 rfl rfl ?_
    refine x_iload_n 2 2 d_S_whatIs_11 rfl rfl ?_
    refine x_callVi (As := [.int a1, .int a2]) (t := o) (rest := []) (rc := 0) (rs := 0) (c_S_valueAt hA hT ho hw) cw_S_whatIs_S_valueAt_63 ho.1 ho.2.1 rfl d_S_whatIs_12 rfl rfl (Nat.le_of_ble_eq_true rfl) rfl (fun _ _ h => h.elim) (fun _ _ h => h) (fun r8 M7 hw => ?_)
    refine x_goto 22 d_S_whatIs_15 rfl ?_
    refine x_sub [] [] rfl ?_
    exact t_S_whatIs_22 hA hT ho M7 r8 hw
end
abbrev y_S_moveRow : MethodName := ⟨"SettingsDesk$Settings", "moveRow", "(II)V"⟩
theorem d_S_moveRow_0 : decode prog_9_method_12_code 0 = .ok (.aload_n 0, 1) := by decide +kernel
theorem d_S_moveRow_1 : decode prog_9_method_12_code 1 = .ok (.getfield 15, 3) := by decide +kernel
theorem d_S_moveRow_4 : decode prog_9_method_12_code 4 = .ok (.iload_n 2, 1) := by decide +kernel
theorem d_S_moveRow_5 : decode prog_9_method_12_code 5 = .ok (.aload_n 0, 1) := by decide +kernel
theorem d_S_moveRow_6 : decode prog_9_method_12_code 6 = .ok (.getfield 15, 3) := by decide +kernel
theorem d_S_moveRow_9 : decode prog_9_method_12_code 9 = .ok (.iload_n 1, 1) := by decide +kernel
theorem d_S_moveRow_10 : decode prog_9_method_12_code 10 = .ok (.iaload, 1) := by decide +kernel
theorem d_S_moveRow_11 : decode prog_9_method_12_code 11 = .ok (.iastore, 1) := by decide +kernel
theorem d_S_moveRow_12 : decode prog_9_method_12_code 12 = .ok (.aload_n 0, 1) := by decide +kernel
theorem d_S_moveRow_13 : decode prog_9_method_12_code 13 = .ok (.getfield 21, 3) := by decide +kernel
theorem d_S_moveRow_16 : decode prog_9_method_12_code 16 = .ok (.iload_n 2, 1) := by decide +kernel
theorem d_S_moveRow_17 : decode prog_9_method_12_code 17 = .ok (.aload_n 0, 1) := by decide +kernel
theorem d_S_moveRow_18 : decode prog_9_method_12_code 18 = .ok (.getfield 21, 3) := by decide +kernel
theorem d_S_moveRow_21 : decode prog_9_method_12_code 21 = .ok (.iload_n 1, 1) := by decide +kernel
theorem d_S_moveRow_22 : decode prog_9_method_12_code 22 = .ok (.iaload, 1) := by decide +kernel
theorem d_S_moveRow_23 : decode prog_9_method_12_code 23 = .ok (.iastore, 1) := by decide +kernel
theorem d_S_moveRow_24 : decode prog_9_method_12_code 24 = .ok (.aload_n 0, 1) := by decide +kernel
theorem d_S_moveRow_25 : decode prog_9_method_12_code 25 = .ok (.getfield 18, 3) := by decide +kernel
theorem d_S_moveRow_28 : decode prog_9_method_12_code 28 = .ok (.iload_n 1, 1) := by decide +kernel
theorem d_S_moveRow_29 : decode prog_9_method_12_code 29 = .ok (.iconst 4, 1) := by decide +kernel
theorem d_S_moveRow_30 : decode prog_9_method_12_code 30 = .ok (.imul, 1) := by decide +kernel
theorem d_S_moveRow_31 : decode prog_9_method_12_code 31 = .ok (.aload_n 0, 1) := by decide +kernel
theorem d_S_moveRow_32 : decode prog_9_method_12_code 32 = .ok (.getfield 18, 3) := by decide +kernel
theorem d_S_moveRow_35 : decode prog_9_method_12_code 35 = .ok (.iload_n 2, 1) := by decide +kernel
theorem d_S_moveRow_36 : decode prog_9_method_12_code 36 = .ok (.iconst 4, 1) := by decide +kernel
theorem d_S_moveRow_37 : decode prog_9_method_12_code 37 = .ok (.imul, 1) := by decide +kernel
theorem d_S_moveRow_38 : decode prog_9_method_12_code 38 = .ok (.iconst 4, 1) := by decide +kernel
theorem d_S_moveRow_39 : decode prog_9_method_12_code 39 = .ok (.invokestatic 24, 3) := by decide +kernel
theorem d_S_moveRow_42 : decode prog_9_method_12_code 42 = .ok (.return_, 1) := by decide +kernel
def Y_S_moveRow : sdY := ("SettingsDesk$Settings", prog_9_method_12_code, 3, none, .code y_S_moveRow prog_9_method_12_code 3 none :: sdB0, { frames := 1, cells := 0, slots := 0, locals := 18 }, 0, 0, [])
section
variable {l : Launch} {D : va_G} {dA : Nat → ClassId} {b n : Nat} {ad : Nat → Nat} {L : Nat → sdL} {sc : Option (Nat × Nat × (Nat → Int32))}
def w_S_moveRow (o : Nat) (M : sdM) (a1 : Int32) (a2 : Int32) (Q : sdM → Prop) : Prop := vp_in a1 48 ∧ vp_in a2 48 ∧ ∀ M14 : sdM, M14 = sd_s M (o + 2) a2.toNatClampNeg (M (o + 2) a1.toNatClampNeg) → vp_in a1 48 ∧ vp_in a2 48 ∧ ∀ M18 : sdM, M18 = sd_s M14 (o + 4) a2.toNatClampNeg (M14 (o + 4) a1.toNatClampNeg) → (¬ (a1 * (4 : Int32)) < 0 ∧ ¬ (a2 * (4 : Int32)) < 0 ∧ ¬ (4 : Int32) < 0 ∧ (a1 * (4 : Int32)).toNatClampNeg + (4 : Int32).toNatClampNeg ≤ 192 ∧ (a2 * (4 : Int32)).toNatClampNeg + (4 : Int32).toNatClampNeg ≤ 192) ∧ ∀ M21 : sdM, M21 = va_up M18 (o + 3) (va_cpy (M18 (o + 3)) (M18 (o + 3)) (a1 * (4 : Int32)).toNatClampNeg (a2 * (4 : Int32)).toNatClampNeg (4 : Int32).toNatClampNeg) → Q M21
set_option maxHeartbeats 1000000 in
theorem c_S_moveRow {a1 : Int32} {a2 : Int32} {o : Nat} (hA : sd_ad b n ad) (hT : l.stackTraces = false) (ho : isS n L dA o) {Q : sdM → Prop} {M : sdM} (hw : w_S_moveRow o M a1 a2 Q) : sd_Cn l (sdE0 sc) y_S_moveRow Y_S_moveRow.2.2.2.2.1 Y_S_moveRow.2.2.2.2.2.1 0 0 D (sd_tys dA) b n ad L M [.ref o, .int a1, .int a2] (sd_qv Q) sd_xf := by
  refine sd_enter (Y := Y_S_moveRow) rfl rfl rfl rfl (Nat.le_of_ble_eq_true rfl) ?_
  show sdW l (sdE0 sc) Y_S_moveRow D (sd_tys dA) b n ad L ad (sd_H D (sdE0 sc).1 n ad L) (sd_qv Q) sd_xf 0 [(0, .ref o), (1, .int a1), (2, .int a2)] [] M 0 0
  unfold w_S_moveRow at hw
  refine x_aload_n 0 0 d_S_moveRow_0 rfl rfl ?_
  refine x_getr 1 (o + 2) d_S_moveRow_1 ho.1 ho.2.1 rfl rfl (by decide) lay_S (List.mem_cons_of_mem _ q16) rfl ?_
  refine x_iload_n 2 2 d_S_moveRow_4 rfl rfl ?_
  refine x_aload_n 0 0 d_S_moveRow_5 rfl rfl ?_
  refine x_getr 1 (o + 2) d_S_moveRow_6 ho.1 ho.2.1 rfl rfl (by decide) lay_S (List.mem_cons_of_mem _ q16) rfl ?_
  refine x_iload_n 1 1 d_S_moveRow_9 rfl rfl ?_
  obtain ⟨hi12, hw⟩ := hw
  refine x_iald d_S_moveRow_10 ho.keys.1 ho.keys.2 rfl hi12 ?_
  obtain ⟨hi13, hw⟩ := hw
  refine x_iast hA d_S_moveRow_11 ho.keys.1 ho.keys.2 rfl hi13 (fun M14 e15 => ?_)
  have hw := hw M14 e15
  clear e15
  refine x_aload_n 0 0 d_S_moveRow_12 rfl rfl ?_
  refine x_getr 3 (o + 4) d_S_moveRow_13 ho.1 ho.2.1 rfl rfl (by decide) lay_S (List.mem_cons_of_mem _ q1) rfl ?_
  refine x_iload_n 2 2 d_S_moveRow_16 rfl rfl ?_
  refine x_aload_n 0 0 d_S_moveRow_17 rfl rfl ?_
  refine x_getr 3 (o + 4) d_S_moveRow_18 ho.1 ho.2.1 rfl rfl (by decide) lay_S (List.mem_cons_of_mem _ q1) rfl ?_
  refine x_iload_n 1 1 d_S_moveRow_21 rfl rfl ?_
  obtain ⟨hi16, hw⟩ := hw
  refine x_iald d_S_moveRow_22 ho.given.1 ho.given.2 rfl hi16 ?_
  obtain ⟨hi17, hw⟩ := hw
  refine x_iast hA d_S_moveRow_23 ho.given.1 ho.given.2 rfl hi17 (fun M18 e19 => ?_)
  have hw := hw M18 e19
  clear e19
  refine x_aload_n 0 0 d_S_moveRow_24 rfl rfl ?_
  refine x_getr 2 (o + 3) d_S_moveRow_25 ho.1 ho.2.1 rfl rfl (by decide) lay_S (List.mem_cons_of_mem _ q2) rfl ?_
  refine x_iload_n 1 1 d_S_moveRow_28 rfl rfl ?_
  refine x_iconst (v := 4) d_S_moveRow_29 (by decide) ?_
  refine x_imul d_S_moveRow_30 ?_
  refine x_aload_n 0 0 d_S_moveRow_31 rfl rfl ?_
  refine x_getr 2 (o + 3) d_S_moveRow_32 ho.1 ho.2.1 rfl rfl (by decide) lay_S (List.mem_cons_of_mem _ q2) rfl ?_
  refine x_iload_n 2 2 d_S_moveRow_35 rfl rfl ?_
  refine x_iconst (v := 4) d_S_moveRow_36 (by decide) ?_
  refine x_imul d_S_moveRow_37 ?_
  refine x_iconst (v := 4) d_S_moveRow_38 (by decide) ?_
  obtain ⟨hi20, hw⟩ := hw
  refine x_copyi hA d_S_moveRow_39 (List.mem_cons_of_mem _ q33) (List.mem_cons_of_mem _ q34) (List.mem_cons_of_mem _ q35) (List.mem_cons_of_mem _ q36) ho.values.1 ho.values.2 ho.values.1 ho.values.2 rfl hi20 (Nat.le_of_ble_eq_true rfl) (Nat.le_of_ble_eq_true rfl) (fun M21 e22 => ?_)
  have hw := hw M21 e22
  clear e22
  exact x_vret d_S_moveRow_42 rfl (fun _ h => h) ⟨rfl, hw⟩
end
theorem q39 : (.methodLink "SettingsDesk$Settings" 52 ⟨"SettingsDesk$Settings", "moveRow", "(II)V"⟩ : Cond) ∈ sdB0 := sd_tb3 126 rfl rfl
theorem q40 : (.code ⟨"SettingsDesk$Settings", "moveRow", "(II)V"⟩ prog_9_method_12_code 3 none : Cond) ∈ sdB0 := sd_tb3 129 rfl rfl
theorem q41 : (.instanceMethod ⟨"SettingsDesk$Settings", "moveRow", "(II)V"⟩ : Cond) ∈ sdB0 := sd_tb3 127 rfl rfl
theorem q42 : (.selects "SettingsDesk$Settings" ⟨"SettingsDesk$Settings", "moveRow", "(II)V"⟩ ⟨"SettingsDesk$Settings", "moveRow", "(II)V"⟩ : Cond) ∈ sdB0 := sd_tb3 128 rfl rfl
abbrev y_S_removeEntry : MethodName := ⟨"SettingsDesk$Settings", "removeEntry", "(II)V"⟩
theorem d_S_removeEntry_0 : decode prog_9_method_11_code 0 = .ok (.iload_n 2, 1) := by decide +kernel
theorem d_S_removeEntry_1 : decode prog_9_method_11_code 1 = .ok (.iconst 1, 1) := by decide +kernel
theorem d_S_removeEntry_2 : decode prog_9_method_11_code 2 = .ok (.iadd, 1) := by decide +kernel
theorem d_S_removeEntry_3 : decode prog_9_method_11_code 3 = .ok (.istore_n 3, 1) := by decide +kernel
theorem d_S_removeEntry_4 : decode prog_9_method_11_code 4 = .ok (.iload_n 3, 1) := by decide +kernel
theorem d_S_removeEntry_5 : decode prog_9_method_11_code 5 = .ok (.aload_n 0, 1) := by decide +kernel
theorem d_S_removeEntry_6 : decode prog_9_method_11_code 6 = .ok (.iload_n 1, 1) := by decide +kernel
theorem d_S_removeEntry_7 : decode prog_9_method_11_code 7 = .ok (.invokevirtual 40, 3) := by decide +kernel
theorem d_S_removeEntry_10 : decode prog_9_method_11_code 10 = .ok (.if_icmp .ge (17), 3) := by decide +kernel
theorem d_S_removeEntry_13 : decode prog_9_method_11_code 13 = .ok (.aload_n 0, 1) := by decide +kernel
theorem d_S_removeEntry_14 : decode prog_9_method_11_code 14 = .ok (.iload_n 3, 1) := by decide +kernel
theorem d_S_removeEntry_15 : decode prog_9_method_11_code 15 = .ok (.iload_n 3, 1) := by decide +kernel
theorem d_S_removeEntry_16 : decode prog_9_method_11_code 16 = .ok (.iconst 1, 1) := by decide +kernel
theorem d_S_removeEntry_17 : decode prog_9_method_11_code 17 = .ok (.isub, 1) := by decide +kernel
theorem d_S_removeEntry_18 : decode prog_9_method_11_code 18 = .ok (.invokevirtual 52, 3) := by decide +kernel
theorem d_S_removeEntry_21 : decode prog_9_method_11_code 21 = .ok (.iinc 3 (1), 3) := by decide +kernel
theorem d_S_removeEntry_24 : decode prog_9_method_11_code 24 = .ok (.goto (-20), 3) := by decide +kernel
theorem d_S_removeEntry_27 : decode prog_9_method_11_code 27 = .ok (.aload_n 0, 1) := by decide +kernel
theorem d_S_removeEntry_28 : decode prog_9_method_11_code 28 = .ok (.getfield 9, 3) := by decide +kernel
theorem d_S_removeEntry_31 : decode prog_9_method_11_code 31 = .ok (.iload_n 1, 1) := by decide +kernel
theorem d_S_removeEntry_32 : decode prog_9_method_11_code 32 = .ok (.dup2, 1) := by decide +kernel
theorem d_S_removeEntry_33 : decode prog_9_method_11_code 33 = .ok (.iaload, 1) := by decide +kernel
theorem d_S_removeEntry_34 : decode prog_9_method_11_code 34 = .ok (.iconst 1, 1) := by decide +kernel
theorem d_S_removeEntry_35 : decode prog_9_method_11_code 35 = .ok (.isub, 1) := by decide +kernel
theorem d_S_removeEntry_36 : decode prog_9_method_11_code 36 = .ok (.iastore, 1) := by decide +kernel
theorem d_S_removeEntry_37 : decode prog_9_method_11_code 37 = .ok (.return_, 1) := by decide +kernel
def Y_S_removeEntry : sdY := ("SettingsDesk$Settings", prog_9_method_11_code, 4, none, .code y_S_removeEntry prog_9_method_11_code 4 none :: sdB0, { frames := 2, cells := 0, slots := 0, locals := 40 }, 0, 0, [])
theorem cw_S_removeEntry_S_endRow_40 : sd_cwV Y_S_removeEntry Y_S_endRow y_S_endRow 40 1 "SettingsDesk$Settings" := ⟨sd_goodV q21 q23 q24 q7 q22, ⟨_, rfl⟩, ⟨rfl, rfl, rfl, rfl⟩, ⟨rfl, by decide, by decide, by decide +kernel⟩, ⟨by decide, by decide⟩⟩
theorem cw_S_removeEntry_S_moveRow_52 : sd_cwV Y_S_removeEntry Y_S_moveRow y_S_moveRow 52 2 "SettingsDesk$Settings" := ⟨sd_goodV q39 q41 q42 q7 q40, ⟨_, rfl⟩, ⟨rfl, rfl, rfl, rfl⟩, ⟨rfl, by decide, by decide, by decide +kernel⟩, ⟨by decide, by decide⟩⟩
section
variable {l : Launch} {D : va_G} {dA : Nat → ClassId} {b n : Nat} {ad : Nat → Nat} {L : Nat → sdL} {sc : Option (Nat × Nat × (Nat → Int32))}
def h_S_removeEntry_4 (o : Nat) (Q : sdM → Prop) : Nat → sdM → Int32 → Int32 → Prop
  | 0, _, _, _ => False
  | N + 1, M, x1, x3 => w_S_endRow o M x1 (fun r9 M8 => (r9 ≤ x3 → vp_in x1 4 ∧ vp_in x1 4 ∧ ∀ M12 : sdM, M12 = sd_s M8 (o + 1) x1.toNatClampNeg ((M8 (o + 1) x1.toNatClampNeg) - (1 : Int32)) → Q M12) ∧ (¬ r9 ≤ x3 → w_S_moveRow o M8 x3 (x3 - (1 : Int32)) (fun M14 => h_S_removeEntry_4 o Q N M14 x1 (x3 + 1))))
set_option maxHeartbeats 1000000 in
theorem t_S_removeEntry_4 {o : Nat} (hA : sd_ad b n ad) (hT : l.stackTraces = false) (ho : isS n L dA o) {Q : sdM → Prop} (N : Nat) : ∀ (M : sdM) (x1 : Int32) (x3 : Int32), h_S_removeEntry_4 o Q N M x1 x3 → sdW l (sdE0 sc) Y_S_removeEntry D (sd_tys dA) b n ad L ad (sd_H D (sdE0 sc).1 n ad L) (sd_qv Q) sd_xf 4 [(0, .ref o), (1, .int x1), (3, .int x3)] [] M 0 0 := by
  induction N with
  | zero => intro M x1 x3 hw; exact hw.elim
  | succ N ih =>
    intro M x1 x3 hw
    rw [h_S_removeEntry_4] at hw
    refine x_iload_n 3 2 d_S_removeEntry_4 rfl rfl ?_
    refine x_aload_n 0 0 d_S_removeEntry_5 rfl rfl ?_
    refine x_iload_n 1 1 d_S_removeEntry_6 rfl rfl ?_
    refine x_callVi (As := [.int x1]) (t := o) (rest := [.int x3]) (rc := 0) (rs := 0) (c_S_endRow hA hT ho hw) cw_S_removeEntry_S_endRow_40 ho.1 ho.2.1 rfl d_S_removeEntry_7 rfl rfl (Nat.le_of_ble_eq_true rfl) rfl (fun _ _ h => h.elim) (fun _ _ h => h) (fun r9 M8 hw => ?_)
    refine x_icmp_ge 27 d_S_removeEntry_10 rfl (fun hc => ?_) (fun hc => ?_)
    · have hw := hw.1 hc
      refine x_aload_n 0 0 d_S_removeEntry_27 rfl rfl ?_
      refine x_getr 0 (o + 1) d_S_removeEntry_28 ho.1 ho.2.1 rfl rfl (by decide) lay_S (List.mem_cons_of_mem _ q0) rfl ?_
      refine x_iload_n 1 1 d_S_removeEntry_31 rfl rfl ?_
      refine x_dup2 d_S_removeEntry_32 rfl rfl ?_
      obtain ⟨hi10, hw⟩ := hw
      refine x_iald d_S_removeEntry_33 ho.counts.1 ho.counts.2 rfl hi10 ?_
      refine x_iconst (v := 1) d_S_removeEntry_34 (by decide) ?_
      refine x_isub d_S_removeEntry_35 ?_
      obtain ⟨hi11, hw⟩ := hw
      refine x_iast hA d_S_removeEntry_36 ho.counts.1 ho.counts.2 rfl hi11 (fun M12 e13 => ?_)
      have hw := hw M12 e13
      clear e13
      exact x_vret d_S_removeEntry_37 rfl (fun _ h => h) ⟨rfl, hw⟩
    · have hw := hw.2 hc
      refine x_aload_n 0 0 d_S_removeEntry_13 rfl rfl ?_
      refine x_iload_n 3 2 d_S_removeEntry_14 rfl rfl ?_
      refine x_iload_n 3 2 d_S_removeEntry_15 rfl rfl ?_
      refine x_iconst (v := 1) d_S_removeEntry_16 (by decide) ?_
      refine x_isub d_S_removeEntry_17 ?_
      refine x_callVv (As := [.int x3, .int (x3 - (1 : Int32))]) (t := o) (rest := []) (rc := 0) (rs := 0) (c_S_moveRow hA hT ho hw) cw_S_removeEntry_S_moveRow_52 ho.1 ho.2.1 rfl d_S_removeEntry_18 rfl rfl (Nat.le_of_ble_eq_true rfl) rfl (fun _ _ h => h.elim) (fun _ _ h => h) (fun M14 hw => ?_)
      refine x_iinc 3 2 [(3, .int (x3 + 1)), (0, .ref o), (1, .int x1)] d_S_removeEntry_21 rfl (congrArg (HAdd.hAdd x3) (show Int32.ofInt 1 = 1 by decide)) (by decide) rfl ?_
      refine x_goto 4 d_S_removeEntry_24 rfl ?_
      refine x_sub [1, 2, 0] [(0, .ref o), (1, .int x1), (3, .int (x3 + 1))] rfl ?_
      exact ih M14 x1 (x3 + 1) hw
def w_S_removeEntry (o : Nat) (M : sdM) (a1 : Int32) (a2 : Int32) (Q : sdM → Prop) : Prop := ∃ N9 : Nat, h_S_removeEntry_4 o Q N9 M a1 (a2 + (1 : Int32))
set_option maxHeartbeats 1000000 in
theorem c_S_removeEntry {a1 : Int32} {a2 : Int32} {o : Nat} (hA : sd_ad b n ad) (hT : l.stackTraces = false) (ho : isS n L dA o) {Q : sdM → Prop} {M : sdM} (hw : w_S_removeEntry o M a1 a2 Q) : sd_Cn l (sdE0 sc) y_S_removeEntry Y_S_removeEntry.2.2.2.2.1 Y_S_removeEntry.2.2.2.2.2.1 0 0 D (sd_tys dA) b n ad L M [.ref o, .int a1, .int a2] (sd_qv Q) sd_xf := by
  refine sd_enter (Y := Y_S_removeEntry) rfl rfl rfl rfl (Nat.le_of_ble_eq_true rfl) ?_
  show sdW l (sdE0 sc) Y_S_removeEntry D (sd_tys dA) b n ad L ad (sd_H D (sdE0 sc).1 n ad L) (sd_qv Q) sd_xf 0 [(0, .ref o), (1, .int a1), (2, .int a2)] [] M 0 0
  unfold w_S_removeEntry at hw
  refine x_iload_n 2 2 d_S_removeEntry_0 rfl rfl ?_
  refine x_iconst (v := 1) d_S_removeEntry_1 (by decide) ?_
  refine x_iadd d_S_removeEntry_2 ?_
  refine x_istore_n 3 [(3, .int (a2 + (1 : Int32))), (0, .ref o), (1, .int a1), (2, .int a2)] d_S_removeEntry_3 rfl (by decide) rfl ?_
  refine x_sub [1, 2, 0] [(0, .ref o), (1, .int a1), (3, .int (a2 + (1 : Int32)))] rfl ?_
  obtain ⟨N9, hw⟩ := hw
  exact t_S_removeEntry_4 hA hT ho N9 M a1 (a2 + (1 : Int32)) hw
end
abbrev y_S_drop : MethodName := ⟨"SettingsDesk$Settings", "drop", "(II)V"⟩
theorem d_S_drop_0 : decode prog_9_method_15_code 0 = .ok (.aload_n 0, 1) := by decide +kernel
theorem d_S_drop_1 : decode prog_9_method_15_code 1 = .ok (.getfield 21, 3) := by decide +kernel
theorem d_S_drop_4 : decode prog_9_method_15_code 4 = .ok (.iload_n 1, 1) := by decide +kernel
theorem d_S_drop_5 : decode prog_9_method_15_code 5 = .ok (.dup2, 1) := by decide +kernel
theorem d_S_drop_6 : decode prog_9_method_15_code 6 = .ok (.iaload, 1) := by decide +kernel
theorem d_S_drop_7 : decode prog_9_method_15_code 7 = .ok (.iconst 1, 1) := by decide +kernel
theorem d_S_drop_8 : decode prog_9_method_15_code 8 = .ok (.iload_n 2, 1) := by decide +kernel
theorem d_S_drop_9 : decode prog_9_method_15_code 9 = .ok (.ishl, 1) := by decide +kernel
theorem d_S_drop_10 : decode prog_9_method_15_code 10 = .ok (.iconst (-1), 1) := by decide +kernel
theorem d_S_drop_11 : decode prog_9_method_15_code 11 = .ok (.ixor, 1) := by decide +kernel
theorem d_S_drop_12 : decode prog_9_method_15_code 12 = .ok (.iand, 1) := by decide +kernel
theorem d_S_drop_13 : decode prog_9_method_15_code 13 = .ok (.iastore, 1) := by decide +kernel
theorem d_S_drop_14 : decode prog_9_method_15_code 14 = .ok (.aload_n 0, 1) := by decide +kernel
theorem d_S_drop_15 : decode prog_9_method_15_code 15 = .ok (.getfield 18, 3) := by decide +kernel
theorem d_S_drop_18 : decode prog_9_method_15_code 18 = .ok (.iload_n 1, 1) := by decide +kernel
theorem d_S_drop_19 : decode prog_9_method_15_code 19 = .ok (.iconst 4, 1) := by decide +kernel
theorem d_S_drop_20 : decode prog_9_method_15_code 20 = .ok (.imul, 1) := by decide +kernel
theorem d_S_drop_21 : decode prog_9_method_15_code 21 = .ok (.iload_n 2, 1) := by decide +kernel
theorem d_S_drop_22 : decode prog_9_method_15_code 22 = .ok (.iadd, 1) := by decide +kernel
theorem d_S_drop_23 : decode prog_9_method_15_code 23 = .ok (.iconst 0, 1) := by decide +kernel
theorem d_S_drop_24 : decode prog_9_method_15_code 24 = .ok (.iastore, 1) := by decide +kernel
theorem d_S_drop_25 : decode prog_9_method_15_code 25 = .ok (.return_, 1) := by decide +kernel
def Y_S_drop : sdY := ("SettingsDesk$Settings", prog_9_method_15_code, 3, none, .code y_S_drop prog_9_method_15_code 3 none :: sdB0, { frames := 0, cells := 0, slots := 0, locals := 0 }, 0, 0, [])
section
variable {l : Launch} {D : va_G} {dA : Nat → ClassId} {b n : Nat} {ad : Nat → Nat} {L : Nat → sdL} {sc : Option (Nat × Nat × (Nat → Int32))}
def w_S_drop (o : Nat) (M : sdM) (a1 : Int32) (a2 : Int32) (Q : sdM → Prop) : Prop := vp_in a1 48 ∧ vp_in a1 48 ∧ ∀ M10 : sdM, M10 = sd_s M (o + 4) a1.toNatClampNeg ((M (o + 4) a1.toNatClampNeg) &&& (((1 : Int32) <<< (a2 &&& 31)) ^^^ (-1 : Int32))) → vp_in ((a1 * (4 : Int32)) + a2) 192 ∧ ∀ M13 : sdM, M13 = sd_s M10 (o + 3) ((a1 * (4 : Int32)) + a2).toNatClampNeg (0 : Int32) → Q M13
set_option maxHeartbeats 1000000 in
theorem c_S_drop {a1 : Int32} {a2 : Int32} {o : Nat} (hA : sd_ad b n ad) (hT : l.stackTraces = false) (ho : isS n L dA o) {Q : sdM → Prop} {M : sdM} (hw : w_S_drop o M a1 a2 Q) : sd_Cn l (sdE0 sc) y_S_drop Y_S_drop.2.2.2.2.1 Y_S_drop.2.2.2.2.2.1 0 0 D (sd_tys dA) b n ad L M [.ref o, .int a1, .int a2] (sd_qv Q) sd_xf := by
  refine sd_enter (Y := Y_S_drop) rfl rfl rfl rfl (Nat.le_of_ble_eq_true rfl) ?_
  show sdW l (sdE0 sc) Y_S_drop D (sd_tys dA) b n ad L ad (sd_H D (sdE0 sc).1 n ad L) (sd_qv Q) sd_xf 0 [(0, .ref o), (1, .int a1), (2, .int a2)] [] M 0 0
  unfold w_S_drop at hw
  refine x_aload_n 0 0 d_S_drop_0 rfl rfl ?_
  refine x_getr 3 (o + 4) d_S_drop_1 ho.1 ho.2.1 rfl rfl (by decide) lay_S (List.mem_cons_of_mem _ q1) rfl ?_
  refine x_iload_n 1 1 d_S_drop_4 rfl rfl ?_
  refine x_dup2 d_S_drop_5 rfl rfl ?_
  obtain ⟨hi8, hw⟩ := hw
  refine x_iald d_S_drop_6 ho.given.1 ho.given.2 rfl hi8 ?_
  refine x_iconst (v := 1) d_S_drop_7 (by decide) ?_
  refine x_iload_n 2 2 d_S_drop_8 rfl rfl ?_
  refine x_ishl d_S_drop_9 ?_
  refine x_iconst (v := (-1)) d_S_drop_10 (by decide) ?_
  refine x_ixor d_S_drop_11 ?_
  refine x_iand d_S_drop_12 ?_
  obtain ⟨hi9, hw⟩ := hw
  refine x_iast hA d_S_drop_13 ho.given.1 ho.given.2 rfl hi9 (fun M10 e11 => ?_)
  have hw := hw M10 e11
  clear e11
  refine x_aload_n 0 0 d_S_drop_14 rfl rfl ?_
  refine x_getr 2 (o + 3) d_S_drop_15 ho.1 ho.2.1 rfl rfl (by decide) lay_S (List.mem_cons_of_mem _ q2) rfl ?_
  refine x_iload_n 1 1 d_S_drop_18 rfl rfl ?_
  refine x_iconst (v := 4) d_S_drop_19 (by decide) ?_
  refine x_imul d_S_drop_20 ?_
  refine x_iload_n 2 2 d_S_drop_21 rfl rfl ?_
  refine x_iadd d_S_drop_22 ?_
  refine x_iconst (v := 0) d_S_drop_23 (by decide) ?_
  obtain ⟨hi12, hw⟩ := hw
  refine x_iast hA d_S_drop_24 ho.values.1 ho.values.2 rfl hi12 (fun M13 e14 => ?_)
  have hw := hw M13 e14
  clear e14
  exact x_vret d_S_drop_25 rfl (fun _ h => h) ⟨rfl, hw⟩
end
theorem q43 : (.methodLink "SettingsDesk$Settings" 56 ⟨"SettingsDesk$Settings", "drop", "(II)V"⟩ : Cond) ∈ sdB0 := sd_tb3 150 rfl rfl
theorem q44 : (.code ⟨"SettingsDesk$Settings", "drop", "(II)V"⟩ prog_9_method_15_code 3 none : Cond) ∈ sdB0 := sd_tb3 153 rfl rfl
theorem q45 : (.instanceMethod ⟨"SettingsDesk$Settings", "drop", "(II)V"⟩ : Cond) ∈ sdB0 := sd_tb3 151 rfl rfl
theorem q46 : (.selects "SettingsDesk$Settings" ⟨"SettingsDesk$Settings", "drop", "(II)V"⟩ ⟨"SettingsDesk$Settings", "drop", "(II)V"⟩ : Cond) ∈ sdB0 := sd_tb3 152 rfl rfl
abbrev y_S_addEntry : MethodName := ⟨"SettingsDesk$Settings", "addEntry", "(II)I"⟩
theorem d_S_addEntry_0 : decode prog_9_method_10_code 0 = .ok (.aload_n 0, 1) := by decide +kernel
theorem d_S_addEntry_1 : decode prog_9_method_10_code 1 = .ok (.iload_n 1, 1) := by decide +kernel
theorem d_S_addEntry_2 : decode prog_9_method_10_code 2 = .ok (.invokevirtual 40, 3) := by decide +kernel
theorem d_S_addEntry_5 : decode prog_9_method_10_code 5 = .ok (.istore_n 3, 1) := by decide +kernel
theorem d_S_addEntry_6 : decode prog_9_method_10_code 6 = .ok (.iload_n 3, 1) := by decide +kernel
theorem d_S_addEntry_7 : decode prog_9_method_10_code 7 = .ok (.aload_n 0, 1) := by decide +kernel
theorem d_S_addEntry_8 : decode prog_9_method_10_code 8 = .ok (.iload_n 1, 1) := by decide +kernel
theorem d_S_addEntry_9 : decode prog_9_method_10_code 9 = .ok (.invokevirtual 36, 3) := by decide +kernel
theorem d_S_addEntry_12 : decode prog_9_method_10_code 12 = .ok (.if_icmp .le (29), 3) := by decide +kernel
theorem d_S_addEntry_15 : decode prog_9_method_10_code 15 = .ok (.aload_n 0, 1) := by decide +kernel
theorem d_S_addEntry_16 : decode prog_9_method_10_code 16 = .ok (.getfield 15, 3) := by decide +kernel
theorem d_S_addEntry_19 : decode prog_9_method_10_code 19 = .ok (.iload_n 3, 1) := by decide +kernel
theorem d_S_addEntry_20 : decode prog_9_method_10_code 20 = .ok (.iconst 1, 1) := by decide +kernel
theorem d_S_addEntry_21 : decode prog_9_method_10_code 21 = .ok (.isub, 1) := by decide +kernel
theorem d_S_addEntry_22 : decode prog_9_method_10_code 22 = .ok (.iaload, 1) := by decide +kernel
theorem d_S_addEntry_23 : decode prog_9_method_10_code 23 = .ok (.iload_n 2, 1) := by decide +kernel
theorem d_S_addEntry_24 : decode prog_9_method_10_code 24 = .ok (.if_icmp .le (17), 3) := by decide +kernel
theorem d_S_addEntry_27 : decode prog_9_method_10_code 27 = .ok (.aload_n 0, 1) := by decide +kernel
theorem d_S_addEntry_28 : decode prog_9_method_10_code 28 = .ok (.iload_n 3, 1) := by decide +kernel
theorem d_S_addEntry_29 : decode prog_9_method_10_code 29 = .ok (.iconst 1, 1) := by decide +kernel
theorem d_S_addEntry_30 : decode prog_9_method_10_code 30 = .ok (.isub, 1) := by decide +kernel
theorem d_S_addEntry_31 : decode prog_9_method_10_code 31 = .ok (.iload_n 3, 1) := by decide +kernel
theorem d_S_addEntry_32 : decode prog_9_method_10_code 32 = .ok (.invokevirtual 52, 3) := by decide +kernel
theorem d_S_addEntry_35 : decode prog_9_method_10_code 35 = .ok (.iinc 3 (-1), 3) := by decide +kernel
theorem d_S_addEntry_38 : decode prog_9_method_10_code 38 = .ok (.goto (-32), 3) := by decide +kernel
theorem d_S_addEntry_41 : decode prog_9_method_10_code 41 = .ok (.aload_n 0, 1) := by decide +kernel
theorem d_S_addEntry_42 : decode prog_9_method_10_code 42 = .ok (.getfield 9, 3) := by decide +kernel
theorem d_S_addEntry_45 : decode prog_9_method_10_code 45 = .ok (.iload_n 1, 1) := by decide +kernel
theorem d_S_addEntry_46 : decode prog_9_method_10_code 46 = .ok (.dup2, 1) := by decide +kernel
theorem d_S_addEntry_47 : decode prog_9_method_10_code 47 = .ok (.iaload, 1) := by decide +kernel
theorem d_S_addEntry_48 : decode prog_9_method_10_code 48 = .ok (.iconst 1, 1) := by decide +kernel
theorem d_S_addEntry_49 : decode prog_9_method_10_code 49 = .ok (.iadd, 1) := by decide +kernel
theorem d_S_addEntry_50 : decode prog_9_method_10_code 50 = .ok (.iastore, 1) := by decide +kernel
theorem d_S_addEntry_51 : decode prog_9_method_10_code 51 = .ok (.aload_n 0, 1) := by decide +kernel
theorem d_S_addEntry_52 : decode prog_9_method_10_code 52 = .ok (.getfield 15, 3) := by decide +kernel
theorem d_S_addEntry_55 : decode prog_9_method_10_code 55 = .ok (.iload_n 3, 1) := by decide +kernel
theorem d_S_addEntry_56 : decode prog_9_method_10_code 56 = .ok (.iload_n 2, 1) := by decide +kernel
theorem d_S_addEntry_57 : decode prog_9_method_10_code 57 = .ok (.iastore, 1) := by decide +kernel
theorem d_S_addEntry_58 : decode prog_9_method_10_code 58 = .ok (.iconst 0, 1) := by decide +kernel
theorem d_S_addEntry_59 : decode prog_9_method_10_code 59 = .ok (.istore 4, 2) := by decide +kernel
theorem d_S_addEntry_61 : decode prog_9_method_10_code 61 = .ok (.iload 4, 2) := by decide +kernel
theorem d_S_addEntry_63 : decode prog_9_method_10_code 63 = .ok (.iconst 4, 1) := by decide +kernel
theorem d_S_addEntry_64 : decode prog_9_method_10_code 64 = .ok (.if_icmp .ge (16), 3) := by decide +kernel
theorem d_S_addEntry_67 : decode prog_9_method_10_code 67 = .ok (.aload_n 0, 1) := by decide +kernel
theorem d_S_addEntry_68 : decode prog_9_method_10_code 68 = .ok (.iload_n 3, 1) := by decide +kernel
theorem d_S_addEntry_69 : decode prog_9_method_10_code 69 = .ok (.iload 4, 2) := by decide +kernel
theorem d_S_addEntry_71 : decode prog_9_method_10_code 71 = .ok (.invokevirtual 56, 3) := by decide +kernel
theorem d_S_addEntry_74 : decode prog_9_method_10_code 74 = .ok (.iinc 4 (1), 3) := by decide +kernel
theorem d_S_addEntry_77 : decode prog_9_method_10_code 77 = .ok (.goto (-16), 3) := by decide +kernel
theorem d_S_addEntry_80 : decode prog_9_method_10_code 80 = .ok (.iload_n 3, 1) := by decide +kernel
theorem d_S_addEntry_81 : decode prog_9_method_10_code 81 = .ok (.ireturn, 1) := by decide +kernel
def Y_S_addEntry : sdY := ("SettingsDesk$Settings", prog_9_method_10_code, 5, (some .int), .code y_S_addEntry prog_9_method_10_code 5 (some .int) :: sdB0, { frames := 2, cells := 0, slots := 0, locals := 40 }, 0, 0, [])
theorem cw_S_addEntry_S_endRow_40 : sd_cwV Y_S_addEntry Y_S_endRow y_S_endRow 40 1 "SettingsDesk$Settings" := ⟨sd_goodV q21 q23 q24 q7 q22, ⟨_, rfl⟩, ⟨rfl, rfl, rfl, rfl⟩, ⟨rfl, by decide, by decide, by decide +kernel⟩, ⟨by decide, by decide⟩⟩
theorem cw_S_addEntry_S_firstRow_36 : sd_cwV Y_S_addEntry Y_S_firstRow y_S_firstRow 36 1 "SettingsDesk$Settings" := ⟨sd_goodV q17 q19 q20 q7 q18, ⟨_, rfl⟩, ⟨rfl, rfl, rfl, rfl⟩, ⟨rfl, by decide, by decide, by decide +kernel⟩, ⟨by decide, by decide⟩⟩
theorem cw_S_addEntry_S_moveRow_52 : sd_cwV Y_S_addEntry Y_S_moveRow y_S_moveRow 52 2 "SettingsDesk$Settings" := ⟨sd_goodV q39 q41 q42 q7 q40, ⟨_, rfl⟩, ⟨rfl, rfl, rfl, rfl⟩, ⟨rfl, by decide, by decide, by decide +kernel⟩, ⟨by decide, by decide⟩⟩
theorem cw_S_addEntry_S_drop_56 : sd_cwV Y_S_addEntry Y_S_drop y_S_drop 56 2 "SettingsDesk$Settings" := ⟨sd_goodV q43 q45 q46 q7 q44, ⟨_, rfl⟩, ⟨rfl, rfl, rfl, rfl⟩, ⟨rfl, by decide, by decide, by decide +kernel⟩, ⟨by decide, by decide⟩⟩
section
variable {l : Launch} {D : va_G} {dA : Nat → ClassId} {b n : Nat} {ad : Nat → Nat} {L : Nat → sdL} {sc : Option (Nat × Nat × (Nat → Int32))}
def h_S_addEntry_61 (o : Nat) (Q : Int32 → sdM → Prop) : Nat → sdM → Int32 → Int32 → Prop
  | 0, _, _, _ => False
  | N + 1, M, x3, x4 => ((4 : Int32) ≤ x4 → Q x3 M) ∧ (¬ (4 : Int32) ≤ x4 → w_S_drop o M x3 x4 (fun M15 => h_S_addEntry_61 o Q N M15 x3 (x4 + 1)))
set_option maxHeartbeats 1000000 in
theorem t_S_addEntry_61 {o : Nat} (hA : sd_ad b n ad) (hT : l.stackTraces = false) (ho : isS n L dA o) {Q : Int32 → sdM → Prop} (N : Nat) : ∀ (M : sdM) (x3 : Int32) (x4 : Int32), h_S_addEntry_61 o Q N M x3 x4 → sdW l (sdE0 sc) Y_S_addEntry D (sd_tys dA) b n ad L ad (sd_H D (sdE0 sc).1 n ad L) (sd_qi Q) sd_xf 61 [(0, .ref o), (3, .int x3), (4, .int x4)] [] M 0 0 := by
  induction N with
  | zero => intro M x3 x4 hw; exact hw.elim
  | succ N ih =>
    intro M x3 x4 hw
    rw [h_S_addEntry_61] at hw
    refine x_iload 4 2 d_S_addEntry_61 rfl ?_
    refine x_iconst (v := 4) d_S_addEntry_63 (by decide) ?_
    refine x_icmp_ge 80 d_S_addEntry_64 rfl (fun hc => ?_) (fun hc => ?_)
    · have hw := hw.1 hc
      refine x_iload_n 3 1 d_S_addEntry_80 rfl rfl ?_
      exact x_iret d_S_addEntry_81 rfl (fun _ h => h) ⟨_, rfl, hw⟩
    · have hw := hw.2 hc
      refine x_aload_n 0 0 d_S_addEntry_67 rfl rfl ?_
      refine x_iload_n 3 1 d_S_addEntry_68 rfl rfl ?_
      refine x_iload 4 2 d_S_addEntry_69 rfl ?_
      refine x_callVv (As := [.int x3, .int x4]) (t := o) (rest := []) (rc := 0) (rs := 0) (c_S_drop hA hT ho hw) cw_S_addEntry_S_drop_56 ho.1 ho.2.1 rfl d_S_addEntry_71 rfl rfl (Nat.le_of_ble_eq_true rfl) rfl (fun _ _ h => h.elim) (fun _ _ h => h) (fun M15 hw => ?_)
      refine x_iinc 4 2 [(4, .int (x4 + 1)), (0, .ref o), (3, .int x3)] d_S_addEntry_74 rfl (congrArg (HAdd.hAdd x4) (show Int32.ofInt 1 = 1 by decide)) (by decide) rfl ?_
      refine x_goto 61 d_S_addEntry_77 rfl ?_
      refine x_sub [1, 2, 0] [(0, .ref o), (3, .int x3), (4, .int (x4 + 1))] rfl ?_
      exact ih M15 x3 (x4 + 1) hw
def k_S_addEntry_41 (o : Nat) (Q : Int32 → sdM → Prop) (M : sdM) (x1 : Int32) (x2 : Int32) (x3 : Int32) : Prop := vp_in x1 4 ∧ vp_in x1 4 ∧ ∀ M18 : sdM, M18 = sd_s M (o + 1) x1.toNatClampNeg ((M (o + 1) x1.toNatClampNeg) + (1 : Int32)) → vp_in x3 48 ∧ ∀ M21 : sdM, M21 = sd_s M18 (o + 2) x3.toNatClampNeg x2 → ∃ N9 : Nat, h_S_addEntry_61 o Q N9 M21 x3 (0 : Int32)
set_option maxHeartbeats 1000000 in
theorem t_S_addEntry_41 {o : Nat} (hA : sd_ad b n ad) (hT : l.stackTraces = false) (ho : isS n L dA o) {Q : Int32 → sdM → Prop} (M : sdM) (x1 : Int32) (x2 : Int32) (x3 : Int32) (hw : k_S_addEntry_41 o Q M x1 x2 x3) : sdW l (sdE0 sc) Y_S_addEntry D (sd_tys dA) b n ad L ad (sd_H D (sdE0 sc).1 n ad L) (sd_qi Q) sd_xf 41 [(0, .ref o), (1, .int x1), (2, .int x2), (3, .int x3)] [] M 0 0 := by
  unfold k_S_addEntry_41 at hw
  refine x_aload_n 0 0 d_S_addEntry_41 rfl rfl ?_
  refine x_getr 0 (o + 1) d_S_addEntry_42 ho.1 ho.2.1 rfl rfl (by decide) lay_S (List.mem_cons_of_mem _ q0) rfl ?_
  refine x_iload_n 1 1 d_S_addEntry_45 rfl rfl ?_
  refine x_dup2 d_S_addEntry_46 rfl rfl ?_
  obtain ⟨hi16, hw⟩ := hw
  refine x_iald d_S_addEntry_47 ho.counts.1 ho.counts.2 rfl hi16 ?_
  refine x_iconst (v := 1) d_S_addEntry_48 (by decide) ?_
  refine x_iadd d_S_addEntry_49 ?_
  obtain ⟨hi17, hw⟩ := hw
  refine x_iast hA d_S_addEntry_50 ho.counts.1 ho.counts.2 rfl hi17 (fun M18 e19 => ?_)
  have hw := hw M18 e19
  clear e19
  refine x_aload_n 0 0 d_S_addEntry_51 rfl rfl ?_
  refine x_getr 1 (o + 2) d_S_addEntry_52 ho.1 ho.2.1 rfl rfl (by decide) lay_S (List.mem_cons_of_mem _ q16) rfl ?_
  refine x_iload_n 3 3 d_S_addEntry_55 rfl rfl ?_
  refine x_iload_n 2 2 d_S_addEntry_56 rfl rfl ?_
  obtain ⟨hi20, hw⟩ := hw
  refine x_iast hA d_S_addEntry_57 ho.keys.1 ho.keys.2 rfl hi20 (fun M21 e22 => ?_)
  have hw := hw M21 e22
  clear e22
  refine x_iconst (v := 0) d_S_addEntry_58 (by decide) ?_
  refine x_istore 4 [(4, .int (0 : Int32)), (0, .ref o), (1, .int x1), (2, .int x2), (3, .int x3)] d_S_addEntry_59 (by decide) rfl ?_
  refine x_sub [1, 4, 0] [(0, .ref o), (3, .int x3), (4, .int (0 : Int32))] rfl ?_
  obtain ⟨N9, hw⟩ := hw
  exact t_S_addEntry_61 hA hT ho N9 M21 x3 (0 : Int32) hw
def h_S_addEntry_6 (o : Nat) (Q : Int32 → sdM → Prop) : Nat → sdM → Int32 → Int32 → Int32 → Prop
  | 0, _, _, _, _ => False
  | N + 1, M, x1, x2, x3 => w_S_firstRow o M x1 (fun r24 M23 => (x3 ≤ r24 → k_S_addEntry_41 o Q M23 x1 x2 x3) ∧ (¬ x3 ≤ r24 → vp_in (x3 - (1 : Int32)) 48 ∧ ((M23 (o + 2) (x3 - (1 : Int32)).toNatClampNeg) ≤ x2 → k_S_addEntry_41 o Q M23 x1 x2 x3) ∧ (¬ (M23 (o + 2) (x3 - (1 : Int32)).toNatClampNeg) ≤ x2 → w_S_moveRow o M23 (x3 - (1 : Int32)) x3 (fun M26 => h_S_addEntry_6 o Q N M26 x1 x2 (x3 + (-1))))))
set_option maxHeartbeats 1000000 in
theorem t_S_addEntry_6 {o : Nat} (hA : sd_ad b n ad) (hT : l.stackTraces = false) (ho : isS n L dA o) {Q : Int32 → sdM → Prop} (N : Nat) : ∀ (M : sdM) (x1 : Int32) (x2 : Int32) (x3 : Int32), h_S_addEntry_6 o Q N M x1 x2 x3 → sdW l (sdE0 sc) Y_S_addEntry D (sd_tys dA) b n ad L ad (sd_H D (sdE0 sc).1 n ad L) (sd_qi Q) sd_xf 6 [(0, .ref o), (1, .int x1), (2, .int x2), (3, .int x3)] [] M 0 0 := by
  induction N with
  | zero => intro M x1 x2 x3 hw; exact hw.elim
  | succ N ih =>
    intro M x1 x2 x3 hw
    rw [h_S_addEntry_6] at hw
    refine x_iload_n 3 3 d_S_addEntry_6 rfl rfl ?_
    refine x_aload_n 0 0 d_S_addEntry_7 rfl rfl ?_
    refine x_iload_n 1 1 d_S_addEntry_8 rfl rfl ?_
    refine x_callVi (As := [.int x1]) (t := o) (rest := [.int x3]) (rc := 0) (rs := 0) (c_S_firstRow hA hT ho hw) cw_S_addEntry_S_firstRow_36 ho.1 ho.2.1 rfl d_S_addEntry_9 rfl rfl (Nat.le_of_ble_eq_true rfl) rfl (fun _ _ h => h.elim) (fun _ _ h => h) (fun r24 M23 hw => ?_)
    refine x_icmp_le 41 d_S_addEntry_12 rfl (fun hc => ?_) (fun hc => ?_)
    · have hw := hw.1 hc
      exact t_S_addEntry_41 hA hT ho M23 x1 x2 x3 hw
    · have hw := hw.2 hc
      refine x_aload_n 0 0 d_S_addEntry_15 rfl rfl ?_
      refine x_getr 1 (o + 2) d_S_addEntry_16 ho.1 ho.2.1 rfl rfl (by decide) lay_S (List.mem_cons_of_mem _ q16) rfl ?_
      refine x_iload_n 3 3 d_S_addEntry_19 rfl rfl ?_
      refine x_iconst (v := 1) d_S_addEntry_20 (by decide) ?_
      refine x_isub d_S_addEntry_21 ?_
      obtain ⟨hi25, hw⟩ := hw
      refine x_iald d_S_addEntry_22 ho.keys.1 ho.keys.2 rfl hi25 ?_
      refine x_iload_n 2 2 d_S_addEntry_23 rfl rfl ?_
      refine x_icmp_le 41 d_S_addEntry_24 rfl (fun hc => ?_) (fun hc => ?_)
      · have hw := hw.1 hc
        exact t_S_addEntry_41 hA hT ho M23 x1 x2 x3 hw
      · have hw := hw.2 hc
        refine x_aload_n 0 0 d_S_addEntry_27 rfl rfl ?_
        refine x_iload_n 3 3 d_S_addEntry_28 rfl rfl ?_
        refine x_iconst (v := 1) d_S_addEntry_29 (by decide) ?_
        refine x_isub d_S_addEntry_30 ?_
        refine x_iload_n 3 3 d_S_addEntry_31 rfl rfl ?_
        refine x_callVv (As := [.int (x3 - (1 : Int32)), .int x3]) (t := o) (rest := []) (rc := 0) (rs := 0) (c_S_moveRow hA hT ho hw) cw_S_addEntry_S_moveRow_52 ho.1 ho.2.1 rfl d_S_addEntry_32 rfl rfl (Nat.le_of_ble_eq_true rfl) rfl (fun _ _ h => h.elim) (fun _ _ h => h) (fun M26 hw => ?_)
        refine x_iinc 3 3 [(3, .int (x3 + (-1))), (0, .ref o), (1, .int x1), (2, .int x2)] d_S_addEntry_35 rfl (congrArg (HAdd.hAdd x3) (show Int32.ofInt (-1) = (-1) by decide)) (by decide) rfl ?_
        refine x_goto 6 d_S_addEntry_38 rfl ?_
        refine x_sub [1, 2, 3, 0] [(0, .ref o), (1, .int x1), (2, .int x2), (3, .int (x3 + (-1)))] rfl ?_
        exact ih M26 x1 x2 (x3 + (-1)) hw
def w_S_addEntry (o : Nat) (M : sdM) (a1 : Int32) (a2 : Int32) (Q : Int32 → sdM → Prop) : Prop := w_S_endRow o M a1 (fun r28 M27 => ∃ N9 : Nat, h_S_addEntry_6 o Q N9 M27 a1 a2 r28)
set_option maxHeartbeats 1000000 in
theorem c_S_addEntry {a1 : Int32} {a2 : Int32} {o : Nat} (hA : sd_ad b n ad) (hT : l.stackTraces = false) (ho : isS n L dA o) {Q : Int32 → sdM → Prop} {M : sdM} (hw : w_S_addEntry o M a1 a2 Q) : sd_Cn l (sdE0 sc) y_S_addEntry Y_S_addEntry.2.2.2.2.1 Y_S_addEntry.2.2.2.2.2.1 0 0 D (sd_tys dA) b n ad L M [.ref o, .int a1, .int a2] (sd_qi Q) sd_xf := by
  refine sd_enter (Y := Y_S_addEntry) rfl rfl rfl rfl (Nat.le_of_ble_eq_true rfl) ?_
  show sdW l (sdE0 sc) Y_S_addEntry D (sd_tys dA) b n ad L ad (sd_H D (sdE0 sc).1 n ad L) (sd_qi Q) sd_xf 0 [(0, .ref o), (1, .int a1), (2, .int a2)] [] M 0 0
  unfold w_S_addEntry at hw
  refine x_aload_n 0 0 d_S_addEntry_0 rfl rfl ?_
  refine x_iload_n 1 1 d_S_addEntry_1 rfl rfl ?_
  refine x_callVi (As := [.int a1]) (t := o) (rest := []) (rc := 0) (rs := 0) (c_S_endRow hA hT ho hw) cw_S_addEntry_S_endRow_40 ho.1 ho.2.1 rfl d_S_addEntry_2 rfl rfl (Nat.le_of_ble_eq_true rfl) rfl (fun _ _ h => h.elim) (fun _ _ h => h) (fun r28 M27 hw => ?_)
  refine x_istore_n 3 [(3, .int r28), (0, .ref o), (1, .int a1), (2, .int a2)] d_S_addEntry_5 rfl (by decide) rfl ?_
  refine x_sub [1, 2, 3, 0] [(0, .ref o), (1, .int a1), (2, .int a2), (3, .int r28)] rfl ?_
  obtain ⟨N9, hw⟩ := hw
  exact t_S_addEntry_6 hA hT ho N9 M27 a1 a2 r28 hw
end
abbrev y_S_give : MethodName := ⟨"SettingsDesk$Settings", "give", "(III)V"⟩
theorem d_S_give_0 : decode prog_9_method_14_code 0 = .ok (.aload_n 0, 1) := by decide +kernel
theorem d_S_give_1 : decode prog_9_method_14_code 1 = .ok (.getfield 21, 3) := by decide +kernel
theorem d_S_give_4 : decode prog_9_method_14_code 4 = .ok (.iload_n 1, 1) := by decide +kernel
theorem d_S_give_5 : decode prog_9_method_14_code 5 = .ok (.dup2, 1) := by decide +kernel
theorem d_S_give_6 : decode prog_9_method_14_code 6 = .ok (.iaload, 1) := by decide +kernel
theorem d_S_give_7 : decode prog_9_method_14_code 7 = .ok (.iconst 1, 1) := by decide +kernel
theorem d_S_give_8 : decode prog_9_method_14_code 8 = .ok (.iload_n 2, 1) := by decide +kernel
theorem d_S_give_9 : decode prog_9_method_14_code 9 = .ok (.ishl, 1) := by decide +kernel
theorem d_S_give_10 : decode prog_9_method_14_code 10 = .ok (.ior, 1) := by decide +kernel
theorem d_S_give_11 : decode prog_9_method_14_code 11 = .ok (.iastore, 1) := by decide +kernel
theorem d_S_give_12 : decode prog_9_method_14_code 12 = .ok (.aload_n 0, 1) := by decide +kernel
theorem d_S_give_13 : decode prog_9_method_14_code 13 = .ok (.getfield 18, 3) := by decide +kernel
theorem d_S_give_16 : decode prog_9_method_14_code 16 = .ok (.iload_n 1, 1) := by decide +kernel
theorem d_S_give_17 : decode prog_9_method_14_code 17 = .ok (.iconst 4, 1) := by decide +kernel
theorem d_S_give_18 : decode prog_9_method_14_code 18 = .ok (.imul, 1) := by decide +kernel
theorem d_S_give_19 : decode prog_9_method_14_code 19 = .ok (.iload_n 2, 1) := by decide +kernel
theorem d_S_give_20 : decode prog_9_method_14_code 20 = .ok (.iadd, 1) := by decide +kernel
theorem d_S_give_21 : decode prog_9_method_14_code 21 = .ok (.iload_n 3, 1) := by decide +kernel
theorem d_S_give_22 : decode prog_9_method_14_code 22 = .ok (.iastore, 1) := by decide +kernel
theorem d_S_give_23 : decode prog_9_method_14_code 23 = .ok (.return_, 1) := by decide +kernel
def Y_S_give : sdY := ("SettingsDesk$Settings", prog_9_method_14_code, 4, none, .code y_S_give prog_9_method_14_code 4 none :: sdB0, { frames := 0, cells := 0, slots := 0, locals := 0 }, 0, 0, [])
section
variable {l : Launch} {D : va_G} {dA : Nat → ClassId} {b n : Nat} {ad : Nat → Nat} {L : Nat → sdL} {sc : Option (Nat × Nat × (Nat → Int32))}
def w_S_give (o : Nat) (M : sdM) (a1 : Int32) (a2 : Int32) (a3 : Int32) (Q : sdM → Prop) : Prop := vp_in a1 48 ∧ vp_in a1 48 ∧ ∀ M10 : sdM, M10 = sd_s M (o + 4) a1.toNatClampNeg ((M (o + 4) a1.toNatClampNeg) ||| ((1 : Int32) <<< (a2 &&& 31))) → vp_in ((a1 * (4 : Int32)) + a2) 192 ∧ ∀ M13 : sdM, M13 = sd_s M10 (o + 3) ((a1 * (4 : Int32)) + a2).toNatClampNeg a3 → Q M13
set_option maxHeartbeats 1000000 in
theorem c_S_give {a1 : Int32} {a2 : Int32} {a3 : Int32} {o : Nat} (hA : sd_ad b n ad) (hT : l.stackTraces = false) (ho : isS n L dA o) {Q : sdM → Prop} {M : sdM} (hw : w_S_give o M a1 a2 a3 Q) : sd_Cn l (sdE0 sc) y_S_give Y_S_give.2.2.2.2.1 Y_S_give.2.2.2.2.2.1 0 0 D (sd_tys dA) b n ad L M [.ref o, .int a1, .int a2, .int a3] (sd_qv Q) sd_xf := by
  refine sd_enter (Y := Y_S_give) rfl rfl rfl rfl (Nat.le_of_ble_eq_true rfl) ?_
  show sdW l (sdE0 sc) Y_S_give D (sd_tys dA) b n ad L ad (sd_H D (sdE0 sc).1 n ad L) (sd_qv Q) sd_xf 0 [(0, .ref o), (1, .int a1), (2, .int a2), (3, .int a3)] [] M 0 0
  unfold w_S_give at hw
  refine x_aload_n 0 0 d_S_give_0 rfl rfl ?_
  refine x_getr 3 (o + 4) d_S_give_1 ho.1 ho.2.1 rfl rfl (by decide) lay_S (List.mem_cons_of_mem _ q1) rfl ?_
  refine x_iload_n 1 1 d_S_give_4 rfl rfl ?_
  refine x_dup2 d_S_give_5 rfl rfl ?_
  obtain ⟨hi8, hw⟩ := hw
  refine x_iald d_S_give_6 ho.given.1 ho.given.2 rfl hi8 ?_
  refine x_iconst (v := 1) d_S_give_7 (by decide) ?_
  refine x_iload_n 2 2 d_S_give_8 rfl rfl ?_
  refine x_ishl d_S_give_9 ?_
  refine x_ior d_S_give_10 ?_
  obtain ⟨hi9, hw⟩ := hw
  refine x_iast hA d_S_give_11 ho.given.1 ho.given.2 rfl hi9 (fun M10 e11 => ?_)
  have hw := hw M10 e11
  clear e11
  refine x_aload_n 0 0 d_S_give_12 rfl rfl ?_
  refine x_getr 2 (o + 3) d_S_give_13 ho.1 ho.2.1 rfl rfl (by decide) lay_S (List.mem_cons_of_mem _ q2) rfl ?_
  refine x_iload_n 1 1 d_S_give_16 rfl rfl ?_
  refine x_iconst (v := 4) d_S_give_17 (by decide) ?_
  refine x_imul d_S_give_18 ?_
  refine x_iload_n 2 2 d_S_give_19 rfl rfl ?_
  refine x_iadd d_S_give_20 ?_
  refine x_iload_n 3 3 d_S_give_21 rfl rfl ?_
  obtain ⟨hi12, hw⟩ := hw
  refine x_iast hA d_S_give_22 ho.values.1 ho.values.2 rfl hi12 (fun M13 e14 => ?_)
  have hw := hw M13 e14
  clear e14
  exact x_vret d_S_give_23 rfl (fun _ h => h) ⟨rfl, hw⟩
end
abbrev y_JA_fill : MethodName := ⟨"java/util/Arrays", "fill", "([II)V"⟩
theorem d_JA_fill_0 : decode prog_23_method_103_code 0 = .ok (.iconst 0, 1) := by decide +kernel
theorem d_JA_fill_1 : decode prog_23_method_103_code 1 = .ok (.istore_n 2, 1) := by decide +kernel
theorem d_JA_fill_2 : decode prog_23_method_103_code 2 = .ok (.aload_n 0, 1) := by decide +kernel
theorem d_JA_fill_3 : decode prog_23_method_103_code 3 = .ok (.arraylength, 1) := by decide +kernel
theorem d_JA_fill_4 : decode prog_23_method_103_code 4 = .ok (.istore_n 3, 1) := by decide +kernel
theorem d_JA_fill_5 : decode prog_23_method_103_code 5 = .ok (.iload_n 2, 1) := by decide +kernel
theorem d_JA_fill_6 : decode prog_23_method_103_code 6 = .ok (.iload_n 3, 1) := by decide +kernel
theorem d_JA_fill_7 : decode prog_23_method_103_code 7 = .ok (.if_icmp .ge (13), 3) := by decide +kernel
theorem d_JA_fill_10 : decode prog_23_method_103_code 10 = .ok (.aload_n 0, 1) := by decide +kernel
theorem d_JA_fill_11 : decode prog_23_method_103_code 11 = .ok (.iload_n 2, 1) := by decide +kernel
theorem d_JA_fill_12 : decode prog_23_method_103_code 12 = .ok (.iload_n 1, 1) := by decide +kernel
theorem d_JA_fill_13 : decode prog_23_method_103_code 13 = .ok (.iastore, 1) := by decide +kernel
theorem d_JA_fill_14 : decode prog_23_method_103_code 14 = .ok (.iinc 2 (1), 3) := by decide +kernel
theorem d_JA_fill_17 : decode prog_23_method_103_code 17 = .ok (.goto (-12), 3) := by decide +kernel
theorem d_JA_fill_20 : decode prog_23_method_103_code 20 = .ok (.return_, 1) := by decide +kernel
def Y_JA_fill : sdY := ("java/util/Arrays", prog_23_method_103_code, 4, none, .code y_JA_fill prog_23_method_103_code 4 none :: sdB0, { frames := 0, cells := 0, slots := 0, locals := 0 }, 0, 0, [])
section
variable {l : Launch} {D : va_G} {dA : Nat → ClassId} {b n : Nat} {ad : Nat → Nat} {L : Nat → sdL} {sc : Option (Nat × Nat × (Nat → Int32))}
def h_JA_fill_5 (Q : sdM → Prop) : Nat → sdM → Nat → Int32 → Int32 → Int32 → Prop
  | 0, _, _, _, _, _ => False
  | N + 1, M, o0, x1, x2, x3 => (x3 ≤ x2 → Q M) ∧ (¬ x3 ≤ x2 → vp_in x2 4 ∧ ∀ M5 : sdM, M5 = sd_s M o0 x2.toNatClampNeg x1 → h_JA_fill_5 Q N M5 o0 x1 (x2 + 1) x3)
set_option maxHeartbeats 1000000 in
theorem t_JA_fill_5 (hA : sd_ad b n ad) (hT : l.stackTraces = false) {Q : sdM → Prop} (N : Nat) : ∀ (M : sdM) (o0 : Nat) (x1 : Int32) (x2 : Int32) (x3 : Int32) (ho0 : isI n L (dA 0) o0 4), h_JA_fill_5 Q N M o0 x1 x2 x3 → sdW l (sdE0 sc) Y_JA_fill D (sd_tys dA) b n ad L ad (sd_H D (sdE0 sc).1 n ad L) (sd_qv Q) sd_xf 5 [(0, .ref o0), (1, .int x1), (2, .int x2), (3, .int x3)] [] M 0 0 := by
  induction N with
  | zero => intro M o0 x1 x2 x3 ho0 hw; exact hw.elim
  | succ N ih =>
    intro M o0 x1 x2 x3 ho0 hw
    rw [h_JA_fill_5] at hw
    refine x_iload_n 2 2 d_JA_fill_5 rfl rfl ?_
    refine x_iload_n 3 3 d_JA_fill_6 rfl rfl ?_
    refine x_icmp_ge 20 d_JA_fill_7 rfl (fun hc => ?_) (fun hc => ?_)
    · have hw := hw.1 hc
      exact x_vret d_JA_fill_20 rfl (fun _ h => h) ⟨rfl, hw⟩
    · have hw := hw.2 hc
      refine x_aload_n 0 0 d_JA_fill_10 rfl rfl ?_
      refine x_iload_n 2 2 d_JA_fill_11 rfl rfl ?_
      refine x_iload_n 1 1 d_JA_fill_12 rfl rfl ?_
      obtain ⟨hi4, hw⟩ := hw
      refine x_iast hA d_JA_fill_13 ho0.1 ho0.2 rfl hi4 (fun M5 e6 => ?_)
      have hw := hw M5 e6
      clear e6
      refine x_iinc 2 2 [(2, .int (x2 + 1)), (0, .ref o0), (1, .int x1), (3, .int x3)] d_JA_fill_14 rfl (congrArg (HAdd.hAdd x2) (show Int32.ofInt 1 = 1 by decide)) (by decide) rfl ?_
      refine x_goto 5 d_JA_fill_17 rfl ?_
      refine x_sub [1, 2, 0, 3] [(0, .ref o0), (1, .int x1), (2, .int (x2 + 1)), (3, .int x3)] rfl ?_
      exact ih M5 o0 x1 (x2 + 1) x3 ho0 hw
def w_JA_fill (M : sdM) (p0 : Nat) (a1 : Int32) (Q : sdM → Prop) : Prop := ∃ N9 : Nat, h_JA_fill_5 Q N9 M p0 a1 (0 : Int32) (4 : Int32)
set_option maxHeartbeats 1000000 in
theorem c_JA_fill {p0 : Nat} {a1 : Int32} (hA : sd_ad b n ad) (hT : l.stackTraces = false) (hp0 : isI n L (dA 0) p0 4) {Q : sdM → Prop} {M : sdM} (hw : w_JA_fill M p0 a1 Q) : sd_Cn l (sdE0 sc) y_JA_fill Y_JA_fill.2.2.2.2.1 Y_JA_fill.2.2.2.2.2.1 0 0 D (sd_tys dA) b n ad L M [.ref p0, .int a1] (sd_qv Q) sd_xf := by
  refine sd_enter (Y := Y_JA_fill) rfl (by decide +kernel) rfl rfl (Nat.le_of_ble_eq_true rfl) ?_
  show sdW l (sdE0 sc) Y_JA_fill D (sd_tys dA) b n ad L ad (sd_H D (sdE0 sc).1 n ad L) (sd_qv Q) sd_xf 0 [(0, .ref p0), (1, .int a1)] [] M 0 0
  unfold w_JA_fill at hw
  refine x_iconst (v := 0) d_JA_fill_0 (by decide) ?_
  refine x_istore_n 2 [(2, .int (0 : Int32)), (0, .ref p0), (1, .int a1)] d_JA_fill_1 rfl (by decide) rfl ?_
  refine x_aload_n 0 1 d_JA_fill_2 rfl rfl ?_
  refine x_alen (v := 4) d_JA_fill_3 hp0.1 hp0.2 rfl (by decide) ?_
  refine x_istore_n 3 [(3, .int (4 : Int32)), (2, .int (0 : Int32)), (0, .ref p0), (1, .int a1)] d_JA_fill_4 rfl (by decide) rfl ?_
  refine x_sub [2, 3, 1, 0] [(0, .ref p0), (1, .int a1), (2, .int (0 : Int32)), (3, .int (4 : Int32))] rfl ?_
  obtain ⟨N9, hw⟩ := hw
  exact t_JA_fill_5 hA hT N9 M p0 a1 (0 : Int32) (4 : Int32) hp0 hw
end
theorem q47 : (.methodLink "SettingsDesk$Settings" 30 ⟨"java/util/Arrays", "fill", "([II)V"⟩ : Cond) ∈ sdB0 := sd_tb4 0 rfl rfl
theorem q48 : (.code ⟨"java/util/Arrays", "fill", "([II)V"⟩ prog_23_method_103_code 4 none : Cond) ∈ sdB0 := sd_tb4 2 rfl rfl
theorem q49 : (.static ⟨"java/util/Arrays", "fill", "([II)V"⟩ : Cond) ∈ sdB0 := sd_tb4 1 rfl rfl
theorem q50 : (.initialized "java/util/Arrays" : Cond) ∈ sdB0 := sd_tb1 19 rfl rfl
abbrev y_S_removeAll : MethodName := ⟨"SettingsDesk$Settings", "removeAll", "()V"⟩
theorem d_S_removeAll_0 : decode prog_9_method_3_code 0 = .ok (.aload_n 0, 1) := by decide +kernel
theorem d_S_removeAll_1 : decode prog_9_method_3_code 1 = .ok (.getfield 9, 3) := by decide +kernel
theorem d_S_removeAll_4 : decode prog_9_method_3_code 4 = .ok (.iconst 0, 1) := by decide +kernel
theorem d_S_removeAll_5 : decode prog_9_method_3_code 5 = .ok (.invokestatic 30, 3) := by decide +kernel
theorem d_S_removeAll_8 : decode prog_9_method_3_code 8 = .ok (.return_, 1) := by decide +kernel
def Y_S_removeAll : sdY := ("SettingsDesk$Settings", prog_9_method_3_code, 1, none, .code y_S_removeAll prog_9_method_3_code 1 none :: sdB0, { frames := 1, cells := 0, slots := 0, locals := 23 }, 0, 0, [])
theorem cw_S_removeAll_JA_fill_30 : sd_cwS Y_S_removeAll Y_JA_fill y_JA_fill 30 2 := ⟨sd_goodS q47 q49 q50 q48, ⟨_, rfl⟩, ⟨rfl, rfl, rfl, rfl⟩, ⟨by decide, by decide, by decide +kernel⟩, ⟨by decide, by decide⟩⟩
section
variable {l : Launch} {D : va_G} {dA : Nat → ClassId} {b n : Nat} {ad : Nat → Nat} {L : Nat → sdL} {sc : Option (Nat × Nat × (Nat → Int32))}
def w_S_removeAll (o : Nat) (M : sdM) (Q : sdM → Prop) : Prop := w_JA_fill M (o + 1) (0 : Int32) (fun M2 => Q M2)
set_option maxHeartbeats 1000000 in
theorem c_S_removeAll {o : Nat} (hA : sd_ad b n ad) (hT : l.stackTraces = false) (ho : isS n L dA o) {Q : sdM → Prop} {M : sdM} (hw : w_S_removeAll o M Q) : sd_Cn l (sdE0 sc) y_S_removeAll Y_S_removeAll.2.2.2.2.1 Y_S_removeAll.2.2.2.2.2.1 0 0 D (sd_tys dA) b n ad L M [.ref o] (sd_qv Q) sd_xf := by
  refine sd_enter (Y := Y_S_removeAll) rfl rfl rfl rfl (Nat.le_of_ble_eq_true rfl) ?_
  show sdW l (sdE0 sc) Y_S_removeAll D (sd_tys dA) b n ad L ad (sd_H D (sdE0 sc).1 n ad L) (sd_qv Q) sd_xf 0 [(0, .ref o)] [] M 0 0
  unfold w_S_removeAll at hw
  refine x_aload_n 0 0 d_S_removeAll_0 rfl rfl ?_
  refine x_getr 0 (o + 1) d_S_removeAll_1 ho.1 ho.2.1 rfl rfl (by decide) lay_S (List.mem_cons_of_mem _ q0) rfl ?_
  refine x_iconst (v := 0) d_S_removeAll_4 (by decide) ?_
  refine x_callSv (As := [.ref (o + 1), .int (0 : Int32)]) (rest := []) (rc := 0) (rs := 0) (c_JA_fill hA hT ho.counts hw) cw_S_removeAll_JA_fill_30 d_S_removeAll_5 rfl rfl (Nat.le_of_ble_eq_true rfl) rfl (fun _ _ h => h.elim) (fun _ _ h => h) (fun M2 hw => ?_)
  exact x_vret d_S_removeAll_8 rfl (fun _ h => h) ⟨rfl, hw⟩
end
abbrev y_S_keyAfter : MethodName := ⟨"SettingsDesk$Settings", "keyAfter", "(II)I"⟩
theorem d_S_keyAfter_0 : decode prog_9_method_7_code 0 = .ok (.aload_n 0, 1) := by decide +kernel
theorem d_S_keyAfter_1 : decode prog_9_method_7_code 1 = .ok (.iload_n 1, 1) := by decide +kernel
theorem d_S_keyAfter_2 : decode prog_9_method_7_code 2 = .ok (.invokevirtual 36, 3) := by decide +kernel
theorem d_S_keyAfter_5 : decode prog_9_method_7_code 5 = .ok (.istore_n 3, 1) := by decide +kernel
theorem d_S_keyAfter_6 : decode prog_9_method_7_code 6 = .ok (.iload_n 3, 1) := by decide +kernel
theorem d_S_keyAfter_7 : decode prog_9_method_7_code 7 = .ok (.aload_n 0, 1) := by decide +kernel
theorem d_S_keyAfter_8 : decode prog_9_method_7_code 8 = .ok (.iload_n 1, 1) := by decide +kernel
theorem d_S_keyAfter_9 : decode prog_9_method_7_code 9 = .ok (.invokevirtual 40, 3) := by decide +kernel
theorem d_S_keyAfter_12 : decode prog_9_method_7_code 12 = .ok (.if_icmp .ge (26), 3) := by decide +kernel
theorem d_S_keyAfter_15 : decode prog_9_method_7_code 15 = .ok (.aload_n 0, 1) := by decide +kernel
theorem d_S_keyAfter_16 : decode prog_9_method_7_code 16 = .ok (.getfield 15, 3) := by decide +kernel
theorem d_S_keyAfter_19 : decode prog_9_method_7_code 19 = .ok (.iload_n 3, 1) := by decide +kernel
theorem d_S_keyAfter_20 : decode prog_9_method_7_code 20 = .ok (.iaload, 1) := by decide +kernel
theorem d_S_keyAfter_21 : decode prog_9_method_7_code 21 = .ok (.iload_n 2, 1) := by decide +kernel
theorem d_S_keyAfter_22 : decode prog_9_method_7_code 22 = .ok (.if_icmp .le (10), 3) := by decide +kernel
theorem d_S_keyAfter_25 : decode prog_9_method_7_code 25 = .ok (.aload_n 0, 1) := by decide +kernel
theorem d_S_keyAfter_26 : decode prog_9_method_7_code 26 = .ok (.getfield 15, 3) := by decide +kernel
theorem d_S_keyAfter_29 : decode prog_9_method_7_code 29 = .ok (.iload_n 3, 1) := by decide +kernel
theorem d_S_keyAfter_30 : decode prog_9_method_7_code 30 = .ok (.iaload, 1) := by decide +kernel
theorem d_S_keyAfter_31 : decode prog_9_method_7_code 31 = .ok (.ireturn, 1) := by decide +kernel
theorem d_S_keyAfter_32 : decode prog_9_method_7_code 32 = .ok (.iinc 3 (1), 3) := by decide +kernel
theorem d_S_keyAfter_35 : decode prog_9_method_7_code 35 = .ok (.goto (-29), 3) := by decide +kernel
theorem d_S_keyAfter_38 : decode prog_9_method_7_code 38 = .ok (.bipush (101), 2) := by decide +kernel
theorem d_S_keyAfter_40 : decode prog_9_method_7_code 40 = .ok (.ireturn, 1) := by decide +kernel
def Y_S_keyAfter : sdY := ("SettingsDesk$Settings", prog_9_method_7_code, 4, (some .int), .code y_S_keyAfter prog_9_method_7_code 4 (some .int) :: sdB0, { frames := 1, cells := 0, slots := 0, locals := 21 }, 0, 0, [])
theorem cw_S_keyAfter_S_firstRow_36 : sd_cwV Y_S_keyAfter Y_S_firstRow y_S_firstRow 36 1 "SettingsDesk$Settings" := ⟨sd_goodV q17 q19 q20 q7 q18, ⟨_, rfl⟩, ⟨rfl, rfl, rfl, rfl⟩, ⟨rfl, by decide, by decide, by decide +kernel⟩, ⟨by decide, by decide⟩⟩
theorem cw_S_keyAfter_S_endRow_40 : sd_cwV Y_S_keyAfter Y_S_endRow y_S_endRow 40 1 "SettingsDesk$Settings" := ⟨sd_goodV q21 q23 q24 q7 q22, ⟨_, rfl⟩, ⟨rfl, rfl, rfl, rfl⟩, ⟨rfl, by decide, by decide, by decide +kernel⟩, ⟨by decide, by decide⟩⟩
section
variable {l : Launch} {D : va_G} {dA : Nat → ClassId} {b n : Nat} {ad : Nat → Nat} {L : Nat → sdL} {sc : Option (Nat × Nat × (Nat → Int32))}
def h_S_keyAfter_6 (o : Nat) (Q : Int32 → sdM → Prop) : Nat → sdM → Int32 → Int32 → Int32 → Prop
  | 0, _, _, _, _ => False
  | N + 1, M, x1, x2, x3 => w_S_endRow o M x1 (fun r8 M7 => (r8 ≤ x3 → Q (101 : Int32) M7) ∧ (¬ r8 ≤ x3 → vp_in x3 48 ∧ ((M7 (o + 2) x3.toNatClampNeg) ≤ x2 → h_S_keyAfter_6 o Q N M7 x1 x2 (x3 + 1)) ∧ (¬ (M7 (o + 2) x3.toNatClampNeg) ≤ x2 → vp_in x3 48 ∧ Q (M7 (o + 2) x3.toNatClampNeg) M7)))
set_option maxHeartbeats 1000000 in
theorem t_S_keyAfter_6 {o : Nat} (hA : sd_ad b n ad) (hT : l.stackTraces = false) (ho : isS n L dA o) {Q : Int32 → sdM → Prop} (N : Nat) : ∀ (M : sdM) (x1 : Int32) (x2 : Int32) (x3 : Int32), h_S_keyAfter_6 o Q N M x1 x2 x3 → sdW l (sdE0 sc) Y_S_keyAfter D (sd_tys dA) b n ad L ad (sd_H D (sdE0 sc).1 n ad L) (sd_qi Q) sd_xf 6 [(0, .ref o), (1, .int x1), (2, .int x2), (3, .int x3)] [] M 0 0 := by
  induction N with
  | zero => intro M x1 x2 x3 hw; exact hw.elim
  | succ N ih =>
    intro M x1 x2 x3 hw
    rw [h_S_keyAfter_6] at hw
    refine x_iload_n 3 3 d_S_keyAfter_6 rfl rfl ?_
    refine x_aload_n 0 0 d_S_keyAfter_7 rfl rfl ?_
    refine x_iload_n 1 1 d_S_keyAfter_8 rfl rfl ?_
    refine x_callVi (As := [.int x1]) (t := o) (rest := [.int x3]) (rc := 0) (rs := 0) (c_S_endRow hA hT ho hw) cw_S_keyAfter_S_endRow_40 ho.1 ho.2.1 rfl d_S_keyAfter_9 rfl rfl (Nat.le_of_ble_eq_true rfl) rfl (fun _ _ h => h.elim) (fun _ _ h => h) (fun r8 M7 hw => ?_)
    refine x_icmp_ge 38 d_S_keyAfter_12 rfl (fun hc => ?_) (fun hc => ?_)
    · have hw := hw.1 hc
      refine x_bipush (v := 101) d_S_keyAfter_38 (by decide) ?_
      exact x_iret d_S_keyAfter_40 rfl (fun _ h => h) ⟨_, rfl, hw⟩
    · have hw := hw.2 hc
      refine x_aload_n 0 0 d_S_keyAfter_15 rfl rfl ?_
      refine x_getr 1 (o + 2) d_S_keyAfter_16 ho.1 ho.2.1 rfl rfl (by decide) lay_S (List.mem_cons_of_mem _ q16) rfl ?_
      refine x_iload_n 3 3 d_S_keyAfter_19 rfl rfl ?_
      obtain ⟨hi9, hw⟩ := hw
      refine x_iald d_S_keyAfter_20 ho.keys.1 ho.keys.2 rfl hi9 ?_
      refine x_iload_n 2 2 d_S_keyAfter_21 rfl rfl ?_
      refine x_icmp_le 32 d_S_keyAfter_22 rfl (fun hc => ?_) (fun hc => ?_)
      · have hw := hw.1 hc
        refine x_iinc 3 3 [(3, .int (x3 + 1)), (0, .ref o), (1, .int x1), (2, .int x2)] d_S_keyAfter_32 rfl (congrArg (HAdd.hAdd x3) (show Int32.ofInt 1 = 1 by decide)) (by decide) rfl ?_
        refine x_goto 6 d_S_keyAfter_35 rfl ?_
        refine x_sub [1, 2, 3, 0] [(0, .ref o), (1, .int x1), (2, .int x2), (3, .int (x3 + 1))] rfl ?_
        exact ih M7 x1 x2 (x3 + 1) hw
      · have hw := hw.2 hc
        refine x_aload_n 0 0 d_S_keyAfter_25 rfl rfl ?_
        refine x_getr 1 (o + 2) d_S_keyAfter_26 ho.1 ho.2.1 rfl rfl (by decide) lay_S (List.mem_cons_of_mem _ q16) rfl ?_
        refine x_iload_n 3 3 d_S_keyAfter_29 rfl rfl ?_
        obtain ⟨hi10, hw⟩ := hw
        refine x_iald d_S_keyAfter_30 ho.keys.1 ho.keys.2 rfl hi10 ?_
        exact x_iret d_S_keyAfter_31 rfl (fun _ h => h) ⟨_, rfl, hw⟩
def w_S_keyAfter (o : Nat) (M : sdM) (a1 : Int32) (a2 : Int32) (Q : Int32 → sdM → Prop) : Prop := w_S_firstRow o M a1 (fun r12 M11 => ∃ N9 : Nat, h_S_keyAfter_6 o Q N9 M11 a1 a2 r12)
set_option maxHeartbeats 1000000 in
theorem c_S_keyAfter {a1 : Int32} {a2 : Int32} {o : Nat} (hA : sd_ad b n ad) (hT : l.stackTraces = false) (ho : isS n L dA o) {Q : Int32 → sdM → Prop} {M : sdM} (hw : w_S_keyAfter o M a1 a2 Q) : sd_Cn l (sdE0 sc) y_S_keyAfter Y_S_keyAfter.2.2.2.2.1 Y_S_keyAfter.2.2.2.2.2.1 0 0 D (sd_tys dA) b n ad L M [.ref o, .int a1, .int a2] (sd_qi Q) sd_xf := by
  refine sd_enter (Y := Y_S_keyAfter) rfl rfl rfl rfl (Nat.le_of_ble_eq_true rfl) ?_
  show sdW l (sdE0 sc) Y_S_keyAfter D (sd_tys dA) b n ad L ad (sd_H D (sdE0 sc).1 n ad L) (sd_qi Q) sd_xf 0 [(0, .ref o), (1, .int a1), (2, .int a2)] [] M 0 0
  unfold w_S_keyAfter at hw
  refine x_aload_n 0 0 d_S_keyAfter_0 rfl rfl ?_
  refine x_iload_n 1 1 d_S_keyAfter_1 rfl rfl ?_
  refine x_callVi (As := [.int a1]) (t := o) (rest := []) (rc := 0) (rs := 0) (c_S_firstRow hA hT ho hw) cw_S_keyAfter_S_firstRow_36 ho.1 ho.2.1 rfl d_S_keyAfter_2 rfl rfl (Nat.le_of_ble_eq_true rfl) rfl (fun _ _ h => h.elim) (fun _ _ h => h) (fun r12 M11 hw => ?_)
  refine x_istore_n 3 [(3, .int r12), (0, .ref o), (1, .int a1), (2, .int a2)] d_S_keyAfter_5 rfl (by decide) rfl ?_
  refine x_sub [1, 2, 3, 0] [(0, .ref o), (1, .int a1), (2, .int a2), (3, .int r12)] rfl ?_
  obtain ⟨N9, hw⟩ := hw
  exact t_S_keyAfter_6 hA hT ho N9 M11 a1 a2 r12 hw
end
theorem q51 : (.methodLink "SettingsDesk$Settings" 43 ⟨"SettingsDesk$Settings", "keyAfter", "(II)I"⟩ : Cond) ∈ sdB0 := sd_tb4 11 rfl rfl
theorem q52 : (.code ⟨"SettingsDesk$Settings", "keyAfter", "(II)I"⟩ prog_9_method_7_code 4 (some .int) : Cond) ∈ sdB0 := sd_tb4 14 rfl rfl
theorem q53 : (.instanceMethod ⟨"SettingsDesk$Settings", "keyAfter", "(II)I"⟩ : Cond) ∈ sdB0 := sd_tb4 12 rfl rfl
theorem q54 : (.selects "SettingsDesk$Settings" ⟨"SettingsDesk$Settings", "keyAfter", "(II)I"⟩ ⟨"SettingsDesk$Settings", "keyAfter", "(II)I"⟩ : Cond) ∈ sdB0 := sd_tb4 13 rfl rfl
theorem q55 : (.methodLink "SettingsDesk$Settings" 47 ⟨"java/lang/Math", "min", "(II)I"⟩ : Cond) ∈ sdB0 := sd_tb4 15 rfl rfl
theorem q56 : (.code ⟨"java/lang/Math", "min", "(II)I"⟩ prog_17_method_69_code 2 (some .int) : Cond) ∈ sdB0 := sd_tb2 57 rfl rfl
theorem q57 : (.static ⟨"java/lang/Math", "min", "(II)I"⟩ : Cond) ∈ sdB0 := sd_tb2 56 rfl rfl
theorem q58 : (.initialized "java/lang/Math" : Cond) ∈ sdB0 := sd_tb1 20 rfl rfl
abbrev y_S_keyAfterInEither : MethodName := ⟨"SettingsDesk$Settings", "keyAfterInEither", "(LSettingsDesk$Settings;II)I"⟩
theorem d_S_keyAfterInEither_0 : decode prog_9_method_8_code 0 = .ok (.aload_n 0, 1) := by decide +kernel
theorem d_S_keyAfterInEither_1 : decode prog_9_method_8_code 1 = .ok (.iload_n 2, 1) := by decide +kernel
theorem d_S_keyAfterInEither_2 : decode prog_9_method_8_code 2 = .ok (.iload_n 3, 1) := by decide +kernel
theorem d_S_keyAfterInEither_3 : decode prog_9_method_8_code 3 = .ok (.invokevirtual 43, 3) := by decide +kernel
theorem d_S_keyAfterInEither_6 : decode prog_9_method_8_code 6 = .ok (.aload_n 1, 1) := by decide +kernel
theorem d_S_keyAfterInEither_7 : decode prog_9_method_8_code 7 = .ok (.iload_n 2, 1) := by decide +kernel
theorem d_S_keyAfterInEither_8 : decode prog_9_method_8_code 8 = .ok (.iload_n 3, 1) := by decide +kernel
theorem d_S_keyAfterInEither_9 : decode prog_9_method_8_code 9 = .ok (.invokevirtual 43, 3) := by decide +kernel
theorem d_S_keyAfterInEither_12 : decode prog_9_method_8_code 12 = .ok (.invokestatic 47, 3) := by decide +kernel
theorem d_S_keyAfterInEither_15 : decode prog_9_method_8_code 15 = .ok (.ireturn, 1) := by decide +kernel
def Y_S_keyAfterInEither : sdY := ("SettingsDesk$Settings", prog_9_method_8_code, 4, (some .int), .code y_S_keyAfterInEither prog_9_method_8_code 4 (some .int) :: sdB0, { frames := 2, cells := 0, slots := 0, locals := 44 }, 0, 0, [])
theorem cw_S_keyAfterInEither_S_keyAfter_43 : sd_cwV Y_S_keyAfterInEither Y_S_keyAfter y_S_keyAfter 43 2 "SettingsDesk$Settings" := ⟨sd_goodV q51 q53 q54 q7 q52, ⟨_, rfl⟩, ⟨rfl, rfl, rfl, rfl⟩, ⟨rfl, by decide, by decide, by decide +kernel⟩, ⟨by decide, by decide⟩⟩
theorem cw_S_keyAfterInEither_JM_min_47 : sd_cwS Y_S_keyAfterInEither Y_JM_min y_JM_min 47 2 := ⟨sd_goodS q55 q57 q58 q56, ⟨_, rfl⟩, ⟨rfl, rfl, rfl, rfl⟩, ⟨by decide, by decide, by decide +kernel⟩, ⟨by decide, by decide⟩⟩
section
variable {l : Launch} {D : va_G} {dA : Nat → ClassId} {b n : Nat} {ad : Nat → Nat} {L : Nat → sdL} {sc : Option (Nat × Nat × (Nat → Int32))}
def w_S_keyAfterInEither (o : Nat) (M : sdM) (p1 : Nat) (a2 : Int32) (a3 : Int32) (Q : Int32 → sdM → Prop) : Prop := w_S_keyAfter o M a2 a3 (fun r8 M7 => w_S_keyAfter p1 M7 a2 a3 (fun r10 M9 => w_JM_min M9 r8 r10 (fun r12 M11 => Q r12 M11)))
set_option maxHeartbeats 1000000 in
theorem c_S_keyAfterInEither {p1 : Nat} {a2 : Int32} {a3 : Int32} {o : Nat} (hA : sd_ad b n ad) (hT : l.stackTraces = false) (ho : isS n L dA o) (hp1 : isS n L dA p1) {Q : Int32 → sdM → Prop} {M : sdM} (hw : w_S_keyAfterInEither o M p1 a2 a3 Q) : sd_Cn l (sdE0 sc) y_S_keyAfterInEither Y_S_keyAfterInEither.2.2.2.2.1 Y_S_keyAfterInEither.2.2.2.2.2.1 0 0 D (sd_tys dA) b n ad L M [.ref o, .ref p1, .int a2, .int a3] (sd_qi Q) sd_xf := by
  refine sd_enter (Y := Y_S_keyAfterInEither) rfl rfl rfl rfl (Nat.le_of_ble_eq_true rfl) ?_
  show sdW l (sdE0 sc) Y_S_keyAfterInEither D (sd_tys dA) b n ad L ad (sd_H D (sdE0 sc).1 n ad L) (sd_qi Q) sd_xf 0 [(0, .ref o), (1, .ref p1), (2, .int a2), (3, .int a3)] [] M 0 0
  unfold w_S_keyAfterInEither at hw
  refine x_aload_n 0 0 d_S_keyAfterInEither_0 rfl rfl ?_
  refine x_iload_n 2 2 d_S_keyAfterInEither_1 rfl rfl ?_
  refine x_iload_n 3 3 d_S_keyAfterInEither_2 rfl rfl ?_
  refine x_callVi (As := [.int a2, .int a3]) (t := o) (rest := []) (rc := 0) (rs := 0) (c_S_keyAfter hA hT ho hw) cw_S_keyAfterInEither_S_keyAfter_43 ho.1 ho.2.1 rfl d_S_keyAfterInEither_3 rfl rfl (Nat.le_of_ble_eq_true rfl) rfl (fun _ _ h => h.elim) (fun _ _ h => h) (fun r8 M7 hw => ?_)
  refine x_aload_n 1 1 d_S_keyAfterInEither_6 rfl rfl ?_
  refine x_iload_n 2 2 d_S_keyAfterInEither_7 rfl rfl ?_
  refine x_iload_n 3 3 d_S_keyAfterInEither_8 rfl rfl ?_
  refine x_callVi (As := [.int a2, .int a3]) (t := p1) (rest := [.int r8]) (rc := 0) (rs := 0) (c_S_keyAfter hA hT hp1 hw) cw_S_keyAfterInEither_S_keyAfter_43 hp1.1 hp1.2.1 rfl d_S_keyAfterInEither_9 rfl rfl (Nat.le_of_ble_eq_true rfl) rfl (fun _ _ h => h.elim) (fun _ _ h => h) (fun r10 M9 hw => ?_)
  refine x_callSi (As := [.int r8, .int r10]) (rest := []) (rc := 0) (rs := 0) (c_JM_min hA hT  hw) cw_S_keyAfterInEither_JM_min_47 d_S_keyAfterInEither_12 rfl rfl (Nat.le_of_ble_eq_true rfl) rfl (fun _ _ h => h.elim) (fun _ _ h => h) (fun r12 M11 hw => ?_)
  exact x_iret d_S_keyAfterInEither_15 rfl (fun _ h => h) ⟨_, rfl, hw⟩
end
theorem q59 : (.methodLink "SettingsDesk$Settings" 66 ⟨"SettingsDesk$Settings", "give", "(III)V"⟩ : Cond) ∈ sdB0 := sd_tb4 31 rfl rfl
theorem q60 : (.code ⟨"SettingsDesk$Settings", "give", "(III)V"⟩ prog_9_method_14_code 4 none : Cond) ∈ sdB0 := sd_tb3 170 rfl rfl
theorem q61 : (.instanceMethod ⟨"SettingsDesk$Settings", "give", "(III)V"⟩ : Cond) ∈ sdB0 := sd_tb3 168 rfl rfl
theorem q62 : (.selects "SettingsDesk$Settings" ⟨"SettingsDesk$Settings", "give", "(III)V"⟩ ⟨"SettingsDesk$Settings", "give", "(III)V"⟩ : Cond) ∈ sdB0 := sd_tb3 169 rfl rfl
abbrev y_S_copyLeaf : MethodName := ⟨"SettingsDesk$Settings", "copyLeaf", "(IILSettingsDesk$Settings;I)V"⟩
theorem d_S_copyLeaf_0 : decode prog_9_method_13_code 0 = .ok (.aload_n 3, 1) := by decide +kernel
theorem d_S_copyLeaf_1 : decode prog_9_method_13_code 1 = .ok (.iload 4, 2) := by decide +kernel
theorem d_S_copyLeaf_3 : decode prog_9_method_13_code 3 = .ok (.iload_n 2, 1) := by decide +kernel
theorem d_S_copyLeaf_4 : decode prog_9_method_13_code 4 = .ok (.invokevirtual 59, 3) := by decide +kernel
theorem d_S_copyLeaf_7 : decode prog_9_method_13_code 7 = .ok (.ifCond .eq (16), 3) := by decide +kernel
theorem d_S_copyLeaf_10 : decode prog_9_method_13_code 10 = .ok (.aload_n 0, 1) := by decide +kernel
theorem d_S_copyLeaf_11 : decode prog_9_method_13_code 11 = .ok (.iload_n 1, 1) := by decide +kernel
theorem d_S_copyLeaf_12 : decode prog_9_method_13_code 12 = .ok (.iload_n 2, 1) := by decide +kernel
theorem d_S_copyLeaf_13 : decode prog_9_method_13_code 13 = .ok (.aload_n 3, 1) := by decide +kernel
theorem d_S_copyLeaf_14 : decode prog_9_method_13_code 14 = .ok (.iload 4, 2) := by decide +kernel
theorem d_S_copyLeaf_16 : decode prog_9_method_13_code 16 = .ok (.iload_n 2, 1) := by decide +kernel
theorem d_S_copyLeaf_17 : decode prog_9_method_13_code 17 = .ok (.invokevirtual 63, 3) := by decide +kernel
theorem d_S_copyLeaf_20 : decode prog_9_method_13_code 20 = .ok (.invokevirtual 66, 3) := by decide +kernel
theorem d_S_copyLeaf_23 : decode prog_9_method_13_code 23 = .ok (.return_, 1) := by decide +kernel
def Y_S_copyLeaf : sdY := ("SettingsDesk$Settings", prog_9_method_13_code, 5, none, .code y_S_copyLeaf prog_9_method_13_code 5 none :: sdB0, { frames := 1, cells := 0, slots := 0, locals := 23 }, 0, 0, [])
theorem cw_S_copyLeaf_S_isGiven_59 : sd_cwV Y_S_copyLeaf Y_S_isGiven y_S_isGiven 59 2 "SettingsDesk$Settings" := ⟨sd_goodV q3 q5 q6 q7 q4, ⟨_, rfl⟩, ⟨rfl, rfl, rfl, rfl⟩, ⟨rfl, by decide, by decide, by decide +kernel⟩, ⟨by decide, by decide⟩⟩
theorem cw_S_copyLeaf_S_valueAt_63 : sd_cwV Y_S_copyLeaf Y_S_valueAt y_S_valueAt 63 2 "SettingsDesk$Settings" := ⟨sd_goodV q8 q10 q11 q7 q9, ⟨_, rfl⟩, ⟨rfl, rfl, rfl, rfl⟩, ⟨rfl, by decide, by decide, by decide +kernel⟩, ⟨by decide, by decide⟩⟩
theorem cw_S_copyLeaf_S_give_66 : sd_cwV Y_S_copyLeaf Y_S_give y_S_give 66 3 "SettingsDesk$Settings" := ⟨sd_goodV q59 q61 q62 q7 q60, ⟨_, rfl⟩, ⟨rfl, rfl, rfl, rfl⟩, ⟨rfl, by decide, by decide, by decide +kernel⟩, ⟨by decide, by decide⟩⟩
section
variable {l : Launch} {D : va_G} {dA : Nat → ClassId} {b n : Nat} {ad : Nat → Nat} {L : Nat → sdL} {sc : Option (Nat × Nat × (Nat → Int32))}
def k_S_copyLeaf_23 (o : Nat) (Q : sdM → Prop) (M : sdM) : Prop := Q M
set_option maxHeartbeats 1000000 in
theorem t_S_copyLeaf_23 {o : Nat} (hA : sd_ad b n ad) (hT : l.stackTraces = false) (ho : isS n L dA o) {Q : sdM → Prop} (M : sdM) (hw : k_S_copyLeaf_23 o Q M ) : sdW l (sdE0 sc) Y_S_copyLeaf D (sd_tys dA) b n ad L ad (sd_H D (sdE0 sc).1 n ad L) (sd_qv Q) sd_xf 23 [] [] M 0 0 := by
  unfold k_S_copyLeaf_23 at hw
  exact x_vret d_S_copyLeaf_23 rfl (fun _ h => h) ⟨rfl, hw⟩
def w_S_copyLeaf (o : Nat) (M : sdM) (a1 : Int32) (a2 : Int32) (p3 : Nat) (a4 : Int32) (Q : sdM → Prop) : Prop := w_S_isGiven p3 M a4 a2 (fun r7 M6 => (r7 = 0 → k_S_copyLeaf_23 o Q M6) ∧ (¬ r7 = 0 → w_S_valueAt p3 M6 a4 a2 (fun r9 M8 => w_S_give o M8 a1 a2 r9 (fun M10 => k_S_copyLeaf_23 o Q M10))))
set_option maxHeartbeats 1000000 in
theorem c_S_copyLeaf {a1 : Int32} {a2 : Int32} {p3 : Nat} {a4 : Int32} {o : Nat} (hA : sd_ad b n ad) (hT : l.stackTraces = false) (ho : isS n L dA o) (hp3 : isS n L dA p3) {Q : sdM → Prop} {M : sdM} (hw : w_S_copyLeaf o M a1 a2 p3 a4 Q) : sd_Cn l (sdE0 sc) y_S_copyLeaf Y_S_copyLeaf.2.2.2.2.1 Y_S_copyLeaf.2.2.2.2.2.1 0 0 D (sd_tys dA) b n ad L M [.ref o, .int a1, .int a2, .ref p3, .int a4] (sd_qv Q) sd_xf := by
  refine sd_enter (Y := Y_S_copyLeaf) rfl rfl rfl rfl (Nat.le_of_ble_eq_true rfl) ?_
  show sdW l (sdE0 sc) Y_S_copyLeaf D (sd_tys dA) b n ad L ad (sd_H D (sdE0 sc).1 n ad L) (sd_qv Q) sd_xf 0 [(0, .ref o), (1, .int a1), (2, .int a2), (3, .ref p3), (4, .int a4)] [] M 0 0
  unfold w_S_copyLeaf at hw
  refine x_aload_n 3 3 d_S_copyLeaf_0 rfl rfl ?_
  refine x_iload 4 4 d_S_copyLeaf_1 rfl ?_
  refine x_iload_n 2 2 d_S_copyLeaf_3 rfl rfl ?_
  refine x_callVi (As := [.int a4, .int a2]) (t := p3) (rest := []) (rc := 0) (rs := 0) (c_S_isGiven hA hT hp3 hw) cw_S_copyLeaf_S_isGiven_59 hp3.1 hp3.2.1 rfl d_S_copyLeaf_4 rfl rfl (Nat.le_of_ble_eq_true rfl) rfl (fun _ _ h => h.elim) (fun _ _ h => h) (fun r7 M6 hw => ?_)
  refine x_if_eq 23 d_S_copyLeaf_7 rfl (fun hc => ?_) (fun hc => ?_)
  · have hw := hw.1 hc
    refine x_sub [] [] rfl ?_
    exact t_S_copyLeaf_23 hA hT ho M6 hw
  · have hw := hw.2 hc
    refine x_aload_n 0 0 d_S_copyLeaf_10 rfl rfl ?_
    refine x_iload_n 1 1 d_S_copyLeaf_11 rfl rfl ?_
    refine x_iload_n 2 2 d_S_copyLeaf_12 rfl rfl ?_
    refine x_aload_n 3 3 d_S_copyLeaf_13 rfl rfl ?_
    refine x_iload 4 4 d_S_copyLeaf_14 rfl ?_
    refine x_iload_n 2 2 d_S_copyLeaf_16 rfl rfl ?_
    refine x_callVi (As := [.int a4, .int a2]) (t := p3) (rest := [.int a2, .int a1, .ref o]) (rc := 0) (rs := 0) (c_S_valueAt hA hT hp3 hw) cw_S_copyLeaf_S_valueAt_63 hp3.1 hp3.2.1 rfl d_S_copyLeaf_17 rfl rfl (Nat.le_of_ble_eq_true rfl) rfl (fun _ _ h => h.elim) (fun _ _ h => h) (fun r9 M8 hw => ?_)
    refine x_callVv (As := [.int a1, .int a2, .int r9]) (t := o) (rest := []) (rc := 0) (rs := 0) (c_S_give hA hT ho hw) cw_S_copyLeaf_S_give_66 ho.1 ho.2.1 rfl d_S_copyLeaf_20 rfl rfl (Nat.le_of_ble_eq_true rfl) rfl (fun _ _ h => h.elim) (fun _ _ h => h) (fun M10 hw => ?_)
    refine x_sub [] [] rfl ?_
    exact t_S_copyLeaf_23 hA hT ho M10 hw
end
abbrev y_S_entryCount : MethodName := ⟨"SettingsDesk$Settings", "entryCount", "()I"⟩
theorem d_S_entryCount_0 : decode prog_9_method_9_code 0 = .ok (.iconst 0, 1) := by decide +kernel
theorem d_S_entryCount_1 : decode prog_9_method_9_code 1 = .ok (.istore_n 1, 1) := by decide +kernel
theorem d_S_entryCount_2 : decode prog_9_method_9_code 2 = .ok (.iconst 0, 1) := by decide +kernel
theorem d_S_entryCount_3 : decode prog_9_method_9_code 3 = .ok (.istore_n 2, 1) := by decide +kernel
theorem d_S_entryCount_4 : decode prog_9_method_9_code 4 = .ok (.iload_n 2, 1) := by decide +kernel
theorem d_S_entryCount_5 : decode prog_9_method_9_code 5 = .ok (.iconst 4, 1) := by decide +kernel
theorem d_S_entryCount_6 : decode prog_9_method_9_code 6 = .ok (.if_icmp .ge (18), 3) := by decide +kernel
theorem d_S_entryCount_9 : decode prog_9_method_9_code 9 = .ok (.iload_n 1, 1) := by decide +kernel
theorem d_S_entryCount_10 : decode prog_9_method_9_code 10 = .ok (.aload_n 0, 1) := by decide +kernel
theorem d_S_entryCount_11 : decode prog_9_method_9_code 11 = .ok (.getfield 9, 3) := by decide +kernel
theorem d_S_entryCount_14 : decode prog_9_method_9_code 14 = .ok (.iload_n 2, 1) := by decide +kernel
theorem d_S_entryCount_15 : decode prog_9_method_9_code 15 = .ok (.iaload, 1) := by decide +kernel
theorem d_S_entryCount_16 : decode prog_9_method_9_code 16 = .ok (.iadd, 1) := by decide +kernel
theorem d_S_entryCount_17 : decode prog_9_method_9_code 17 = .ok (.istore_n 1, 1) := by decide +kernel
theorem d_S_entryCount_18 : decode prog_9_method_9_code 18 = .ok (.iinc 2 (1), 3) := by decide +kernel
theorem d_S_entryCount_21 : decode prog_9_method_9_code 21 = .ok (.goto (-17), 3) := by decide +kernel
theorem d_S_entryCount_24 : decode prog_9_method_9_code 24 = .ok (.iload_n 1, 1) := by decide +kernel
theorem d_S_entryCount_25 : decode prog_9_method_9_code 25 = .ok (.ireturn, 1) := by decide +kernel
def Y_S_entryCount : sdY := ("SettingsDesk$Settings", prog_9_method_9_code, 3, (some .int), .code y_S_entryCount prog_9_method_9_code 3 (some .int) :: sdB0, { frames := 0, cells := 0, slots := 0, locals := 0 }, 0, 0, [])
section
variable {l : Launch} {D : va_G} {dA : Nat → ClassId} {b n : Nat} {ad : Nat → Nat} {L : Nat → sdL} {sc : Option (Nat × Nat × (Nat → Int32))}
def h_S_entryCount_4 (o : Nat) (Q : Int32 → sdM → Prop) : Nat → sdM → Int32 → Int32 → Prop
  | 0, _, _, _ => False
  | N + 1, M, x1, x2 => ((4 : Int32) ≤ x2 → Q x1 M) ∧ (¬ (4 : Int32) ≤ x2 → vp_in x2 4 ∧ h_S_entryCount_4 o Q N M (x1 + (M (o + 1) x2.toNatClampNeg)) (x2 + 1))
set_option maxHeartbeats 1000000 in
theorem t_S_entryCount_4 {o : Nat} (hA : sd_ad b n ad) (hT : l.stackTraces = false) (ho : isS n L dA o) {Q : Int32 → sdM → Prop} (N : Nat) : ∀ (M : sdM) (x1 : Int32) (x2 : Int32), h_S_entryCount_4 o Q N M x1 x2 → sdW l (sdE0 sc) Y_S_entryCount D (sd_tys dA) b n ad L ad (sd_H D (sdE0 sc).1 n ad L) (sd_qi Q) sd_xf 4 [(0, .ref o), (1, .int x1), (2, .int x2)] [] M 0 0 := by
  induction N with
  | zero => intro M x1 x2 hw; exact hw.elim
  | succ N ih =>
    intro M x1 x2 hw
    rw [h_S_entryCount_4] at hw
    refine x_iload_n 2 2 d_S_entryCount_4 rfl rfl ?_
    refine x_iconst (v := 4) d_S_entryCount_5 (by decide) ?_
    refine x_icmp_ge 24 d_S_entryCount_6 rfl (fun hc => ?_) (fun hc => ?_)
    · have hw := hw.1 hc
      refine x_iload_n 1 1 d_S_entryCount_24 rfl rfl ?_
      exact x_iret d_S_entryCount_25 rfl (fun _ h => h) ⟨_, rfl, hw⟩
    · have hw := hw.2 hc
      refine x_iload_n 1 1 d_S_entryCount_9 rfl rfl ?_
      refine x_aload_n 0 0 d_S_entryCount_10 rfl rfl ?_
      refine x_getr 0 (o + 1) d_S_entryCount_11 ho.1 ho.2.1 rfl rfl (by decide) lay_S (List.mem_cons_of_mem _ q0) rfl ?_
      refine x_iload_n 2 2 d_S_entryCount_14 rfl rfl ?_
      obtain ⟨hi2, hw⟩ := hw
      refine x_iald d_S_entryCount_15 ho.counts.1 ho.counts.2 rfl hi2 ?_
      refine x_iadd d_S_entryCount_16 ?_
      refine x_istore_n 1 [(1, .int (x1 + (M (o + 1) x2.toNatClampNeg))), (0, .ref o), (2, .int x2)] d_S_entryCount_17 rfl (by decide) rfl ?_
      refine x_iinc 2 2 [(2, .int (x2 + 1)), (1, .int (x1 + (M (o + 1) x2.toNatClampNeg))), (0, .ref o)] d_S_entryCount_18 rfl (congrArg (HAdd.hAdd x2) (show Int32.ofInt 1 = 1 by decide)) (by decide) rfl ?_
      refine x_goto 4 d_S_entryCount_21 rfl ?_
      refine x_sub [2, 1, 0] [(0, .ref o), (1, .int (x1 + (M (o + 1) x2.toNatClampNeg))), (2, .int (x2 + 1))] rfl ?_
      exact ih M (x1 + (M (o + 1) x2.toNatClampNeg)) (x2 + 1) hw
def w_S_entryCount (o : Nat) (M : sdM) (Q : Int32 → sdM → Prop) : Prop := ∃ N9 : Nat, h_S_entryCount_4 o Q N9 M (0 : Int32) (0 : Int32)
set_option maxHeartbeats 1000000 in
theorem c_S_entryCount {o : Nat} (hA : sd_ad b n ad) (hT : l.stackTraces = false) (ho : isS n L dA o) {Q : Int32 → sdM → Prop} {M : sdM} (hw : w_S_entryCount o M Q) : sd_Cn l (sdE0 sc) y_S_entryCount Y_S_entryCount.2.2.2.2.1 Y_S_entryCount.2.2.2.2.2.1 0 0 D (sd_tys dA) b n ad L M [.ref o] (sd_qi Q) sd_xf := by
  refine sd_enter (Y := Y_S_entryCount) rfl rfl rfl rfl (Nat.le_of_ble_eq_true rfl) ?_
  show sdW l (sdE0 sc) Y_S_entryCount D (sd_tys dA) b n ad L ad (sd_H D (sdE0 sc).1 n ad L) (sd_qi Q) sd_xf 0 [(0, .ref o)] [] M 0 0
  unfold w_S_entryCount at hw
  refine x_iconst (v := 0) d_S_entryCount_0 (by decide) ?_
  refine x_istore_n 1 [(1, .int (0 : Int32)), (0, .ref o)] d_S_entryCount_1 rfl (by decide) rfl ?_
  refine x_iconst (v := 0) d_S_entryCount_2 (by decide) ?_
  refine x_istore_n 2 [(2, .int (0 : Int32)), (1, .int (0 : Int32)), (0, .ref o)] d_S_entryCount_3 rfl (by decide) rfl ?_
  refine x_sub [2, 1, 0] [(0, .ref o), (1, .int (0 : Int32)), (2, .int (0 : Int32))] rfl ?_
  obtain ⟨N9, hw⟩ := hw
  exact t_S_entryCount_4 hA hT ho N9 M (0 : Int32) (0 : Int32) hw
end
