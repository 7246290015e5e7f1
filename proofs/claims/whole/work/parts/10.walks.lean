abbrev y_S_firstRow : MethodName := ⟨"SettingsDesk$Settings", "firstRow", "(I)I"⟩
theorem d_S_firstRow_0 : decode prog_9_method_4_code 0 = .ok (.iload_n 1, 1) := by decide +kernel
theorem d_S_firstRow_1 : decode prog_9_method_4_code 1 = .ok (.bipush (12), 2) := by decide +kernel
theorem d_S_firstRow_3 : decode prog_9_method_4_code 3 = .ok (.imul, 1) := by decide +kernel
theorem d_S_firstRow_4 : decode prog_9_method_4_code 4 = .ok (.ireturn, 1) := by decide +kernel
def Y_S_firstRow : sdY := ("SettingsDesk$Settings", prog_9_method_4_code, 2, (some .int), .code y_S_firstRow prog_9_method_4_code 2 (some .int) :: sdB0, { frames := 0, cells := 0, slots := 0, locals := 0 }, 0, 0)
section
variable {l : Launch} {D : va_G} {dA : Nat → ClassId} {b n : Nat} {ad : Nat → Nat} {L : Nat → sdL} {sc : Option (Nat × Nat × (Nat → Int32))}
def w_S_firstRow (o : Nat) (M : sdM) (a1 : Int32) (Q : Int32 → sdM → Prop) : Prop := Q (a1 * 12) M
set_option maxHeartbeats 1000000 in
theorem c_S_firstRow {a1 : Int32} {o : Nat} (hA : sd_ad b n ad) (hT : l.stackTraces = false) (ho : isS n L dA o) {Q : Int32 → sdM → Prop} {M : sdM} (hw : w_S_firstRow o M a1 Q) : sd_Cn l (sdE0 sc) y_S_firstRow Y_S_firstRow.2.2.2.2.1 Y_S_firstRow.2.2.2.2.2.1 0 0 D (sd_tys dA) b n ad L M [.ref o, .int a1] (sd_qi Q) sd_xf := by
  refine sd_enter (Y := Y_S_firstRow) rfl rfl rfl (Nat.le_of_ble_eq_true rfl) ?_
  show sdW l (sdE0 sc) Y_S_firstRow D (sd_tys dA) b n ad L ad (sd_H D (sdE0 sc).1 n ad L) (sd_qi Q) sd_xf 0 [(0, .ref o), (1, .int a1)] [] M 0 0
  unfold w_S_firstRow at hw
  refine x_iload_n 1 1 d_S_firstRow_0 rfl rfl ?_
  refine x_bipush (v := 12) d_S_firstRow_1 (by decide) ?_
  refine x_imul d_S_firstRow_3 ?_
  exact x_iret d_S_firstRow_4 rfl (fun _ h => h) ⟨_, rfl, hw⟩
end
theorem q0 : (.fieldLink "SettingsDesk$Settings" 9 "SettingsDesk$Settings" "counts" "[I" : Cond) ∈ sdB0 := sd_tb1 137 rfl rfl
abbrev y_S_endRow : MethodName := ⟨"SettingsDesk$Settings", "endRow", "(I)I"⟩
theorem d_S_endRow_0 : decode prog_9_method_5_code 0 = .ok (.iload_n 1, 1) := by decide +kernel
theorem d_S_endRow_1 : decode prog_9_method_5_code 1 = .ok (.bipush (12), 2) := by decide +kernel
theorem d_S_endRow_3 : decode prog_9_method_5_code 3 = .ok (.imul, 1) := by decide +kernel
theorem d_S_endRow_4 : decode prog_9_method_5_code 4 = .ok (.aload_n 0, 1) := by decide +kernel
theorem d_S_endRow_5 : decode prog_9_method_5_code 5 = .ok (.getfield 9, 3) := by decide +kernel
theorem d_S_endRow_8 : decode prog_9_method_5_code 8 = .ok (.iload_n 1, 1) := by decide +kernel
theorem d_S_endRow_9 : decode prog_9_method_5_code 9 = .ok (.iaload, 1) := by decide +kernel
theorem d_S_endRow_10 : decode prog_9_method_5_code 10 = .ok (.iadd, 1) := by decide +kernel
theorem d_S_endRow_11 : decode prog_9_method_5_code 11 = .ok (.ireturn, 1) := by decide +kernel
def Y_S_endRow : sdY := ("SettingsDesk$Settings", prog_9_method_5_code, 2, (some .int), .code y_S_endRow prog_9_method_5_code 2 (some .int) :: sdB0, { frames := 0, cells := 0, slots := 0, locals := 0 }, 0, 0)
section
variable {l : Launch} {D : va_G} {dA : Nat → ClassId} {b n : Nat} {ad : Nat → Nat} {L : Nat → sdL} {sc : Option (Nat × Nat × (Nat → Int32))}
def w_S_endRow (o : Nat) (M : sdM) (a1 : Int32) (Q : Int32 → sdM → Prop) : Prop := vp_in a1 4 ∧ Q ((a1 * 12) + (M (o + 1) a1.toNatClampNeg)) M
set_option maxHeartbeats 1000000 in
theorem c_S_endRow {a1 : Int32} {o : Nat} (hA : sd_ad b n ad) (hT : l.stackTraces = false) (ho : isS n L dA o) {Q : Int32 → sdM → Prop} {M : sdM} (hw : w_S_endRow o M a1 Q) : sd_Cn l (sdE0 sc) y_S_endRow Y_S_endRow.2.2.2.2.1 Y_S_endRow.2.2.2.2.2.1 0 0 D (sd_tys dA) b n ad L M [.ref o, .int a1] (sd_qi Q) sd_xf := by
  refine sd_enter (Y := Y_S_endRow) rfl rfl rfl (Nat.le_of_ble_eq_true rfl) ?_
  show sdW l (sdE0 sc) Y_S_endRow D (sd_tys dA) b n ad L ad (sd_H D (sdE0 sc).1 n ad L) (sd_qi Q) sd_xf 0 [(0, .ref o), (1, .int a1)] [] M 0 0
  unfold w_S_endRow at hw
  refine x_iload_n 1 1 d_S_endRow_0 rfl rfl ?_
  refine x_bipush (v := 12) d_S_endRow_1 (by decide) ?_
  refine x_imul d_S_endRow_3 ?_
  refine x_aload_n 0 0 d_S_endRow_4 rfl rfl ?_
  refine x_getr 0 (o + 1) d_S_endRow_5 ho.1 ho.2.1 rfl rfl (by decide) lay_S (List.mem_cons_of_mem _ q0) rfl ?_
  refine x_iload_n 1 1 d_S_endRow_8 rfl rfl ?_
  obtain ⟨hi2, hw⟩ := hw
  refine x_iald d_S_endRow_9 ho.counts.1 ho.counts.2 rfl hi2 ?_
  refine x_iadd d_S_endRow_10 ?_
  exact x_iret d_S_endRow_11 rfl (fun _ h => h) ⟨_, rfl, hw⟩
end
theorem q1 : (.fieldLink "SettingsDesk$Settings" 15 "SettingsDesk$Settings" "keys" "[I" : Cond) ∈ sdB0 := sd_tb1 140 rfl rfl
theorem q2 : (.methodLink "SettingsDesk$Settings" 36 ⟨"SettingsDesk$Settings", "firstRow", "(I)I"⟩ : Cond) ∈ sdB0 := sd_tb2 13 rfl rfl
theorem q3 : (.code ⟨"SettingsDesk$Settings", "firstRow", "(I)I"⟩ prog_9_method_4_code 2 (some .int) : Cond) ∈ sdB0 := sd_tb2 16 rfl rfl
theorem q4 : (.instanceMethod ⟨"SettingsDesk$Settings", "firstRow", "(I)I"⟩ : Cond) ∈ sdB0 := sd_tb2 14 rfl rfl
theorem q5 : (.selects "SettingsDesk$Settings" ⟨"SettingsDesk$Settings", "firstRow", "(I)I"⟩ ⟨"SettingsDesk$Settings", "firstRow", "(I)I"⟩ : Cond) ∈ sdB0 := sd_tb2 15 rfl rfl
theorem q6 : (.initialized "SettingsDesk$Settings" : Cond) ∈ sdB0 := sd_tb1 5 rfl rfl
theorem q7 : (.methodLink "SettingsDesk$Settings" 40 ⟨"SettingsDesk$Settings", "endRow", "(I)I"⟩ : Cond) ∈ sdB0 := sd_tb2 17 rfl rfl
theorem q8 : (.code ⟨"SettingsDesk$Settings", "endRow", "(I)I"⟩ prog_9_method_5_code 2 (some .int) : Cond) ∈ sdB0 := sd_tb2 20 rfl rfl
theorem q9 : (.instanceMethod ⟨"SettingsDesk$Settings", "endRow", "(I)I"⟩ : Cond) ∈ sdB0 := sd_tb2 18 rfl rfl
theorem q10 : (.selects "SettingsDesk$Settings" ⟨"SettingsDesk$Settings", "endRow", "(I)I"⟩ ⟨"SettingsDesk$Settings", "endRow", "(I)I"⟩ : Cond) ∈ sdB0 := sd_tb2 19 rfl rfl
abbrev y_S_rowOf : MethodName := ⟨"SettingsDesk$Settings", "rowOf", "(II)I"⟩
theorem d_S_rowOf_0 : decode prog_9_method_6_code 0 = .ok (.aload_n 0, 1) := by decide +kernel
theorem d_S_rowOf_1 : decode prog_9_method_6_code 1 = .ok (.iload_n 1, 1) := by decide +kernel
theorem d_S_rowOf_2 : decode prog_9_method_6_code 2 = .ok (.invokevirtual 36, 3) := by decide +kernel
theorem d_S_rowOf_5 : decode prog_9_method_6_code 5 = .ok (.istore_n 3, 1) := by decide +kernel
theorem d_S_rowOf_6 : decode prog_9_method_6_code 6 = .ok (.iload_n 3, 1) := by decide +kernel
theorem d_S_rowOf_7 : decode prog_9_method_6_code 7 = .ok (.aload_n 0, 1) := by decide +kernel
theorem d_S_rowOf_8 : decode prog_9_method_6_code 8 = .ok (.iload_n 1, 1) := by decide +kernel
theorem d_S_rowOf_9 : decode prog_9_method_6_code 9 = .ok (.invokevirtual 40, 3) := by decide +kernel
theorem d_S_rowOf_12 : decode prog_9_method_6_code 12 = .ok (.if_icmp .ge (21), 3) := by decide +kernel
theorem d_S_rowOf_15 : decode prog_9_method_6_code 15 = .ok (.aload_n 0, 1) := by decide +kernel
theorem d_S_rowOf_16 : decode prog_9_method_6_code 16 = .ok (.getfield 15, 3) := by decide +kernel
theorem d_S_rowOf_19 : decode prog_9_method_6_code 19 = .ok (.iload_n 3, 1) := by decide +kernel
theorem d_S_rowOf_20 : decode prog_9_method_6_code 20 = .ok (.iaload, 1) := by decide +kernel
theorem d_S_rowOf_21 : decode prog_9_method_6_code 21 = .ok (.iload_n 2, 1) := by decide +kernel
theorem d_S_rowOf_22 : decode prog_9_method_6_code 22 = .ok (.if_icmp .ne (5), 3) := by decide +kernel
theorem d_S_rowOf_25 : decode prog_9_method_6_code 25 = .ok (.iload_n 3, 1) := by decide +kernel
theorem d_S_rowOf_26 : decode prog_9_method_6_code 26 = .ok (.ireturn, 1) := by decide +kernel
theorem d_S_rowOf_27 : decode prog_9_method_6_code 27 = .ok (.iinc 3 (1), 3) := by decide +kernel
theorem d_S_rowOf_30 : decode prog_9_method_6_code 30 = .ok (.goto (-24), 3) := by decide +kernel
theorem d_S_rowOf_33 : decode prog_9_method_6_code 33 = .ok (.iconst (-1), 1) := by decide +kernel
theorem d_S_rowOf_34 : decode prog_9_method_6_code 34 = .ok (.ireturn, 1) := by decide +kernel
def Y_S_rowOf : sdY := ("SettingsDesk$Settings", prog_9_method_6_code, 4, (some .int), .code y_S_rowOf prog_9_method_6_code 4 (some .int) :: sdB0, { frames := 1, cells := 0, slots := 0, locals := 21 }, 0, 0)
theorem cw_S_rowOf_S_firstRow_36 : sd_cwV Y_S_rowOf Y_S_firstRow y_S_firstRow 36 1 "SettingsDesk$Settings" := ⟨sd_goodV q2 q4 q5 q6 q3, ⟨_, rfl⟩, ⟨rfl, rfl, rfl, rfl⟩, ⟨rfl, by decide, by decide, by decide +kernel⟩, ⟨by decide, by decide⟩⟩
theorem cw_S_rowOf_S_endRow_40 : sd_cwV Y_S_rowOf Y_S_endRow y_S_endRow 40 1 "SettingsDesk$Settings" := ⟨sd_goodV q7 q9 q10 q6 q8, ⟨_, rfl⟩, ⟨rfl, rfl, rfl, rfl⟩, ⟨rfl, by decide, by decide, by decide +kernel⟩, ⟨by decide, by decide⟩⟩
section
variable {l : Launch} {D : va_G} {dA : Nat → ClassId} {b n : Nat} {ad : Nat → Nat} {L : Nat → sdL} {sc : Option (Nat × Nat × (Nat → Int32))}
def h_S_rowOf_6 (o : Nat) (Q : Int32 → sdM → Prop) : Nat → sdM → Int32 → Int32 → Int32 → Prop
  | 0, _, _, _, _ => False
  | N + 1, M, x1, x2, x3 => w_S_endRow o M x1 (fun r7 M6 => (r7 ≤ x3 → Q (-1) M6) ∧ (¬ r7 ≤ x3 → vp_in x3 48 ∧ (¬ (M6 (o + 2) x3.toNatClampNeg) = x2 → h_S_rowOf_6 o Q N M6 x1 x2 (x3 + 1)) ∧ ((M6 (o + 2) x3.toNatClampNeg) = x2 → Q x3 M6)))
set_option maxHeartbeats 1000000 in
theorem t_S_rowOf_6 {o : Nat} (hA : sd_ad b n ad) (hT : l.stackTraces = false) (ho : isS n L dA o) {Q : Int32 → sdM → Prop} (N : Nat) : ∀ (M : sdM) (x1 : Int32) (x2 : Int32) (x3 : Int32), h_S_rowOf_6 o Q N M x1 x2 x3 → sdW l (sdE0 sc) Y_S_rowOf D (sd_tys dA) b n ad L ad (sd_H D (sdE0 sc).1 n ad L) (sd_qi Q) sd_xf 6 [(0, .ref o), (1, .int x1), (2, .int x2), (3, .int x3)] [] M 0 0 := by
  induction N with
  | zero => intro M x1 x2 x3 hw; exact hw.elim
  | succ N ih =>
    intro M x1 x2 x3 hw
    rw [h_S_rowOf_6] at hw
    refine x_iload_n 3 3 d_S_rowOf_6 rfl rfl ?_
    refine x_aload_n 0 0 d_S_rowOf_7 rfl rfl ?_
    refine x_iload_n 1 1 d_S_rowOf_8 rfl rfl ?_
    refine x_callVi (As := [.int x1]) (t := o) (rest := [.int x3]) (rc := 0) (rs := 0) (c_S_endRow hA hT ho hw) cw_S_rowOf_S_endRow_40 ho.1 ho.2.1 rfl d_S_rowOf_9 rfl rfl (Nat.le_of_ble_eq_true rfl) (fun _ _ h => h.elim) (fun _ _ h => h) (fun r7 M6 hw => ?_)
    refine x_icmp_ge 33 d_S_rowOf_12 rfl (fun hc => ?_) (fun hc => ?_)
    · have hw := hw.1 hc
      refine x_iconst (v := (-1)) d_S_rowOf_33 (by decide) ?_
      exact x_iret d_S_rowOf_34 rfl (fun _ h => h) ⟨_, rfl, hw⟩
    · have hw := hw.2 hc
      refine x_aload_n 0 0 d_S_rowOf_15 rfl rfl ?_
      refine x_getr 1 (o + 2) d_S_rowOf_16 ho.1 ho.2.1 rfl rfl (by decide) lay_S (List.mem_cons_of_mem _ q1) rfl ?_
      refine x_iload_n 3 3 d_S_rowOf_19 rfl rfl ?_
      obtain ⟨hi8, hw⟩ := hw
      refine x_iald d_S_rowOf_20 ho.keys.1 ho.keys.2 rfl hi8 ?_
      refine x_iload_n 2 2 d_S_rowOf_21 rfl rfl ?_
      refine x_icmp_ne 27 d_S_rowOf_22 rfl (fun hc => ?_) (fun hc => ?_)
      · have hw := hw.1 hc
        refine x_iinc 3 3 [(3, .int (x3 + 1)), (0, .ref o), (1, .int x1), (2, .int x2)] d_S_rowOf_27 rfl (congrArg (HAdd.hAdd x3) (show Int32.ofInt 1 = 1 by decide)) (by decide) rfl ?_
        refine x_goto 6 d_S_rowOf_30 rfl ?_
        refine x_sub [1, 2, 3, 0] [(0, .ref o), (1, .int x1), (2, .int x2), (3, .int (x3 + 1))] rfl ?_
        exact ih M6 x1 x2 (x3 + 1) hw
      · have hw := hw.2 hc
        refine x_iload_n 3 3 d_S_rowOf_25 rfl rfl ?_
        exact x_iret d_S_rowOf_26 rfl (fun _ h => h) ⟨_, rfl, hw⟩
def w_S_rowOf (o : Nat) (M : sdM) (a1 : Int32) (a2 : Int32) (Q : Int32 → sdM → Prop) : Prop := w_S_firstRow o M a1 (fun r10 M9 => ∃ N9 : Nat, h_S_rowOf_6 o Q N9 M9 a1 a2 r10)
set_option maxHeartbeats 1000000 in
theorem c_S_rowOf {a1 : Int32} {a2 : Int32} {o : Nat} (hA : sd_ad b n ad) (hT : l.stackTraces = false) (ho : isS n L dA o) {Q : Int32 → sdM → Prop} {M : sdM} (hw : w_S_rowOf o M a1 a2 Q) : sd_Cn l (sdE0 sc) y_S_rowOf Y_S_rowOf.2.2.2.2.1 Y_S_rowOf.2.2.2.2.2.1 0 0 D (sd_tys dA) b n ad L M [.ref o, .int a1, .int a2] (sd_qi Q) sd_xf := by
  refine sd_enter (Y := Y_S_rowOf) rfl rfl rfl (Nat.le_of_ble_eq_true rfl) ?_
  show sdW l (sdE0 sc) Y_S_rowOf D (sd_tys dA) b n ad L ad (sd_H D (sdE0 sc).1 n ad L) (sd_qi Q) sd_xf 0 [(0, .ref o), (1, .int a1), (2, .int a2)] [] M 0 0
  unfold w_S_rowOf at hw
  refine x_aload_n 0 0 d_S_rowOf_0 rfl rfl ?_
  refine x_iload_n 1 1 d_S_rowOf_1 rfl rfl ?_
  refine x_callVi (As := [.int a1]) (t := o) (rest := []) (rc := 0) (rs := 0) (c_S_firstRow hA hT ho hw) cw_S_rowOf_S_firstRow_36 ho.1 ho.2.1 rfl d_S_rowOf_2 rfl rfl (Nat.le_of_ble_eq_true rfl) (fun _ _ h => h.elim) (fun _ _ h => h) (fun r10 M9 hw => ?_)
  refine x_istore_n 3 [(3, .int r10), (0, .ref o), (1, .int a1), (2, .int a2)] d_S_rowOf_5 rfl (by decide) rfl ?_
  refine x_sub [1, 2, 3, 0] [(0, .ref o), (1, .int a1), (2, .int a2), (3, .int r10)] rfl ?_
  obtain ⟨N9, hw⟩ := hw
  exact t_S_rowOf_6 hA hT ho N9 M9 a1 a2 r10 hw
end
