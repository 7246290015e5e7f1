theorem q597 : (.methodLink "SettingsDesk$Settings" 3 ⟨"java/lang/Object", "<init>", "()V"⟩ : Cond) ∈ sdB0 := sd_tb1 136 rfl rfl
theorem q598 : (.arrayClass .int : Cond) ∈ sdB0 := sd_tb1 77 rfl rfl
abbrev y_S_init : MethodName := ⟨"SettingsDesk$Settings", "<init>", "()V"⟩
theorem d_S_init_0 : decode prog_9_method_1_code 0 = .ok (.aload_n 0, 1) := by decide +kernel
theorem d_S_init_1 : decode prog_9_method_1_code 1 = .ok (.invokespecial 3, 3) := by decide +kernel
theorem d_S_init_4 : decode prog_9_method_1_code 4 = .ok (.aload_n 0, 1) := by decide +kernel
theorem d_S_init_5 : decode prog_9_method_1_code 5 = .ok (.iconst 4, 1) := by decide +kernel
theorem d_S_init_6 : decode prog_9_method_1_code 6 = .ok (.newarray .int, 2) := by decide +kernel
theorem d_S_init_8 : decode prog_9_method_1_code 8 = .ok (.putfield 9, 3) := by decide +kernel
theorem d_S_init_11 : decode prog_9_method_1_code 11 = .ok (.aload_n 0, 1) := by decide +kernel
theorem d_S_init_12 : decode prog_9_method_1_code 12 = .ok (.bipush (48), 2) := by decide +kernel
theorem d_S_init_14 : decode prog_9_method_1_code 14 = .ok (.newarray .int, 2) := by decide +kernel
theorem d_S_init_16 : decode prog_9_method_1_code 16 = .ok (.putfield 15, 3) := by decide +kernel
theorem d_S_init_19 : decode prog_9_method_1_code 19 = .ok (.aload_n 0, 1) := by decide +kernel
theorem d_S_init_20 : decode prog_9_method_1_code 20 = .ok (.sipush (192), 3) := by decide +kernel
theorem d_S_init_23 : decode prog_9_method_1_code 23 = .ok (.newarray .int, 2) := by decide +kernel
theorem d_S_init_25 : decode prog_9_method_1_code 25 = .ok (.putfield 18, 3) := by decide +kernel
theorem d_S_init_28 : decode prog_9_method_1_code 28 = .ok (.aload_n 0, 1) := by decide +kernel
theorem d_S_init_29 : decode prog_9_method_1_code 29 = .ok (.bipush (48), 2) := by decide +kernel
theorem d_S_init_31 : decode prog_9_method_1_code 31 = .ok (.newarray .int, 2) := by decide +kernel
theorem d_S_init_33 : decode prog_9_method_1_code 33 = .ok (.putfield 21, 3) := by decide +kernel
theorem d_S_init_36 : decode prog_9_method_1_code 36 = .ok (.aload_n 0, 1) := by decide +kernel
theorem d_S_init_37 : decode prog_9_method_1_code 37 = .ok (.getfield 9, 3) := by decide +kernel
theorem d_S_init_40 : decode prog_9_method_1_code 40 = .ok (.iconst 0, 1) := by decide +kernel
theorem d_S_init_41 : decode prog_9_method_1_code 41 = .ok (.iconst 1, 1) := by decide +kernel
theorem d_S_init_42 : decode prog_9_method_1_code 42 = .ok (.iastore, 1) := by decide +kernel
theorem d_S_init_43 : decode prog_9_method_1_code 43 = .ok (.return_, 1) := by decide +kernel
def Y_S_init : sdY := ("SettingsDesk$Settings", prog_9_method_1_code, 1, none, .code y_S_init prog_9_method_1_code 1 none :: sdB0, { frames := 1, cells := 4, slots := 292, locals := 12 }, 4, 292, [])
section
variable {l : Launch} {D : va_G} {dA : Nat → ClassId} {b n : Nat} {ad : Nat → Nat} {L : Nat → sdL} {sc : Option (Nat × Nat × (Nat → Int32))}
def w_S_init (o : Nat) (M : sdM) (Q : sdM → Prop) : Prop := ∀ M1 : sdM, M1 = va_up M (o + 1) (fun _ => 0) → ∀ M3 : sdM, M3 = va_up M1 (o + 2) (fun _ => 0) → ∀ M5 : sdM, M5 = va_up M3 (o + 3) (fun _ => 0) → ∀ M7 : sdM, M7 = va_up M5 (o + 4) (fun _ => 0) → ∀ M9 : sdM, M9 = sd_s M7 (o + 1) 0 (1 : Int32) → Q M9
set_option maxHeartbeats 4000000 in
set_option maxRecDepth 100000 in
theorem c_S_init {o : Nat} (hA : sd_ad b (o + 1) ad) (hT : l.stackTraces = false) (hloc : sd_loc (o + 1) L) (hlo : L o = sd_O 2 [some none, some none, some none, some none]) {Q : sdM → Prop} {M : sdM} (hw : w_S_init o M Q) : sd_CnF l (sdE0 sc) y_S_init Y_S_init.2.2.2.2.1 Y_S_init.2.2.2.2.2.1 4 292 D (sd_tys dA) b (o + 1) ad L M [.ref o] (fun M' H => ∃ (ad2 : Nat → Nat) (L2 : Nat → sdL), (∀ k, k < (o + 1) → ad2 k = ad k) ∧ sd_ad b (o + 5) ad2 ∧ sd_loc (o + 5) L2 ∧ (∀ k, k < o → L2 k = L k) ∧ isS (o + 5) L2 dA o ∧ sd_H D (sdE0 sc).1 (o + 5) ad2 L2 M' H) (sd_qv Q) sd_xf := by
  refine sd_enterF (Y := Y_S_init) rfl rfl rfl rfl (Nat.le_of_ble_eq_true rfl) ?_
  show sdW l (sdE0 sc) Y_S_init D (sd_tys dA) b (o + 1) ad L ad _ _ _ 0 [(0, .ref o)] [] M 4 292
  unfold w_S_init at hw
  refine x_aload_n 0 0 d_S_init_0 rfl rfl ?_
  refine x_objInit d_S_init_1 (List.mem_cons_of_mem _ q597) (List.mem_cons_of_mem _ q64) (List.mem_cons_of_mem _ q65) (by decide) (Nat.le_of_ble_eq_true rfl) ?_
  refine x_aload_n 0 0 d_S_init_4 rfl rfl ?_
  refine x_iconst (v := 4) d_S_init_5 (by decide) ?_
  refine x_newI (rc := 3) (rs := 288) (n := (o + 1)) (t0 := 0) (len := 4) hA hloc (List.forall_mem_cons.mpr ⟨(sd_bel_r (by omega)), fun _ h => absurd h List.not_mem_nil⟩) (List.forall_mem_cons.mpr ⟨(sd_bel_r (by omega)), fun _ h => absurd h List.not_mem_nil⟩) d_S_init_6 rfl (by decide) (List.mem_cons_of_mem _ q598) rfl (by decide) (by decide) (by decide) rfl rfl (fun ad1 M1 hA1 hl1 hu1 hq1 e1 => ?_)
  replace hw := hw M1 e1
  clear e1
  have hy1 : va_up L (o + 1) (sd_I (dA 0) 4) (o + 1) = (sd_I (dA 0) 4) := va_up_self _ _ _
  generalize va_up L (o + 1) (sd_I (dA 0) 4) = L1 at hl1 hu1 hy1 ⊢
  replace hlo : L1 o = sd_O 2 [some none, some none, some none, some none] := (hu1.2 o (by omega)).trans hlo
  refine x_putr 0 (o + 1) (ty := .array .int) hA1 (fun _ _ _ _ _ _ h => h.2.2.2.2 y_S_init _ _ _ _ rfl) d_S_init_8 (by omega) hlo (Nat.le_of_ble_eq_true rfl) rfl (by decide) lay_S (List.mem_cons_of_mem _ q0) rfl ty_S ty_S_ok nm_S rfl rfl (by decide +kernel) rfl rfl ?_
  obtain ⟨L2, hL2⟩ : ∃ z, z = va_up L1 o (sd_O 2 [some (some (o + 1)), some none, some none, some none]) := ⟨_, rfl⟩
  show sdW l (sdE0 sc) Y_S_init D (sd_tys dA) b _ _ (va_up L1 o (sd_O 2 [some (some (o + 1)), some none, some none, some none])) ad _ _ _ _ _ _ _ _ _
  rw [← hL2]
  have hn2 : ∀ k, k ≠ o → L2 k = L1 k := fun k h => by rw [hL2]; exact va_up_ne _ _ h
  have hl2 : sd_loc (o + 2) L2 := by rw [hL2]; exact sd_loc_at hl1 (fun a a2 f e => by show (Sum.inr (2, sd_fv a f 0 [some (some (o + 1)), some none, some none, some none]) : va_E) = Sum.inr (2, sd_fv a2 f 0 [some (some (o + 1)), some none, some none, some none]); simp only [sd_fv, sd_fx]; rw [e (o + 1) (by omega)])
  replace hlo : L2 o = sd_O 2 [some (some (o + 1)), some none, some none, some none] := by rw [hL2]; exact va_up_self _ _ _
  clear hL2
  replace hy1 : L2 (o + 1) = (sd_I (dA 0) 4) := (hn2 (o + 1) (by omega)).trans hy1
  refine x_aload_n 0 0 d_S_init_11 rfl rfl ?_
  refine x_bipush (v := 48) d_S_init_12 (by decide) ?_
  refine x_newI (rc := 2) (rs := 240) (n := (o + 2)) (t0 := 0) (len := 48) hA1 hl2 (List.forall_mem_cons.mpr ⟨(sd_bel_r (by omega)), fun _ h => absurd h List.not_mem_nil⟩) (List.forall_mem_cons.mpr ⟨(sd_bel_r (by omega)), fun _ h => absurd h List.not_mem_nil⟩) d_S_init_14 rfl (by decide) (List.mem_cons_of_mem _ q598) rfl (by decide) (by decide) (by decide) rfl rfl (fun ad3 M3 hA3 hl3 hu3 hq3 e3 => ?_)
  replace hw := hw M3 e3
  clear e3
  have hy3 : va_up L2 (o + 2) (sd_I (dA 0) 48) (o + 2) = (sd_I (dA 0) 48) := va_up_self _ _ _
  generalize va_up L2 (o + 2) (sd_I (dA 0) 48) = L3 at hl3 hu3 hy3 ⊢
  replace hlo : L3 o = sd_O 2 [some (some (o + 1)), some none, some none, some none] := (hu3.2 o (by omega)).trans hlo
  replace hy1 : L3 (o + 1) = (sd_I (dA 0) 4) := (hu3.2 (o + 1) (by omega)).trans hy1
  refine x_putr 1 (o + 2) (ty := .array .int) hA3 (fun _ _ _ _ _ _ h => h.2.2.2.2 y_S_init _ _ _ _ rfl) d_S_init_16 (by omega) hlo (Nat.le_of_ble_eq_true rfl) rfl (by decide) lay_S (List.mem_cons_of_mem _ q16) rfl ty_S ty_S_ok nm_S rfl rfl (by decide +kernel) rfl rfl ?_
  obtain ⟨L4, hL4⟩ : ∃ z, z = va_up L3 o (sd_O 2 [some (some (o + 1)), some (some (o + 2)), some none, some none]) := ⟨_, rfl⟩
  show sdW l (sdE0 sc) Y_S_init D (sd_tys dA) b _ _ (va_up L3 o (sd_O 2 [some (some (o + 1)), some (some (o + 2)), some none, some none])) ad _ _ _ _ _ _ _ _ _
  rw [← hL4]
  have hn4 : ∀ k, k ≠ o → L4 k = L3 k := fun k h => by rw [hL4]; exact va_up_ne _ _ h
  have hl4 : sd_loc (o + 3) L4 := by rw [hL4]; exact sd_loc_at hl3 (fun a a2 f e => by show (Sum.inr (2, sd_fv a f 0 [some (some (o + 1)), some (some (o + 2)), some none, some none]) : va_E) = Sum.inr (2, sd_fv a2 f 0 [some (some (o + 1)), some (some (o + 2)), some none, some none]); simp only [sd_fv, sd_fx]; rw [e (o + 1) (by omega), e (o + 2) (by omega)])
  replace hlo : L4 o = sd_O 2 [some (some (o + 1)), some (some (o + 2)), some none, some none] := by rw [hL4]; exact va_up_self _ _ _
  clear hL4
  replace hy1 : L4 (o + 1) = (sd_I (dA 0) 4) := (hn4 (o + 1) (by omega)).trans hy1
  replace hy3 : L4 (o + 2) = (sd_I (dA 0) 48) := (hn4 (o + 2) (by omega)).trans hy3
  refine x_aload_n 0 0 d_S_init_19 rfl rfl ?_
  refine x_sipush (v := 192) d_S_init_20 (by decide) ?_
  refine x_newI (rc := 1) (rs := 48) (n := (o + 3)) (t0 := 0) (len := 192) hA3 hl4 (List.forall_mem_cons.mpr ⟨(sd_bel_r (by omega)), fun _ h => absurd h List.not_mem_nil⟩) (List.forall_mem_cons.mpr ⟨(sd_bel_r (by omega)), fun _ h => absurd h List.not_mem_nil⟩) d_S_init_23 rfl (by decide) (List.mem_cons_of_mem _ q598) rfl (by decide) (by decide) (by decide) rfl rfl (fun ad5 M5 hA5 hl5 hu5 hq5 e5 => ?_)
  replace hw := hw M5 e5
  clear e5
  have hy5 : va_up L4 (o + 3) (sd_I (dA 0) 192) (o + 3) = (sd_I (dA 0) 192) := va_up_self _ _ _
  generalize va_up L4 (o + 3) (sd_I (dA 0) 192) = L5 at hl5 hu5 hy5 ⊢
  replace hlo : L5 o = sd_O 2 [some (some (o + 1)), some (some (o + 2)), some none, some none] := (hu5.2 o (by omega)).trans hlo
  replace hy1 : L5 (o + 1) = (sd_I (dA 0) 4) := (hu5.2 (o + 1) (by omega)).trans hy1
  replace hy3 : L5 (o + 2) = (sd_I (dA 0) 48) := (hu5.2 (o + 2) (by omega)).trans hy3
  refine x_putr 2 (o + 3) (ty := .array .int) hA5 (fun _ _ _ _ _ _ h => h.2.2.2.2 y_S_init _ _ _ _ rfl) d_S_init_25 (by omega) hlo (Nat.le_of_ble_eq_true rfl) rfl (by decide) lay_S (List.mem_cons_of_mem _ q2) rfl ty_S ty_S_ok nm_S rfl rfl (by decide +kernel) rfl rfl ?_
  obtain ⟨L6, hL6⟩ : ∃ z, z = va_up L5 o (sd_O 2 [some (some (o + 1)), some (some (o + 2)), some (some (o + 3)), some none]) := ⟨_, rfl⟩
  show sdW l (sdE0 sc) Y_S_init D (sd_tys dA) b _ _ (va_up L5 o (sd_O 2 [some (some (o + 1)), some (some (o + 2)), some (some (o + 3)), some none])) ad _ _ _ _ _ _ _ _ _
  rw [← hL6]
  have hn6 : ∀ k, k ≠ o → L6 k = L5 k := fun k h => by rw [hL6]; exact va_up_ne _ _ h
  have hl6 : sd_loc (o + 4) L6 := by rw [hL6]; exact sd_loc_at hl5 (fun a a2 f e => by show (Sum.inr (2, sd_fv a f 0 [some (some (o + 1)), some (some (o + 2)), some (some (o + 3)), some none]) : va_E) = Sum.inr (2, sd_fv a2 f 0 [some (some (o + 1)), some (some (o + 2)), some (some (o + 3)), some none]); simp only [sd_fv, sd_fx]; rw [e (o + 1) (by omega), e (o + 2) (by omega), e (o + 3) (by omega)])
  replace hlo : L6 o = sd_O 2 [some (some (o + 1)), some (some (o + 2)), some (some (o + 3)), some none] := by rw [hL6]; exact va_up_self _ _ _
  clear hL6
  replace hy1 : L6 (o + 1) = (sd_I (dA 0) 4) := (hn6 (o + 1) (by omega)).trans hy1
  replace hy3 : L6 (o + 2) = (sd_I (dA 0) 48) := (hn6 (o + 2) (by omega)).trans hy3
  replace hy5 : L6 (o + 3) = (sd_I (dA 0) 192) := (hn6 (o + 3) (by omega)).trans hy5
  refine x_aload_n 0 0 d_S_init_28 rfl rfl ?_
  refine x_bipush (v := 48) d_S_init_29 (by decide) ?_
  refine x_newI (rc := 0) (rs := 0) (n := (o + 4)) (t0 := 0) (len := 48) hA5 hl6 (List.forall_mem_cons.mpr ⟨(sd_bel_r (by omega)), fun _ h => absurd h List.not_mem_nil⟩) (List.forall_mem_cons.mpr ⟨(sd_bel_r (by omega)), fun _ h => absurd h List.not_mem_nil⟩) d_S_init_31 rfl (by decide) (List.mem_cons_of_mem _ q598) rfl (by decide) (by decide) (by decide) rfl rfl (fun ad7 M7 hA7 hl7 hu7 hq7 e7 => ?_)
  replace hw := hw M7 e7
  clear e7
  have hy7 : va_up L6 (o + 4) (sd_I (dA 0) 48) (o + 4) = (sd_I (dA 0) 48) := va_up_self _ _ _
  generalize va_up L6 (o + 4) (sd_I (dA 0) 48) = L7 at hl7 hu7 hy7 ⊢
  replace hlo : L7 o = sd_O 2 [some (some (o + 1)), some (some (o + 2)), some (some (o + 3)), some none] := (hu7.2 o (by omega)).trans hlo
  replace hy1 : L7 (o + 1) = (sd_I (dA 0) 4) := (hu7.2 (o + 1) (by omega)).trans hy1
  replace hy3 : L7 (o + 2) = (sd_I (dA 0) 48) := (hu7.2 (o + 2) (by omega)).trans hy3
  replace hy5 : L7 (o + 3) = (sd_I (dA 0) 192) := (hu7.2 (o + 3) (by omega)).trans hy5
  refine x_putr 3 (o + 4) (ty := .array .int) hA7 (fun _ _ _ _ _ _ h => h.2.2.2.2 y_S_init _ _ _ _ rfl) d_S_init_33 (by omega) hlo (Nat.le_of_ble_eq_true rfl) rfl (by decide) lay_S (List.mem_cons_of_mem _ q1) rfl ty_S ty_S_ok nm_S rfl rfl (by decide +kernel) rfl rfl ?_
  obtain ⟨L8, hL8⟩ : ∃ z, z = va_up L7 o (sd_O 2 [some (some (o + 1)), some (some (o + 2)), some (some (o + 3)), some (some (o + 4))]) := ⟨_, rfl⟩
  show sdW l (sdE0 sc) Y_S_init D (sd_tys dA) b _ _ (va_up L7 o (sd_O 2 [some (some (o + 1)), some (some (o + 2)), some (some (o + 3)), some (some (o + 4))])) ad _ _ _ _ _ _ _ _ _
  rw [← hL8]
  have hn8 : ∀ k, k ≠ o → L8 k = L7 k := fun k h => by rw [hL8]; exact va_up_ne _ _ h
  have hl8 : sd_loc (o + 5) L8 := by rw [hL8]; exact sd_loc_at hl7 (fun a a2 f e => by show (Sum.inr (2, sd_fv a f 0 [some (some (o + 1)), some (some (o + 2)), some (some (o + 3)), some (some (o + 4))]) : va_E) = Sum.inr (2, sd_fv a2 f 0 [some (some (o + 1)), some (some (o + 2)), some (some (o + 3)), some (some (o + 4))]); simp only [sd_fv, sd_fx]; rw [e (o + 1) (by omega), e (o + 2) (by omega), e (o + 3) (by omega), e (o + 4) (by omega)])
  replace hlo : L8 o = sd_O 2 [some (some (o + 1)), some (some (o + 2)), some (some (o + 3)), some (some (o + 4))] := by rw [hL8]; exact va_up_self _ _ _
  clear hL8
  replace hy1 : L8 (o + 1) = (sd_I (dA 0) 4) := (hn8 (o + 1) (by omega)).trans hy1
  replace hy3 : L8 (o + 2) = (sd_I (dA 0) 48) := (hn8 (o + 2) (by omega)).trans hy3
  replace hy5 : L8 (o + 3) = (sd_I (dA 0) 192) := (hn8 (o + 3) (by omega)).trans hy5
  replace hy7 : L8 (o + 4) = (sd_I (dA 0) 48) := (hn8 (o + 4) (by omega)).trans hy7
  refine x_aload_n 0 0 d_S_init_36 rfl rfl ?_
  refine x_getr 0 (o + 1) d_S_init_37 (by omega) hlo rfl rfl (by decide) lay_S (List.mem_cons_of_mem _ q0) rfl ?_
  refine x_iconst (v := 0) d_S_init_40 (by decide) ?_
  refine x_iconst (v := 1) d_S_init_41 (by decide) ?_
  refine x_iast hA7 d_S_init_42 (by omega) hy1 rfl (vp_in_nI (n := 0) (N := 4) (by decide) (by decide)) (fun M9 e9 => ?_)
  replace hw := hw M9 e9
  clear e9
  exact x_vret d_S_init_43 rfl (fun H h => ⟨ad7, L8, (fun k hk => ((hq7 k (by omega)).trans ((hq5 k (by omega)).trans ((hq3 k (by omega)).trans (hq1 k (by omega)))))), hA7, hl8, (fun k hk => ((hn8 k (by omega)).trans ((hu7.2 k (by omega)).trans ((hn6 k (by omega)).trans ((hu5.2 k (by omega)).trans ((hn4 k (by omega)).trans ((hu3.2 k (by omega)).trans ((hn2 k (by omega)).trans (hu1.2 k (by omega)))))))))), ⟨by omega, hlo, ⟨by omega, hy1⟩, ⟨by omega, hy3⟩, ⟨by omega, hy5⟩, ⟨by omega, hy7⟩⟩, h⟩) ⟨rfl, hw⟩
end
theorem q599 : (.methodLink "SettingsDesk$Session" 1 ⟨"java/lang/Object", "<init>", "()V"⟩ : Cond) ∈ sdB0 := sd_tb1 183 rfl rfl
theorem q600 : (.fieldLink "SettingsDesk$Session" 7 "SettingsDesk$Session" "begun" "Z" : Cond) ∈ sdB0 := sd_tb1 186 rfl rfl
theorem q601 : (.classLink "SettingsDesk$Session" 13 "SettingsDesk$Settings" : Cond) ∈ sdB0 := sd_tb1 184 rfl rfl
theorem q602 : (.instantiable "SettingsDesk$Settings" 4 : Cond) ∈ sdB0 := sd_tb1 132 rfl rfl
theorem q603 : (.code ⟨"SettingsDesk$Settings", "<init>", "()V"⟩ prog_9_method_1_code 1 none : Cond) ∈ sdB0 := sd_tb1 135 rfl rfl
theorem q604 : (.instanceMethod ⟨"SettingsDesk$Settings", "<init>", "()V"⟩ : Cond) ∈ sdB0 := sd_tb1 134 rfl rfl
theorem q605 : (.methodLink "SettingsDesk$Session" 15 ⟨"SettingsDesk$Settings", "<init>", "()V"⟩ : Cond) ∈ sdB0 := sd_tb1 185 rfl rfl
abbrev y_N_init : MethodName := ⟨"SettingsDesk$Session", "<init>", "()V"⟩
theorem d_N_init_0 : decode prog_8_method_1_code 0 = .ok (.aload_n 0, 1) := by decide +kernel
theorem d_N_init_1 : decode prog_8_method_1_code 1 = .ok (.invokespecial 1, 3) := by decide +kernel
theorem d_N_init_4 : decode prog_8_method_1_code 4 = .ok (.aload_n 0, 1) := by decide +kernel
theorem d_N_init_5 : decode prog_8_method_1_code 5 = .ok (.iconst 0, 1) := by decide +kernel
theorem d_N_init_6 : decode prog_8_method_1_code 6 = .ok (.putfield 7, 3) := by decide +kernel
theorem d_N_init_9 : decode prog_8_method_1_code 9 = .ok (.aload_n 0, 1) := by decide +kernel
theorem d_N_init_10 : decode prog_8_method_1_code 10 = .ok (.new 13, 3) := by decide +kernel
theorem d_N_init_13 : decode prog_8_method_1_code 13 = .ok (.dup, 1) := by decide +kernel
theorem d_N_init_14 : decode prog_8_method_1_code 14 = .ok (.invokespecial 15, 3) := by decide +kernel
theorem d_N_init_17 : decode prog_8_method_1_code 17 = .ok (.putfield 16, 3) := by decide +kernel
theorem d_N_init_20 : decode prog_8_method_1_code 20 = .ok (.aload_n 0, 1) := by decide +kernel
theorem d_N_init_21 : decode prog_8_method_1_code 21 = .ok (.new 13, 3) := by decide +kernel
theorem d_N_init_24 : decode prog_8_method_1_code 24 = .ok (.dup, 1) := by decide +kernel
theorem d_N_init_25 : decode prog_8_method_1_code 25 = .ok (.invokespecial 15, 3) := by decide +kernel
theorem d_N_init_28 : decode prog_8_method_1_code 28 = .ok (.putfield 20, 3) := by decide +kernel
theorem d_N_init_31 : decode prog_8_method_1_code 31 = .ok (.return_, 1) := by decide +kernel
def Y_N_init : sdY := ("SettingsDesk$Session", prog_8_method_1_code, 1, none, .code y_N_init prog_8_method_1_code 1 none :: sdB0, { frames := 2, cells := 10, slots := 592, locals := 32 }, 10, 592, [])
section
variable {l : Launch} {D : va_G} {dA : Nat → ClassId} {b n : Nat} {ad : Nat → Nat} {L : Nat → sdL} {sc : Option (Nat × Nat × (Nat → Int32))}
def w_N_init (o : Nat) (M : sdM) (Q : sdM → Prop) : Prop := sdB (0 : Int32) ∧ ∀ M1 : sdM, M1 = sd_s M o 0 (0 : Int32) → ∀ M2 : sdM, M2 = va_up M1 (o + 1) (fun _ => 0) → w_S_init (o + 1) M2 (fun M3 => ∀ M5 : sdM, M5 = va_up M3 (o + 6) (fun _ => 0) → w_S_init (o + 6) M5 (fun M6 => Q M6))
set_option maxHeartbeats 4000000 in
set_option maxRecDepth 100000 in
theorem c_N_init {o : Nat} (hA : sd_ad b (o + 1) ad) (hT : l.stackTraces = false) (hloc : sd_loc (o + 1) L) (hlo : L o = sd_O 3 [none, some none, some none]) {Q : sdM → Prop} {M : sdM} (hw : w_N_init o M Q) : sd_CnF l (sdE0 sc) y_N_init Y_N_init.2.2.2.2.1 Y_N_init.2.2.2.2.2.1 10 592 D (sd_tys dA) b (o + 1) ad L M [.ref o] (fun M' H => ∃ (ad2 : Nat → Nat) (L2 : Nat → sdL), (∀ k, k < (o + 1) → ad2 k = ad k) ∧ sd_ad b (o + 11) ad2 ∧ sd_loc (o + 11) L2 ∧ (∀ k, k < o → L2 k = L k) ∧ isN (o + 11) L2 dA o ∧ sd_H D (sdE0 sc).1 (o + 11) ad2 L2 M' H) (sd_qv Q) sd_xf := by
  refine sd_enterF (Y := Y_N_init) rfl rfl rfl rfl (Nat.le_of_ble_eq_true rfl) ?_
  show sdW l (sdE0 sc) Y_N_init D (sd_tys dA) b (o + 1) ad L ad _ _ _ 0 [(0, .ref o)] [] M 10 592
  unfold w_N_init at hw
  refine x_aload_n 0 0 d_N_init_0 rfl rfl ?_
  refine x_objInit d_N_init_1 (List.mem_cons_of_mem _ q599) (List.mem_cons_of_mem _ q64) (List.mem_cons_of_mem _ q65) (by decide) (Nat.le_of_ble_eq_true rfl) ?_
  refine x_aload_n 0 0 d_N_init_4 rfl rfl ?_
  refine x_iconst (v := 0) d_N_init_5 (by decide) ?_
  obtain ⟨hb1, hw⟩ := hw
  refine x_puti 0 (ty := .boolean) hA d_N_init_6 (by omega) hlo rfl rfl (by decide) lay_N (List.mem_cons_of_mem _ q600) rfl ty_N ty_N_ok nm_N rfl (by decide +kernel) (sdB_n hb1) (sdB_f hb1) (fun M1 e1 => ?_)
  replace hw := hw M1 e1
  clear e1
  refine x_aload_n 0 0 d_N_init_9 rfl rfl ?_
  refine x_new (rc := 9) (rs := 588) (n := (o + 1)) [some none, some none, some none, some none] hA hloc (List.forall_mem_cons.mpr ⟨(sd_bel_r (by omega)), fun _ h => absurd h List.not_mem_nil⟩) (List.forall_mem_cons.mpr ⟨(sd_bel_r (by omega)), fun _ h => absurd h List.not_mem_nil⟩) d_N_init_10 (ci := 2) (N := 4) (C := "SettingsDesk$Settings") (T := T_S) rfl ty_S ty_S_ok lay_S (List.mem_cons_of_mem _ q601) (List.mem_cons_of_mem _ q602) (List.mem_cons_of_mem _ q7) (sd_nr rfl) (by decide +kernel) rfl rfl (fun ad2 L2 M2 hA2 hl2 hu2 hy2 hq2 e2 => ?_)
  replace hw := hw M2 e2
  clear e2
  replace hlo : L2 o = sd_O 3 [none, some none, some none] := (hu2.2 o (by omega)).trans hlo
  refine x_dup d_N_init_13 rfl ?_
  refine x_callIg (As := []) (t := (o + 1)) (rest := [.ref (o + 1), .ref o]) (rc := 5) (rs := 296) (na := 0) (host := "SettingsDesk") (c_S_init (o := (o + 1)) hA2 hT hl2 hy2 hw) (sd_goodB q603) ⟨_, rfl⟩ (List.mem_cons_of_mem _ q7) (List.mem_cons_of_mem _ q604) (Or.inl (List.mem_cons_of_mem _ q605)) ⟨rfl, by decide, by decide, by decide +kernel⟩ ⟨rfl, rfl, rfl, rfl⟩ ⟨by decide, by decide⟩ d_N_init_14 rfl rfl (Nat.le_of_ble_eq_true rfl) (fun _ _ h => h) (fun v M3 H3 hq9 hF9 => ?_)
  obtain ⟨ad3, L3, hq3, hA3, hl3, hk3, hs3, hH3⟩ := hF9
  refine ⟨hq9.1, (o + 6), ad3, L3, hH3, sd_l_ext hq3 (List.forall_mem_cons.mpr ⟨(sd_bel_r (by omega)), fun _ h => absurd h List.not_mem_nil⟩), sd_map_ext hq3 (List.forall_mem_cons.mpr ⟨(sd_bel_r (by omega)), List.forall_mem_cons.mpr ⟨(sd_bel_r (by omega)), fun _ h => absurd h List.not_mem_nil⟩⟩), ?_⟩
  have hw := hq9.2
  clear hq9
  clear hH3
  replace hlo : L3 o = sd_O 3 [none, some none, some none] := (hk3 o (by omega)).trans hlo
  refine x_putr 1 (o + 1) (ty := .object "SettingsDesk$Settings") hA3 (fun _ _ _ _ _ _ h => h.2.2.2.2 y_N_init _ _ _ _ rfl) d_N_init_17 (by omega) hlo (Nat.le_of_ble_eq_true rfl) rfl (by decide) lay_N (List.mem_cons_of_mem _ q99) rfl ty_N ty_N_ok nm_N rfl rfl (by decide +kernel) rfl rfl ?_
  obtain ⟨L4, hL4⟩ : ∃ z, z = va_up L3 o (sd_O 3 [none, some (some (o + 1)), some none]) := ⟨_, rfl⟩
  show sdW l (sdE0 sc) Y_N_init D (sd_tys dA) b _ _ (va_up L3 o (sd_O 3 [none, some (some (o + 1)), some none])) ad _ _ _ _ _ _ _ _ _
  rw [← hL4]
  have hn4 : ∀ k, k ≠ o → L4 k = L3 k := fun k h => by rw [hL4]; exact va_up_ne _ _ h
  have hl4 : sd_loc (o + 6) L4 := by rw [hL4]; exact sd_loc_at hl3 (fun a a2 f e => by show (Sum.inr (3, sd_fv a f 0 [none, some (some (o + 1)), some none]) : va_E) = Sum.inr (3, sd_fv a2 f 0 [none, some (some (o + 1)), some none]); simp only [sd_fv, sd_fx]; rw [e (o + 1) (by omega)])
  replace hlo : L4 o = sd_O 3 [none, some (some (o + 1)), some none] := by rw [hL4]; exact va_up_self _ _ _
  clear hL4
  replace hs3 : isS (o + 6) L4 dA (o + 1) := hs3.cg (by omega) (fun k h1 h2 => hn4 k (by omega))
  refine x_aload_n 0 0 d_N_init_20 rfl rfl ?_
  refine x_new (rc := 4) (rs := 292) (n := (o + 6)) [some none, some none, some none, some none] hA3 hl4 (List.forall_mem_cons.mpr ⟨(sd_bel_r (by omega)), fun _ h => absurd h List.not_mem_nil⟩) (List.forall_mem_cons.mpr ⟨(sd_bel_r (by omega)), fun _ h => absurd h List.not_mem_nil⟩) d_N_init_21 (ci := 2) (N := 4) (C := "SettingsDesk$Settings") (T := T_S) rfl ty_S ty_S_ok lay_S (List.mem_cons_of_mem _ q601) (List.mem_cons_of_mem _ q602) (List.mem_cons_of_mem _ q7) (sd_nr rfl) (by decide +kernel) rfl rfl (fun ad5 L5 M5 hA5 hl5 hu5 hy5 hq5 e5 => ?_)
  replace hw := hw M5 e5
  clear e5
  replace hlo : L5 o = sd_O 3 [none, some (some (o + 1)), some none] := (hu5.2 o (by omega)).trans hlo
  replace hs3 : isS (o + 7) L5 dA (o + 1) := hs3.cg (by omega) (fun k h1 h2 => hu5.2 k (by omega))
  refine x_dup d_N_init_24 rfl ?_
  refine x_callIg (As := []) (t := (o + 6)) (rest := [.ref (o + 6), .ref o]) (rc := 0) (rs := 0) (na := 0) (host := "SettingsDesk") (c_S_init (o := (o + 6)) hA5 hT hl5 hy5 hw) (sd_goodB q603) ⟨_, rfl⟩ (List.mem_cons_of_mem _ q7) (List.mem_cons_of_mem _ q604) (Or.inl (List.mem_cons_of_mem _ q605)) ⟨rfl, by decide, by decide, by decide +kernel⟩ ⟨rfl, rfl, rfl, rfl⟩ ⟨by decide, by decide⟩ d_N_init_25 rfl rfl (Nat.le_of_ble_eq_true rfl) (fun _ _ h => h) (fun v M6 H6 hq9 hF9 => ?_)
  obtain ⟨ad6, L6, hq6, hA6, hl6, hk6, hs6, hH6⟩ := hF9
  refine ⟨hq9.1, (o + 11), ad6, L6, hH6, sd_l_ext hq6 (List.forall_mem_cons.mpr ⟨(sd_bel_r (by omega)), fun _ h => absurd h List.not_mem_nil⟩), sd_map_ext hq6 (List.forall_mem_cons.mpr ⟨(sd_bel_r (by omega)), List.forall_mem_cons.mpr ⟨(sd_bel_r (by omega)), fun _ h => absurd h List.not_mem_nil⟩⟩), ?_⟩
  have hw := hq9.2
  clear hq9
  clear hH6
  replace hlo : L6 o = sd_O 3 [none, some (some (o + 1)), some none] := (hk6 o (by omega)).trans hlo
  replace hs3 : isS (o + 11) L6 dA (o + 1) := hs3.cg (by omega) (fun k h1 h2 => hk6 k (by omega))
  refine x_putr 2 (o + 6) (ty := .object "SettingsDesk$Settings") hA6 (fun _ _ _ _ _ _ h => h.2.2.2.2 y_N_init _ _ _ _ rfl) d_N_init_28 (by omega) hlo (Nat.le_of_ble_eq_true rfl) rfl (by decide) lay_N (List.mem_cons_of_mem _ q100) rfl ty_N ty_N_ok nm_N rfl rfl (by decide +kernel) rfl rfl ?_
  obtain ⟨L7, hL7⟩ : ∃ z, z = va_up L6 o (sd_O 3 [none, some (some (o + 1)), some (some (o + 6))]) := ⟨_, rfl⟩
  show sdW l (sdE0 sc) Y_N_init D (sd_tys dA) b _ _ (va_up L6 o (sd_O 3 [none, some (some (o + 1)), some (some (o + 6))])) ad _ _ _ _ _ _ _ _ _
  rw [← hL7]
  have hn7 : ∀ k, k ≠ o → L7 k = L6 k := fun k h => by rw [hL7]; exact va_up_ne _ _ h
  have hl7 : sd_loc (o + 11) L7 := by rw [hL7]; exact sd_loc_at hl6 (fun a a2 f e => by show (Sum.inr (3, sd_fv a f 0 [none, some (some (o + 1)), some (some (o + 6))]) : va_E) = Sum.inr (3, sd_fv a2 f 0 [none, some (some (o + 1)), some (some (o + 6))]); simp only [sd_fv, sd_fx]; rw [e (o + 1) (by omega), e (o + 6) (by omega)])
  replace hlo : L7 o = sd_O 3 [none, some (some (o + 1)), some (some (o + 6))] := by rw [hL7]; exact va_up_self _ _ _
  clear hL7
  replace hs3 : isS (o + 11) L7 dA (o + 1) := hs3.cg (by omega) (fun k h1 h2 => hn7 k (by omega))
  replace hs6 : isS (o + 11) L7 dA (o + 6) := hs6.cg (by omega) (fun k h1 h2 => hn7 k (by omega))
  exact x_vret d_N_init_31 rfl (fun H h => ⟨ad6, L7, (fun k hk => ((hq6 k (by omega)).trans ((hq5 k (by omega)).trans ((hq3 k (by omega)).trans (hq2 k (by omega)))))), hA6, hl7, (fun k hk => ((hn7 k (by omega)).trans ((hk6 k (by omega)).trans ((hu5.2 k (by omega)).trans ((hn4 k (by omega)).trans ((hk3 k (by omega)).trans (hu2.2 k (by omega)))))))), ⟨by omega, hlo, hs3, hs6⟩, h⟩) ⟨rfl, hw⟩
end
theorem q606 : (.methodLink "SettingsDesk$Schema" 3 ⟨"java/lang/Object", "<init>", "()V"⟩ : Cond) ∈ sdB0 := sd_tb1 35 rfl rfl
theorem q607 : (.fieldLink "SettingsDesk$Schema" 9 "SettingsDesk$Schema" "isReady" "Z" : Cond) ∈ sdB0 := sd_tb1 104 rfl rfl
theorem q608 : (.classLink "SettingsDesk$Schema" 23 "SettingsDesk$Leaf" : Cond) ∈ sdB0 := sd_tb1 36 rfl rfl
theorem q609 : (.classLink "SettingsDesk$Schema" 32 "SettingsDesk$Rule" : Cond) ∈ sdB0 := sd_tb1 38 rfl rfl
theorem q610 : (.instantiable "SettingsDesk$Leaf" 7 : Cond) ∈ sdB0 := sd_tb1 40 rfl rfl
theorem q611 : (.code ⟨"SettingsDesk$Leaf", "<init>", "()V"⟩ prog_4_method_1_code 1 none : Cond) ∈ sdB0 := sd_tb1 43 rfl rfl
theorem q612 : (.instanceMethod ⟨"SettingsDesk$Leaf", "<init>", "()V"⟩ : Cond) ∈ sdB0 := sd_tb1 42 rfl rfl
theorem q613 : (.instantiable "SettingsDesk$Rule" 5 : Cond) ∈ sdB0 := sd_tb1 78 rfl rfl
theorem q614 : (.initialized "SettingsDesk$Rule" : Cond) ∈ sdB0 := sd_tb1 4 rfl rfl
theorem q615 : (.code ⟨"SettingsDesk$Rule", "<init>", "()V"⟩ prog_6_method_1_code 1 none : Cond) ∈ sdB0 := sd_tb1 81 rfl rfl
theorem q616 : (.instanceMethod ⟨"SettingsDesk$Rule", "<init>", "()V"⟩ : Cond) ∈ sdB0 := sd_tb1 80 rfl rfl
abbrev y_C_init : MethodName := ⟨"SettingsDesk$Schema", "<init>", "()V"⟩
theorem d_C_init_0 : decode prog_7_method_1_code 0 = .ok (.aload_n 0, 1) := by decide +kernel
theorem d_C_init_1 : decode prog_7_method_1_code 1 = .ok (.invokespecial 3, 3) := by decide +kernel
theorem d_C_init_4 : decode prog_7_method_1_code 4 = .ok (.aload_n 0, 1) := by decide +kernel
theorem d_C_init_5 : decode prog_7_method_1_code 5 = .ok (.iconst 0, 1) := by decide +kernel
theorem d_C_init_6 : decode prog_7_method_1_code 6 = .ok (.putfield 9, 3) := by decide +kernel
theorem d_C_init_9 : decode prog_7_method_1_code 9 = .ok (.aload_n 0, 1) := by decide +kernel
theorem d_C_init_10 : decode prog_7_method_1_code 10 = .ok (.iconst 1, 1) := by decide +kernel
theorem d_C_init_11 : decode prog_7_method_1_code 11 = .ok (.putfield 15, 3) := by decide +kernel
theorem d_C_init_14 : decode prog_7_method_1_code 14 = .ok (.aload_n 0, 1) := by decide +kernel
theorem d_C_init_15 : decode prog_7_method_1_code 15 = .ok (.iconst 4, 1) := by decide +kernel
theorem d_C_init_16 : decode prog_7_method_1_code 16 = .ok (.newarray .int, 2) := by decide +kernel
theorem d_C_init_18 : decode prog_7_method_1_code 18 = .ok (.putfield 19, 3) := by decide +kernel
theorem d_C_init_21 : decode prog_7_method_1_code 21 = .ok (.aload_n 0, 1) := by decide +kernel
theorem d_C_init_22 : decode prog_7_method_1_code 22 = .ok (.bipush (16), 2) := by decide +kernel
theorem d_C_init_24 : decode prog_7_method_1_code 24 = .ok (.anewarray 23, 3) := by decide +kernel
theorem d_C_init_27 : decode prog_7_method_1_code 27 = .ok (.putfield 25, 3) := by decide +kernel
theorem d_C_init_30 : decode prog_7_method_1_code 30 = .ok (.aload_n 0, 1) := by decide +kernel
theorem d_C_init_31 : decode prog_7_method_1_code 31 = .ok (.iconst 0, 1) := by decide +kernel
theorem d_C_init_32 : decode prog_7_method_1_code 32 = .ok (.putfield 29, 3) := by decide +kernel
theorem d_C_init_35 : decode prog_7_method_1_code 35 = .ok (.aload_n 0, 1) := by decide +kernel
theorem d_C_init_36 : decode prog_7_method_1_code 36 = .ok (.iconst 4, 1) := by decide +kernel
theorem d_C_init_37 : decode prog_7_method_1_code 37 = .ok (.anewarray 32, 3) := by decide +kernel
theorem d_C_init_40 : decode prog_7_method_1_code 40 = .ok (.putfield 34, 3) := by decide +kernel
theorem d_C_init_43 : decode prog_7_method_1_code 43 = .ok (.iconst 0, 1) := by decide +kernel
theorem d_C_init_44 : decode prog_7_method_1_code 44 = .ok (.istore_n 1, 1) := by decide +kernel
theorem d_C_init_45 : decode prog_7_method_1_code 45 = .ok (.iload_n 1, 1) := by decide +kernel
theorem d_C_init_46 : decode prog_7_method_1_code 46 = .ok (.bipush (16), 2) := by decide +kernel
theorem d_C_init_48 : decode prog_7_method_1_code 48 = .ok (.if_icmp .ge (22), 3) := by decide +kernel
theorem d_C_init_51 : decode prog_7_method_1_code 51 = .ok (.aload_n 0, 1) := by decide +kernel
theorem d_C_init_52 : decode prog_7_method_1_code 52 = .ok (.getfield 25, 3) := by decide +kernel
theorem d_C_init_55 : decode prog_7_method_1_code 55 = .ok (.iload_n 1, 1) := by decide +kernel
theorem d_C_init_56 : decode prog_7_method_1_code 56 = .ok (.new 23, 3) := by decide +kernel
theorem d_C_init_59 : decode prog_7_method_1_code 59 = .ok (.dup, 1) := by decide +kernel
theorem d_C_init_60 : decode prog_7_method_1_code 60 = .ok (.invokespecial 38, 3) := by decide +kernel
theorem d_C_init_63 : decode prog_7_method_1_code 63 = .ok (.aastore, 1) := by decide +kernel
theorem d_C_init_64 : decode prog_7_method_1_code 64 = .ok (.iinc 1 (1), 3) := by decide +kernel
theorem d_C_init_67 : decode prog_7_method_1_code 67 = .ok (.goto (-22), 3) := by decide +kernel
theorem d_C_init_70 : decode prog_7_method_1_code 70 = .ok (.iconst 0, 1) := by decide +kernel
theorem d_C_init_71 : decode prog_7_method_1_code 71 = .ok (.istore_n 1, 1) := by decide +kernel
theorem d_C_init_72 : decode prog_7_method_1_code 72 = .ok (.iload_n 1, 1) := by decide +kernel
theorem d_C_init_73 : decode prog_7_method_1_code 73 = .ok (.iconst 4, 1) := by decide +kernel
theorem d_C_init_74 : decode prog_7_method_1_code 74 = .ok (.if_icmp .ge (22), 3) := by decide +kernel
theorem d_C_init_77 : decode prog_7_method_1_code 77 = .ok (.aload_n 0, 1) := by decide +kernel
theorem d_C_init_78 : decode prog_7_method_1_code 78 = .ok (.getfield 34, 3) := by decide +kernel
theorem d_C_init_81 : decode prog_7_method_1_code 81 = .ok (.iload_n 1, 1) := by decide +kernel
theorem d_C_init_82 : decode prog_7_method_1_code 82 = .ok (.new 32, 3) := by decide +kernel
theorem d_C_init_85 : decode prog_7_method_1_code 85 = .ok (.dup, 1) := by decide +kernel
theorem d_C_init_86 : decode prog_7_method_1_code 86 = .ok (.invokespecial 39, 3) := by decide +kernel
theorem d_C_init_89 : decode prog_7_method_1_code 89 = .ok (.aastore, 1) := by decide +kernel
theorem d_C_init_90 : decode prog_7_method_1_code 90 = .ok (.iinc 1 (1), 3) := by decide +kernel
theorem d_C_init_93 : decode prog_7_method_1_code 93 = .ok (.goto (-21), 3) := by decide +kernel
theorem d_C_init_96 : decode prog_7_method_1_code 96 = .ok (.return_, 1) := by decide +kernel
def Y_C_init : sdY := ("SettingsDesk$Schema", prog_7_method_1_code, 2, none, .code y_C_init prog_7_method_1_code 2 none :: sdB0, { frames := 2, cells := 23, slots := 156, locals := 32 }, 23, 156, [])
section
variable {l : Launch} {D : va_G} {dA : Nat → ClassId} {b n : Nat} {ad : Nat → Nat} {L : Nat → sdL} {sc : Option (Nat × Nat × (Nat → Int32))}
def w_C_init (M : sdM) (Q : sdM → Prop) : Prop := sdB (0 : Int32) ∧ ∀ M1 : sdM, M1 = sd_s M 1 0 (0 : Int32) → ∀ M2 : sdM, M2 = sd_s M1 1 1 (1 : Int32) → ∀ M3 : sdM, M3 = va_up M2 2 (fun _ => 0) → ∀ M5 : sdM, M5 = va_up M3 3 (fun _ => 0) → ∀ M7 : sdM, M7 = sd_s M5 1 4 (0 : Int32) → ∀ M8 : sdM, M8 = va_up M7 4 (fun _ => 0) → ∀ M10 : sdM, M10 = va_up M8 5 (fun _ => 0) → w_F_init 5 M10 (fun M11 => ∀ M13 : sdM, M13 = va_up M11 6 (fun _ => 0) → w_F_init 6 M13 (fun M14 => ∀ M16 : sdM, M16 = va_up M14 7 (fun _ => 0) → w_F_init 7 M16 (fun M17 => ∀ M19 : sdM, M19 = va_up M17 8 (fun _ => 0) → w_F_init 8 M19 (fun M20 => ∀ M22 : sdM, M22 = va_up M20 9 (fun _ => 0) → w_F_init 9 M22 (fun M23 => ∀ M25 : sdM, M25 = va_up M23 10 (fun _ => 0) → w_F_init 10 M25 (fun M26 => ∀ M28 : sdM, M28 = va_up M26 11 (fun _ => 0) → w_F_init 11 M28 (fun M29 => ∀ M31 : sdM, M31 = va_up M29 12 (fun _ => 0) → w_F_init 12 M31 (fun M32 => ∀ M34 : sdM, M34 = va_up M32 13 (fun _ => 0) → w_F_init 13 M34 (fun M35 => ∀ M37 : sdM, M37 = va_up M35 14 (fun _ => 0) → w_F_init 14 M37 (fun M38 => ∀ M40 : sdM, M40 = va_up M38 15 (fun _ => 0) → w_F_init 15 M40 (fun M41 => ∀ M43 : sdM, M43 = va_up M41 16 (fun _ => 0) → w_F_init 16 M43 (fun M44 => ∀ M46 : sdM, M46 = va_up M44 17 (fun _ => 0) → w_F_init 17 M46 (fun M47 => ∀ M49 : sdM, M49 = va_up M47 18 (fun _ => 0) → w_F_init 18 M49 (fun M50 => ∀ M52 : sdM, M52 = va_up M50 19 (fun _ => 0) → w_F_init 19 M52 (fun M53 => ∀ M55 : sdM, M55 = va_up M53 20 (fun _ => 0) → w_F_init 20 M55 (fun M56 => ∀ M58 : sdM, M58 = va_up M56 21 (fun _ => 0) → w_R_init 21 M58 (fun M59 => ∀ M61 : sdM, M61 = va_up M59 22 (fun _ => 0) → w_R_init 22 M61 (fun M62 => ∀ M64 : sdM, M64 = va_up M62 23 (fun _ => 0) → w_R_init 23 M64 (fun M65 => ∀ M67 : sdM, M67 = va_up M65 24 (fun _ => 0) → w_R_init 24 M67 (fun M68 => Q M68))))))))))))))))))))
set_option maxHeartbeats 4000000 in
set_option maxRecDepth 100000 in
theorem c_C_init (hA : sd_ad b 2 ad) (hT : l.stackTraces = false) (hloc : sd_loc 2 L) (hlo : L 1 = sd_O 1 [none, none, some none, some none, none, some none]) {Q : sdM → Prop} {M : sdM} (hw : w_C_init M Q) : sd_CnF l (sdE0 sc) y_C_init Y_C_init.2.2.2.2.1 Y_C_init.2.2.2.2.2.1 23 156 D (sd_tys dA) b 2 ad L M [.ref 1] (fun M' H => ∃ (ad2 : Nat → Nat) (L2 : Nat → sdL), (∀ k, k < 2 → ad2 k = ad k) ∧ sd_ad b 25 ad2 ∧ sd_loc 25 L2 ∧ (∀ k, k < 1 → L2 k = L k) ∧ isC 25 L2 dA ∧ sd_H D (sdE0 sc).1 25 ad2 L2 M' H) (sd_qv Q) sd_xf := by
  refine sd_enterF (Y := Y_C_init) rfl rfl rfl rfl (Nat.le_of_ble_eq_true rfl) ?_
  show sdW l (sdE0 sc) Y_C_init D (sd_tys dA) b 2 ad L ad _ _ _ 0 [(0, .ref 1)] [] M 23 156
  unfold w_C_init at hw
  refine x_aload_n 0 0 d_C_init_0 rfl rfl ?_
  refine x_objInit d_C_init_1 (List.mem_cons_of_mem _ q606) (List.mem_cons_of_mem _ q64) (List.mem_cons_of_mem _ q65) (by decide) (Nat.le_of_ble_eq_true rfl) ?_
  refine x_aload_n 0 0 d_C_init_4 rfl rfl ?_
  refine x_iconst (v := 0) d_C_init_5 (by decide) ?_
  obtain ⟨hb1, hw⟩ := hw
  refine x_puti 0 (ty := .boolean) hA d_C_init_6 (by omega) hlo rfl rfl (by decide) lay_C (List.mem_cons_of_mem _ q607) rfl ty_C ty_C_ok nm_C rfl (by decide +kernel) (sdB_n hb1) (sdB_f hb1) (fun M1 e1 => ?_)
  replace hw := hw M1 e1
  clear e1
  refine x_aload_n 0 0 d_C_init_9 rfl rfl ?_
  refine x_iconst (v := 1) d_C_init_10 (by decide) ?_
  refine x_puti 1 (ty := .int) hA d_C_init_11 (by omega) hlo rfl rfl (by decide) lay_C (List.mem_cons_of_mem _ q72) rfl ty_C ty_C_ok nm_C rfl (by decide +kernel) rfl rfl (fun M2 e2 => ?_)
  replace hw := hw M2 e2
  clear e2
  refine x_aload_n 0 0 d_C_init_14 rfl rfl ?_
  refine x_iconst (v := 4) d_C_init_15 (by decide) ?_
  refine x_newI (rc := 22) (rs := 152) (n := 2) (t0 := 0) (len := 4) hA hloc (List.forall_mem_cons.mpr ⟨(sd_bel_r (by omega)), fun _ h => absurd h List.not_mem_nil⟩) (List.forall_mem_cons.mpr ⟨(sd_bel_r (by omega)), fun _ h => absurd h List.not_mem_nil⟩) d_C_init_16 rfl (by decide) (List.mem_cons_of_mem _ q598) rfl (by decide) (by decide) (by decide) rfl rfl (fun ad3 M3 hA3 hl3 hu3 hq3 e3 => ?_)
  replace hw := hw M3 e3
  clear e3
  have hy3 : va_up L 2 (sd_I (dA 0) 4) 2 = (sd_I (dA 0) 4) := va_up_self _ _ _
  generalize va_up L 2 (sd_I (dA 0) 4) = L3 at hl3 hu3 hy3 ⊢
  replace hlo : L3 1 = sd_O 1 [none, none, some none, some none, none, some none] := (hu3.2 1 (by omega)).trans hlo
  refine x_putr 2 2 (ty := .array .int) hA3 (fun _ _ _ _ _ _ h => h.2.2.2.2 y_C_init _ _ _ _ rfl) d_C_init_18 (by omega) hlo (Nat.le_of_ble_eq_true rfl) rfl (by decide) lay_C (List.mem_cons_of_mem _ q79) rfl ty_C ty_C_ok nm_C rfl rfl (by decide +kernel) rfl rfl ?_
  obtain ⟨L4, hL4⟩ : ∃ z, z = va_up L3 1 (sd_O 1 [none, none, some (some 2), some none, none, some none]) := ⟨_, rfl⟩
  show sdW l (sdE0 sc) Y_C_init D (sd_tys dA) b _ _ (va_up L3 1 (sd_O 1 [none, none, some (some 2), some none, none, some none])) ad _ _ _ _ _ _ _ _ _
  rw [← hL4]
  have hn4 : ∀ k, k ≠ 1 → L4 k = L3 k := fun k h => by rw [hL4]; exact va_up_ne _ _ h
  have hl4 : sd_loc 3 L4 := by rw [hL4]; exact sd_loc_at hl3 (fun a a2 f e => by show (Sum.inr (1, sd_fv a f 0 [none, none, some (some 2), some none, none, some none]) : va_E) = Sum.inr (1, sd_fv a2 f 0 [none, none, some (some 2), some none, none, some none]); simp only [sd_fv, sd_fx]; rw [e 2 (by omega)])
  replace hlo : L4 1 = sd_O 1 [none, none, some (some 2), some none, none, some none] := by rw [hL4]; exact va_up_self _ _ _
  clear hL4
  replace hy3 : L4 2 = (sd_I (dA 0) 4) := (hn4 2 (by omega)).trans hy3
  refine x_aload_n 0 0 d_C_init_21 rfl rfl ?_
  refine x_bipush (v := 16) d_C_init_22 (by decide) ?_
  refine x_newQ (rc := 21) (rs := 136) (n := 3) (t0 := 3) (len := 16) hA3 hl4 (List.forall_mem_cons.mpr ⟨(sd_bel_r (by omega)), fun _ h => absurd h List.not_mem_nil⟩) (List.forall_mem_cons.mpr ⟨(sd_bel_r (by omega)), fun _ h => absurd h List.not_mem_nil⟩) d_C_init_24 (List.mem_cons_of_mem _ q608) (List.mem_of_getElem? (i := 0) rfl) rfl (by decide) (by decide) (by decide) rfl rfl (fun ad5 M5 hA5 hl5 hu5 hq5 e5 => ?_)
  replace hw := hw M5 e5
  clear e5
  have hy5 : va_up L4 3 (sd_P (dA 3) 16 (fun _ => none)) 3 = (sd_P (dA 3) 16 (fun _ => none)) := va_up_self _ _ _
  generalize va_up L4 3 (sd_P (dA 3) 16 (fun _ => none)) = L5 at hl5 hu5 hy5 ⊢
  replace hlo : L5 1 = sd_O 1 [none, none, some (some 2), some none, none, some none] := (hu5.2 1 (by omega)).trans hlo
  replace hy3 : L5 2 = (sd_I (dA 0) 4) := (hu5.2 2 (by omega)).trans hy3
  refine x_putr 3 3 (ty := .array (.object "SettingsDesk$Leaf")) hA5 (fun _ _ _ _ _ _ h => h.2.2.2.2 y_C_init _ _ _ _ rfl) d_C_init_27 (by omega) hlo (Nat.le_of_ble_eq_true rfl) rfl (by decide) lay_C (List.mem_cons_of_mem _ q78) rfl ty_C ty_C_ok nm_C rfl rfl (by decide +kernel) rfl rfl ?_
  obtain ⟨L6, hL6⟩ : ∃ z, z = va_up L5 1 (sd_O 1 [none, none, some (some 2), some (some 3), none, some none]) := ⟨_, rfl⟩
  show sdW l (sdE0 sc) Y_C_init D (sd_tys dA) b _ _ (va_up L5 1 (sd_O 1 [none, none, some (some 2), some (some 3), none, some none])) ad _ _ _ _ _ _ _ _ _
  rw [← hL6]
  have hn6 : ∀ k, k ≠ 1 → L6 k = L5 k := fun k h => by rw [hL6]; exact va_up_ne _ _ h
  have hl6 : sd_loc 4 L6 := by rw [hL6]; exact sd_loc_at hl5 (fun a a2 f e => by show (Sum.inr (1, sd_fv a f 0 [none, none, some (some 2), some (some 3), none, some none]) : va_E) = Sum.inr (1, sd_fv a2 f 0 [none, none, some (some 2), some (some 3), none, some none]); simp only [sd_fv, sd_fx]; rw [e 2 (by omega), e 3 (by omega)])
  replace hlo : L6 1 = sd_O 1 [none, none, some (some 2), some (some 3), none, some none] := by rw [hL6]; exact va_up_self _ _ _
  clear hL6
  replace hy3 : L6 2 = (sd_I (dA 0) 4) := (hn6 2 (by omega)).trans hy3
  replace hy5 : L6 3 = (sd_P (dA 3) 16 (fun _ => none)) := (hn6 3 (by omega)).trans hy5
  refine x_aload_n 0 0 d_C_init_30 rfl rfl ?_
  refine x_iconst (v := 0) d_C_init_31 (by decide) ?_
  refine x_puti 4 (ty := .int) hA5 d_C_init_32 (by omega) hlo rfl rfl (by decide) lay_C (List.mem_cons_of_mem _ q93) rfl ty_C ty_C_ok nm_C rfl (by decide +kernel) rfl rfl (fun M7 e7 => ?_)
  replace hw := hw M7 e7
  clear e7
  refine x_aload_n 0 0 d_C_init_35 rfl rfl ?_
  refine x_iconst (v := 4) d_C_init_36 (by decide) ?_
  refine x_newQ (rc := 20) (rs := 132) (n := 4) (t0 := 4) (len := 4) hA5 hl6 (List.forall_mem_cons.mpr ⟨(sd_bel_r (by omega)), fun _ h => absurd h List.not_mem_nil⟩) (List.forall_mem_cons.mpr ⟨(sd_bel_r (by omega)), fun _ h => absurd h List.not_mem_nil⟩) d_C_init_37 (List.mem_cons_of_mem _ q609) (List.mem_of_getElem? (i := 1) rfl) rfl (by decide) (by decide) (by decide) rfl rfl (fun ad8 M8 hA8 hl8 hu8 hq8 e8 => ?_)
  replace hw := hw M8 e8
  clear e8
  have hy8 : va_up L6 4 (sd_P (dA 4) 4 (fun _ => none)) 4 = (sd_P (dA 4) 4 (fun _ => none)) := va_up_self _ _ _
  generalize va_up L6 4 (sd_P (dA 4) 4 (fun _ => none)) = L8 at hl8 hu8 hy8 ⊢
  replace hlo : L8 1 = sd_O 1 [none, none, some (some 2), some (some 3), none, some none] := (hu8.2 1 (by omega)).trans hlo
  replace hy3 : L8 2 = (sd_I (dA 0) 4) := (hu8.2 2 (by omega)).trans hy3
  replace hy5 : L8 3 = (sd_P (dA 3) 16 (fun _ => none)) := (hu8.2 3 (by omega)).trans hy5
  refine x_putr 5 4 (ty := .array (.object "SettingsDesk$Rule")) hA8 (fun _ _ _ _ _ _ h => h.2.2.2.2 y_C_init _ _ _ _ rfl) d_C_init_40 (by omega) hlo (Nat.le_of_ble_eq_true rfl) rfl (by decide) lay_C (List.mem_cons_of_mem _ q92) rfl ty_C ty_C_ok nm_C rfl rfl (by decide +kernel) rfl rfl ?_
  obtain ⟨L9, hL9⟩ : ∃ z, z = va_up L8 1 (sd_O 1 [none, none, some (some 2), some (some 3), none, some (some 4)]) := ⟨_, rfl⟩
  show sdW l (sdE0 sc) Y_C_init D (sd_tys dA) b _ _ (va_up L8 1 (sd_O 1 [none, none, some (some 2), some (some 3), none, some (some 4)])) ad _ _ _ _ _ _ _ _ _
  rw [← hL9]
  have hn9 : ∀ k, k ≠ 1 → L9 k = L8 k := fun k h => by rw [hL9]; exact va_up_ne _ _ h
  have hl9 : sd_loc 5 L9 := by rw [hL9]; exact sd_loc_at hl8 (fun a a2 f e => by show (Sum.inr (1, sd_fv a f 0 [none, none, some (some 2), some (some 3), none, some (some 4)]) : va_E) = Sum.inr (1, sd_fv a2 f 0 [none, none, some (some 2), some (some 3), none, some (some 4)]); simp only [sd_fv, sd_fx]; rw [e 2 (by omega), e 3 (by omega), e 4 (by omega)])
  replace hlo : L9 1 = sd_O 1 [none, none, some (some 2), some (some 3), none, some (some 4)] := by rw [hL9]; exact va_up_self _ _ _
  clear hL9
  replace hy3 : L9 2 = (sd_I (dA 0) 4) := (hn9 2 (by omega)).trans hy3
  replace hy5 : L9 3 = (sd_P (dA 3) 16 (fun _ => none)) := (hn9 3 (by omega)).trans hy5
  replace hy8 : L9 4 = (sd_P (dA 4) 4 (fun _ => none)) := (hn9 4 (by omega)).trans hy8
  refine x_iconst (v := 0) d_C_init_43 (by decide) ?_
  refine x_istore_n 1 [(1, .int 0), (0, .ref 1)] d_C_init_44 rfl (by decide) rfl ?_
  refine x_iload_n 1 0 d_C_init_45 rfl rfl ?_
  refine x_bipush (v := 16) d_C_init_46 (by decide) ?_
  refine x_icmp_ge 70 d_C_init_48 rfl (fun hc => absurd hc (by decide)) (fun _ => ?_)
  refine x_aload_n 0 1 d_C_init_51 rfl rfl ?_
  refine x_getr 3 3 d_C_init_52 (by omega) hlo rfl rfl (by decide) lay_C (List.mem_cons_of_mem _ q78) rfl ?_
  refine x_iload_n 1 0 d_C_init_55 rfl rfl ?_
  refine x_new (rc := 19) (rs := 125) (n := 5) [none, none, none, none, none, none, none] hA8 hl9 (List.forall_mem_cons.mpr ⟨sd_bel_i, List.forall_mem_cons.mpr ⟨(sd_bel_r (by omega)), fun _ h => absurd h List.not_mem_nil⟩⟩) (List.forall_mem_cons.mpr ⟨sd_bel_i, List.forall_mem_cons.mpr ⟨(sd_bel_r (by omega)), fun _ h => absurd h List.not_mem_nil⟩⟩) d_C_init_56 (ci := 5) (N := 7) (C := "SettingsDesk$Leaf") (T := T_F) rfl ty_F ty_F_ok lay_F (List.mem_cons_of_mem _ q608) (List.mem_cons_of_mem _ q610) (List.mem_cons_of_mem _ q335) (sd_nr rfl) (by decide +kernel) rfl rfl (fun ad10 L10 M10 hA10 hl10 hu10 hy10 hq10 e10 => ?_)
  replace hw := hw M10 e10
  clear e10
  replace hlo : L10 1 = sd_O 1 [none, none, some (some 2), some (some 3), none, some (some 4)] := (hu10.2 1 (by omega)).trans hlo
  replace hy3 : L10 2 = (sd_I (dA 0) 4) := (hu10.2 2 (by omega)).trans hy3
  replace hy5 : L10 3 = (sd_P (dA 3) 16 (fun _ => none)) := (hu10.2 3 (by omega)).trans hy5
  replace hy8 : L10 4 = (sd_P (dA 4) 4 (fun _ => none)) := (hu10.2 4 (by omega)).trans hy8
  refine x_dup d_C_init_59 rfl ?_
  refine x_callIv (As := []) (t := 5) (rest := [.ref 5, .int 0, .ref 3]) (rc := 19) (rs := 125) (L2 := L10) (na := 0) (host := "SettingsDesk") (c_F_init hA10 hT ⟨by omega, hy10⟩ hw) (sd_goodB q611) ⟨_, rfl⟩ (List.mem_cons_of_mem _ q335) (List.mem_cons_of_mem _ q612) (Or.inr (List.mem_of_getElem? (i := 2) rfl)) ⟨rfl, by decide, by decide, by decide +kernel⟩ ⟨rfl, rfl, rfl, rfl⟩ ⟨by decide, by decide⟩ d_C_init_60 rfl rfl (Nat.le_of_ble_eq_true rfl) (fun M11 hw => ?_)
  have hfF : ∀ j, j < 1 → isF 6 L10 (5 + j) := fun j hj => by
    have h9 : j = 0 := by omega
    subst h9; exact ⟨by omega, hy10⟩
  refine x_aast (t0 := 3) (u := 5) hA10 d_C_init_63 (by omega) hy5 (by omega) (hfF 0 (by decide)).2 rfl rfl (vp_in_nI (n := 0) (N := 16) (by decide) (by decide)) ?_
  obtain ⟨L12, hL12⟩ : ∃ z, z = va_up L10 3 (sd_P (dA 3) 16 (va_up (fun _ => none) 0 (some 5))) := ⟨_, rfl⟩
  show sdW l (sdE0 sc) Y_C_init D (sd_tys dA) b _ _ (va_up L10 3 (sd_P (dA 3) 16 (va_up (fun _ => none) 0 (some 5)))) ad _ _ _ _ _ _ _ _ _
  rw [← hL12]
  have hn12 : ∀ k, k ≠ 3 → L12 k = L10 k := fun k h => by rw [hL12]; exact va_up_ne _ _ h
  have hy12 : L12 3 = (sd_P (dA 3) 16 (va_up (fun _ => none) 0 (some 5))) := by rw [hL12]; exact va_up_self _ _ _
  have hl12 : sd_loc 6 L12 := by rw [hL12]; exact sd_loc_at hl10 (sd_P_loc (sd_Pl_up sd_Pl_none (by omega)))
  clear hL12
  replace hlo : L12 1 = sd_O 1 [none, none, some (some 2), some (some 3), none, some (some 4)] := (hn12 1 (by omega)).trans hlo
  replace hy3 : L12 2 = (sd_I (dA 0) 4) := (hn12 2 (by omega)).trans hy3
  replace hy8 : L12 4 = (sd_P (dA 4) 4 (fun _ => none)) := (hn12 4 (by omega)).trans hy8
  replace hfF : ∀ j, j < 1 → isF 6 L12 (5 + j) := fun j hj => ⟨Nat.lt_of_lt_of_le (hfF j hj).1 (by omega), (hn12 _ (by omega)).trans (hfF j hj).2⟩
  refine x_iinc 1 0 [(1, .int 1), (0, .ref 1)] d_C_init_64 rfl (by decide) (by decide) rfl ?_
  refine x_goto 45 d_C_init_67 rfl ?_
  refine x_iload_n 1 0 d_C_init_45 rfl rfl ?_
  refine x_bipush (v := 16) d_C_init_46 (by decide) ?_
  refine x_icmp_ge 70 d_C_init_48 rfl (fun hc => absurd hc (by decide)) (fun _ => ?_)
  refine x_aload_n 0 1 d_C_init_51 rfl rfl ?_
  refine x_getr 3 3 d_C_init_52 (by omega) hlo rfl rfl (by decide) lay_C (List.mem_cons_of_mem _ q78) rfl ?_
  refine x_iload_n 1 0 d_C_init_55 rfl rfl ?_
  refine x_new (rc := 18) (rs := 118) (n := 6) [none, none, none, none, none, none, none] hA10 hl12 (List.forall_mem_cons.mpr ⟨sd_bel_i, List.forall_mem_cons.mpr ⟨(sd_bel_r (by omega)), fun _ h => absurd h List.not_mem_nil⟩⟩) (List.forall_mem_cons.mpr ⟨sd_bel_i, List.forall_mem_cons.mpr ⟨(sd_bel_r (by omega)), fun _ h => absurd h List.not_mem_nil⟩⟩) d_C_init_56 (ci := 5) (N := 7) (C := "SettingsDesk$Leaf") (T := T_F) rfl ty_F ty_F_ok lay_F (List.mem_cons_of_mem _ q608) (List.mem_cons_of_mem _ q610) (List.mem_cons_of_mem _ q335) (sd_nr rfl) (by decide +kernel) rfl rfl (fun ad13 L13 M13 hA13 hl13 hu13 hy13 hq13 e13 => ?_)
  replace hw := hw M13 e13
  clear e13
  replace hlo : L13 1 = sd_O 1 [none, none, some (some 2), some (some 3), none, some (some 4)] := (hu13.2 1 (by omega)).trans hlo
  replace hy3 : L13 2 = (sd_I (dA 0) 4) := (hu13.2 2 (by omega)).trans hy3
  replace hy8 : L13 4 = (sd_P (dA 4) 4 (fun _ => none)) := (hu13.2 4 (by omega)).trans hy8
  replace hfF : ∀ j, j < 1 → isF 7 L13 (5 + j) := fun j hj => ⟨Nat.lt_of_lt_of_le (hfF j hj).1 (by omega), (hu13.2 _ (by omega)).trans (hfF j hj).2⟩
  replace hy12 : L13 3 = (sd_P (dA 3) 16 (va_up (fun _ => none) 0 (some 5))) := (hu13.2 3 (by omega)).trans hy12
  refine x_dup d_C_init_59 rfl ?_
  refine x_callIv (As := []) (t := 6) (rest := [.ref 6, .int 1, .ref 3]) (rc := 18) (rs := 118) (L2 := L13) (na := 0) (host := "SettingsDesk") (c_F_init hA13 hT ⟨by omega, hy13⟩ hw) (sd_goodB q611) ⟨_, rfl⟩ (List.mem_cons_of_mem _ q335) (List.mem_cons_of_mem _ q612) (Or.inr (List.mem_of_getElem? (i := 2) rfl)) ⟨rfl, by decide, by decide, by decide +kernel⟩ ⟨rfl, rfl, rfl, rfl⟩ ⟨by decide, by decide⟩ d_C_init_60 rfl rfl (Nat.le_of_ble_eq_true rfl) (fun M14 hw => ?_)
  replace hfF : ∀ j, j < 2 → isF 7 L13 (5 + j) := fun j hj => by
    by_cases h9 : j = 1
    · subst h9; exact ⟨by omega, hy13⟩
    · exact hfF j (by omega)
  refine x_aast (t0 := 3) (u := 6) hA13 d_C_init_63 (by omega) hy12 (by omega) (hfF 1 (by decide)).2 rfl rfl (vp_in_nI (n := 1) (N := 16) (by decide) (by decide)) ?_
  obtain ⟨L15, hL15⟩ : ∃ z, z = va_up L13 3 (sd_P (dA 3) 16 (va_up (va_up (fun _ => none) 0 (some 5)) 1 (some 6))) := ⟨_, rfl⟩
  show sdW l (sdE0 sc) Y_C_init D (sd_tys dA) b _ _ (va_up L13 3 (sd_P (dA 3) 16 (va_up (va_up (fun _ => none) 0 (some 5)) 1 (some 6)))) ad _ _ _ _ _ _ _ _ _
  rw [← hL15]
  have hn15 : ∀ k, k ≠ 3 → L15 k = L13 k := fun k h => by rw [hL15]; exact va_up_ne _ _ h
  have hy15 : L15 3 = (sd_P (dA 3) 16 (va_up (va_up (fun _ => none) 0 (some 5)) 1 (some 6))) := by rw [hL15]; exact va_up_self _ _ _
  have hl15 : sd_loc 7 L15 := by rw [hL15]; exact sd_loc_at hl13 (sd_P_loc (sd_Pl_up (sd_Pl_up sd_Pl_none (by omega)) (by omega)))
  clear hL15
  replace hlo : L15 1 = sd_O 1 [none, none, some (some 2), some (some 3), none, some (some 4)] := (hn15 1 (by omega)).trans hlo
  replace hy3 : L15 2 = (sd_I (dA 0) 4) := (hn15 2 (by omega)).trans hy3
  replace hy8 : L15 4 = (sd_P (dA 4) 4 (fun _ => none)) := (hn15 4 (by omega)).trans hy8
  replace hfF : ∀ j, j < 2 → isF 7 L15 (5 + j) := fun j hj => ⟨Nat.lt_of_lt_of_le (hfF j hj).1 (by omega), (hn15 _ (by omega)).trans (hfF j hj).2⟩
  refine x_iinc 1 0 [(1, .int 2), (0, .ref 1)] d_C_init_64 rfl (by decide) (by decide) rfl ?_
  refine x_goto 45 d_C_init_67 rfl ?_
  refine x_iload_n 1 0 d_C_init_45 rfl rfl ?_
  refine x_bipush (v := 16) d_C_init_46 (by decide) ?_
  refine x_icmp_ge 70 d_C_init_48 rfl (fun hc => absurd hc (by decide)) (fun _ => ?_)
  refine x_aload_n 0 1 d_C_init_51 rfl rfl ?_
  refine x_getr 3 3 d_C_init_52 (by omega) hlo rfl rfl (by decide) lay_C (List.mem_cons_of_mem _ q78) rfl ?_
  refine x_iload_n 1 0 d_C_init_55 rfl rfl ?_
  refine x_new (rc := 17) (rs := 111) (n := 7) [none, none, none, none, none, none, none] hA13 hl15 (List.forall_mem_cons.mpr ⟨sd_bel_i, List.forall_mem_cons.mpr ⟨(sd_bel_r (by omega)), fun _ h => absurd h List.not_mem_nil⟩⟩) (List.forall_mem_cons.mpr ⟨sd_bel_i, List.forall_mem_cons.mpr ⟨(sd_bel_r (by omega)), fun _ h => absurd h List.not_mem_nil⟩⟩) d_C_init_56 (ci := 5) (N := 7) (C := "SettingsDesk$Leaf") (T := T_F) rfl ty_F ty_F_ok lay_F (List.mem_cons_of_mem _ q608) (List.mem_cons_of_mem _ q610) (List.mem_cons_of_mem _ q335) (sd_nr rfl) (by decide +kernel) rfl rfl (fun ad16 L16 M16 hA16 hl16 hu16 hy16 hq16 e16 => ?_)
  replace hw := hw M16 e16
  clear e16
  replace hlo : L16 1 = sd_O 1 [none, none, some (some 2), some (some 3), none, some (some 4)] := (hu16.2 1 (by omega)).trans hlo
  replace hy3 : L16 2 = (sd_I (dA 0) 4) := (hu16.2 2 (by omega)).trans hy3
  replace hy8 : L16 4 = (sd_P (dA 4) 4 (fun _ => none)) := (hu16.2 4 (by omega)).trans hy8
  replace hfF : ∀ j, j < 2 → isF 8 L16 (5 + j) := fun j hj => ⟨Nat.lt_of_lt_of_le (hfF j hj).1 (by omega), (hu16.2 _ (by omega)).trans (hfF j hj).2⟩
  replace hy15 : L16 3 = (sd_P (dA 3) 16 (va_up (va_up (fun _ => none) 0 (some 5)) 1 (some 6))) := (hu16.2 3 (by omega)).trans hy15
  refine x_dup d_C_init_59 rfl ?_
  refine x_callIv (As := []) (t := 7) (rest := [.ref 7, .int 2, .ref 3]) (rc := 17) (rs := 111) (L2 := L16) (na := 0) (host := "SettingsDesk") (c_F_init hA16 hT ⟨by omega, hy16⟩ hw) (sd_goodB q611) ⟨_, rfl⟩ (List.mem_cons_of_mem _ q335) (List.mem_cons_of_mem _ q612) (Or.inr (List.mem_of_getElem? (i := 2) rfl)) ⟨rfl, by decide, by decide, by decide +kernel⟩ ⟨rfl, rfl, rfl, rfl⟩ ⟨by decide, by decide⟩ d_C_init_60 rfl rfl (Nat.le_of_ble_eq_true rfl) (fun M17 hw => ?_)
  replace hfF : ∀ j, j < 3 → isF 8 L16 (5 + j) := fun j hj => by
    by_cases h9 : j = 2
    · subst h9; exact ⟨by omega, hy16⟩
    · exact hfF j (by omega)
  refine x_aast (t0 := 3) (u := 7) hA16 d_C_init_63 (by omega) hy15 (by omega) (hfF 2 (by decide)).2 rfl rfl (vp_in_nI (n := 2) (N := 16) (by decide) (by decide)) ?_
  obtain ⟨L18, hL18⟩ : ∃ z, z = va_up L16 3 (sd_P (dA 3) 16 (va_up (va_up (va_up (fun _ => none) 0 (some 5)) 1 (some 6)) 2 (some 7))) := ⟨_, rfl⟩
  show sdW l (sdE0 sc) Y_C_init D (sd_tys dA) b _ _ (va_up L16 3 (sd_P (dA 3) 16 (va_up (va_up (va_up (fun _ => none) 0 (some 5)) 1 (some 6)) 2 (some 7)))) ad _ _ _ _ _ _ _ _ _
  rw [← hL18]
  have hn18 : ∀ k, k ≠ 3 → L18 k = L16 k := fun k h => by rw [hL18]; exact va_up_ne _ _ h
  have hy18 : L18 3 = (sd_P (dA 3) 16 (va_up (va_up (va_up (fun _ => none) 0 (some 5)) 1 (some 6)) 2 (some 7))) := by rw [hL18]; exact va_up_self _ _ _
  have hl18 : sd_loc 8 L18 := by rw [hL18]; exact sd_loc_at hl16 (sd_P_loc (sd_Pl_up (sd_Pl_up (sd_Pl_up sd_Pl_none (by omega)) (by omega)) (by omega)))
  clear hL18
  replace hlo : L18 1 = sd_O 1 [none, none, some (some 2), some (some 3), none, some (some 4)] := (hn18 1 (by omega)).trans hlo
  replace hy3 : L18 2 = (sd_I (dA 0) 4) := (hn18 2 (by omega)).trans hy3
  replace hy8 : L18 4 = (sd_P (dA 4) 4 (fun _ => none)) := (hn18 4 (by omega)).trans hy8
  replace hfF : ∀ j, j < 3 → isF 8 L18 (5 + j) := fun j hj => ⟨Nat.lt_of_lt_of_le (hfF j hj).1 (by omega), (hn18 _ (by omega)).trans (hfF j hj).2⟩
  refine x_iinc 1 0 [(1, .int 3), (0, .ref 1)] d_C_init_64 rfl (by decide) (by decide) rfl ?_
  refine x_goto 45 d_C_init_67 rfl ?_
  refine x_iload_n 1 0 d_C_init_45 rfl rfl ?_
  refine x_bipush (v := 16) d_C_init_46 (by decide) ?_
  refine x_icmp_ge 70 d_C_init_48 rfl (fun hc => absurd hc (by decide)) (fun _ => ?_)
  refine x_aload_n 0 1 d_C_init_51 rfl rfl ?_
  refine x_getr 3 3 d_C_init_52 (by omega) hlo rfl rfl (by decide) lay_C (List.mem_cons_of_mem _ q78) rfl ?_
  refine x_iload_n 1 0 d_C_init_55 rfl rfl ?_
  refine x_new (rc := 16) (rs := 104) (n := 8) [none, none, none, none, none, none, none] hA16 hl18 (List.forall_mem_cons.mpr ⟨sd_bel_i, List.forall_mem_cons.mpr ⟨(sd_bel_r (by omega)), fun _ h => absurd h List.not_mem_nil⟩⟩) (List.forall_mem_cons.mpr ⟨sd_bel_i, List.forall_mem_cons.mpr ⟨(sd_bel_r (by omega)), fun _ h => absurd h List.not_mem_nil⟩⟩) d_C_init_56 (ci := 5) (N := 7) (C := "SettingsDesk$Leaf") (T := T_F) rfl ty_F ty_F_ok lay_F (List.mem_cons_of_mem _ q608) (List.mem_cons_of_mem _ q610) (List.mem_cons_of_mem _ q335) (sd_nr rfl) (by decide +kernel) rfl rfl (fun ad19 L19 M19 hA19 hl19 hu19 hy19 hq19 e19 => ?_)
  replace hw := hw M19 e19
  clear e19
  replace hlo : L19 1 = sd_O 1 [none, none, some (some 2), some (some 3), none, some (some 4)] := (hu19.2 1 (by omega)).trans hlo
  replace hy3 : L19 2 = (sd_I (dA 0) 4) := (hu19.2 2 (by omega)).trans hy3
  replace hy8 : L19 4 = (sd_P (dA 4) 4 (fun _ => none)) := (hu19.2 4 (by omega)).trans hy8
  replace hfF : ∀ j, j < 3 → isF 9 L19 (5 + j) := fun j hj => ⟨Nat.lt_of_lt_of_le (hfF j hj).1 (by omega), (hu19.2 _ (by omega)).trans (hfF j hj).2⟩
  replace hy18 : L19 3 = (sd_P (dA 3) 16 (va_up (va_up (va_up (fun _ => none) 0 (some 5)) 1 (some 6)) 2 (some 7))) := (hu19.2 3 (by omega)).trans hy18
  refine x_dup d_C_init_59 rfl ?_
  refine x_callIv (As := []) (t := 8) (rest := [.ref 8, .int 3, .ref 3]) (rc := 16) (rs := 104) (L2 := L19) (na := 0) (host := "SettingsDesk") (c_F_init hA19 hT ⟨by omega, hy19⟩ hw) (sd_goodB q611) ⟨_, rfl⟩ (List.mem_cons_of_mem _ q335) (List.mem_cons_of_mem _ q612) (Or.inr (List.mem_of_getElem? (i := 2) rfl)) ⟨rfl, by decide, by decide, by decide +kernel⟩ ⟨rfl, rfl, rfl, rfl⟩ ⟨by decide, by decide⟩ d_C_init_60 rfl rfl (Nat.le_of_ble_eq_true rfl) (fun M20 hw => ?_)
  replace hfF : ∀ j, j < 4 → isF 9 L19 (5 + j) := fun j hj => by
    by_cases h9 : j = 3
    · subst h9; exact ⟨by omega, hy19⟩
    · exact hfF j (by omega)
  refine x_aast (t0 := 3) (u := 8) hA19 d_C_init_63 (by omega) hy18 (by omega) (hfF 3 (by decide)).2 rfl rfl (vp_in_nI (n := 3) (N := 16) (by decide) (by decide)) ?_
  obtain ⟨L21, hL21⟩ : ∃ z, z = va_up L19 3 (sd_P (dA 3) 16 (va_up (va_up (va_up (va_up (fun _ => none) 0 (some 5)) 1 (some 6)) 2 (some 7)) 3 (some 8))) := ⟨_, rfl⟩
  show sdW l (sdE0 sc) Y_C_init D (sd_tys dA) b _ _ (va_up L19 3 (sd_P (dA 3) 16 (va_up (va_up (va_up (va_up (fun _ => none) 0 (some 5)) 1 (some 6)) 2 (some 7)) 3 (some 8)))) ad _ _ _ _ _ _ _ _ _
  rw [← hL21]
  have hn21 : ∀ k, k ≠ 3 → L21 k = L19 k := fun k h => by rw [hL21]; exact va_up_ne _ _ h
  have hy21 : L21 3 = (sd_P (dA 3) 16 (va_up (va_up (va_up (va_up (fun _ => none) 0 (some 5)) 1 (some 6)) 2 (some 7)) 3 (some 8))) := by rw [hL21]; exact va_up_self _ _ _
  have hl21 : sd_loc 9 L21 := by rw [hL21]; exact sd_loc_at hl19 (sd_P_loc (sd_Pl_up (sd_Pl_up (sd_Pl_up (sd_Pl_up sd_Pl_none (by omega)) (by omega)) (by omega)) (by omega)))
  clear hL21
  replace hlo : L21 1 = sd_O 1 [none, none, some (some 2), some (some 3), none, some (some 4)] := (hn21 1 (by omega)).trans hlo
  replace hy3 : L21 2 = (sd_I (dA 0) 4) := (hn21 2 (by omega)).trans hy3
  replace hy8 : L21 4 = (sd_P (dA 4) 4 (fun _ => none)) := (hn21 4 (by omega)).trans hy8
  replace hfF : ∀ j, j < 4 → isF 9 L21 (5 + j) := fun j hj => ⟨Nat.lt_of_lt_of_le (hfF j hj).1 (by omega), (hn21 _ (by omega)).trans (hfF j hj).2⟩
  refine x_iinc 1 0 [(1, .int 4), (0, .ref 1)] d_C_init_64 rfl (by decide) (by decide) rfl ?_
  refine x_goto 45 d_C_init_67 rfl ?_
  refine x_iload_n 1 0 d_C_init_45 rfl rfl ?_
  refine x_bipush (v := 16) d_C_init_46 (by decide) ?_
  refine x_icmp_ge 70 d_C_init_48 rfl (fun hc => absurd hc (by decide)) (fun _ => ?_)
  refine x_aload_n 0 1 d_C_init_51 rfl rfl ?_
  refine x_getr 3 3 d_C_init_52 (by omega) hlo rfl rfl (by decide) lay_C (List.mem_cons_of_mem _ q78) rfl ?_
  refine x_iload_n 1 0 d_C_init_55 rfl rfl ?_
  refine x_new (rc := 15) (rs := 97) (n := 9) [none, none, none, none, none, none, none] hA19 hl21 (List.forall_mem_cons.mpr ⟨sd_bel_i, List.forall_mem_cons.mpr ⟨(sd_bel_r (by omega)), fun _ h => absurd h List.not_mem_nil⟩⟩) (List.forall_mem_cons.mpr ⟨sd_bel_i, List.forall_mem_cons.mpr ⟨(sd_bel_r (by omega)), fun _ h => absurd h List.not_mem_nil⟩⟩) d_C_init_56 (ci := 5) (N := 7) (C := "SettingsDesk$Leaf") (T := T_F) rfl ty_F ty_F_ok lay_F (List.mem_cons_of_mem _ q608) (List.mem_cons_of_mem _ q610) (List.mem_cons_of_mem _ q335) (sd_nr rfl) (by decide +kernel) rfl rfl (fun ad22 L22 M22 hA22 hl22 hu22 hy22 hq22 e22 => ?_)
  replace hw := hw M22 e22
  clear e22
  replace hlo : L22 1 = sd_O 1 [none, none, some (some 2), some (some 3), none, some (some 4)] := (hu22.2 1 (by omega)).trans hlo
  replace hy3 : L22 2 = (sd_I (dA 0) 4) := (hu22.2 2 (by omega)).trans hy3
  replace hy8 : L22 4 = (sd_P (dA 4) 4 (fun _ => none)) := (hu22.2 4 (by omega)).trans hy8
  replace hfF : ∀ j, j < 4 → isF 10 L22 (5 + j) := fun j hj => ⟨Nat.lt_of_lt_of_le (hfF j hj).1 (by omega), (hu22.2 _ (by omega)).trans (hfF j hj).2⟩
  replace hy21 : L22 3 = (sd_P (dA 3) 16 (va_up (va_up (va_up (va_up (fun _ => none) 0 (some 5)) 1 (some 6)) 2 (some 7)) 3 (some 8))) := (hu22.2 3 (by omega)).trans hy21
  refine x_dup d_C_init_59 rfl ?_
  refine x_callIv (As := []) (t := 9) (rest := [.ref 9, .int 4, .ref 3]) (rc := 15) (rs := 97) (L2 := L22) (na := 0) (host := "SettingsDesk") (c_F_init hA22 hT ⟨by omega, hy22⟩ hw) (sd_goodB q611) ⟨_, rfl⟩ (List.mem_cons_of_mem _ q335) (List.mem_cons_of_mem _ q612) (Or.inr (List.mem_of_getElem? (i := 2) rfl)) ⟨rfl, by decide, by decide, by decide +kernel⟩ ⟨rfl, rfl, rfl, rfl⟩ ⟨by decide, by decide⟩ d_C_init_60 rfl rfl (Nat.le_of_ble_eq_true rfl) (fun M23 hw => ?_)
  replace hfF : ∀ j, j < 5 → isF 10 L22 (5 + j) := fun j hj => by
    by_cases h9 : j = 4
    · subst h9; exact ⟨by omega, hy22⟩
    · exact hfF j (by omega)
  refine x_aast (t0 := 3) (u := 9) hA22 d_C_init_63 (by omega) hy21 (by omega) (hfF 4 (by decide)).2 rfl rfl (vp_in_nI (n := 4) (N := 16) (by decide) (by decide)) ?_
  obtain ⟨L24, hL24⟩ : ∃ z, z = va_up L22 3 (sd_P (dA 3) 16 (va_up (va_up (va_up (va_up (va_up (fun _ => none) 0 (some 5)) 1 (some 6)) 2 (some 7)) 3 (some 8)) 4 (some 9))) := ⟨_, rfl⟩
  show sdW l (sdE0 sc) Y_C_init D (sd_tys dA) b _ _ (va_up L22 3 (sd_P (dA 3) 16 (va_up (va_up (va_up (va_up (va_up (fun _ => none) 0 (some 5)) 1 (some 6)) 2 (some 7)) 3 (some 8)) 4 (some 9)))) ad _ _ _ _ _ _ _ _ _
  rw [← hL24]
  have hn24 : ∀ k, k ≠ 3 → L24 k = L22 k := fun k h => by rw [hL24]; exact va_up_ne _ _ h
  have hy24 : L24 3 = (sd_P (dA 3) 16 (va_up (va_up (va_up (va_up (va_up (fun _ => none) 0 (some 5)) 1 (some 6)) 2 (some 7)) 3 (some 8)) 4 (some 9))) := by rw [hL24]; exact va_up_self _ _ _
  have hl24 : sd_loc 10 L24 := by rw [hL24]; exact sd_loc_at hl22 (sd_P_loc (sd_Pl_up (sd_Pl_up (sd_Pl_up (sd_Pl_up (sd_Pl_up sd_Pl_none (by omega)) (by omega)) (by omega)) (by omega)) (by omega)))
  clear hL24
  replace hlo : L24 1 = sd_O 1 [none, none, some (some 2), some (some 3), none, some (some 4)] := (hn24 1 (by omega)).trans hlo
  replace hy3 : L24 2 = (sd_I (dA 0) 4) := (hn24 2 (by omega)).trans hy3
  replace hy8 : L24 4 = (sd_P (dA 4) 4 (fun _ => none)) := (hn24 4 (by omega)).trans hy8
  replace hfF : ∀ j, j < 5 → isF 10 L24 (5 + j) := fun j hj => ⟨Nat.lt_of_lt_of_le (hfF j hj).1 (by omega), (hn24 _ (by omega)).trans (hfF j hj).2⟩
  refine x_iinc 1 0 [(1, .int 5), (0, .ref 1)] d_C_init_64 rfl (by decide) (by decide) rfl ?_
  refine x_goto 45 d_C_init_67 rfl ?_
  refine x_iload_n 1 0 d_C_init_45 rfl rfl ?_
  refine x_bipush (v := 16) d_C_init_46 (by decide) ?_
  refine x_icmp_ge 70 d_C_init_48 rfl (fun hc => absurd hc (by decide)) (fun _ => ?_)
  refine x_aload_n 0 1 d_C_init_51 rfl rfl ?_
  refine x_getr 3 3 d_C_init_52 (by omega) hlo rfl rfl (by decide) lay_C (List.mem_cons_of_mem _ q78) rfl ?_
  refine x_iload_n 1 0 d_C_init_55 rfl rfl ?_
  refine x_new (rc := 14) (rs := 90) (n := 10) [none, none, none, none, none, none, none] hA22 hl24 (List.forall_mem_cons.mpr ⟨sd_bel_i, List.forall_mem_cons.mpr ⟨(sd_bel_r (by omega)), fun _ h => absurd h List.not_mem_nil⟩⟩) (List.forall_mem_cons.mpr ⟨sd_bel_i, List.forall_mem_cons.mpr ⟨(sd_bel_r (by omega)), fun _ h => absurd h List.not_mem_nil⟩⟩) d_C_init_56 (ci := 5) (N := 7) (C := "SettingsDesk$Leaf") (T := T_F) rfl ty_F ty_F_ok lay_F (List.mem_cons_of_mem _ q608) (List.mem_cons_of_mem _ q610) (List.mem_cons_of_mem _ q335) (sd_nr rfl) (by decide +kernel) rfl rfl (fun ad25 L25 M25 hA25 hl25 hu25 hy25 hq25 e25 => ?_)
  replace hw := hw M25 e25
  clear e25
  replace hlo : L25 1 = sd_O 1 [none, none, some (some 2), some (some 3), none, some (some 4)] := (hu25.2 1 (by omega)).trans hlo
  replace hy3 : L25 2 = (sd_I (dA 0) 4) := (hu25.2 2 (by omega)).trans hy3
  replace hy8 : L25 4 = (sd_P (dA 4) 4 (fun _ => none)) := (hu25.2 4 (by omega)).trans hy8
  replace hfF : ∀ j, j < 5 → isF 11 L25 (5 + j) := fun j hj => ⟨Nat.lt_of_lt_of_le (hfF j hj).1 (by omega), (hu25.2 _ (by omega)).trans (hfF j hj).2⟩
  replace hy24 : L25 3 = (sd_P (dA 3) 16 (va_up (va_up (va_up (va_up (va_up (fun _ => none) 0 (some 5)) 1 (some 6)) 2 (some 7)) 3 (some 8)) 4 (some 9))) := (hu25.2 3 (by omega)).trans hy24
  refine x_dup d_C_init_59 rfl ?_
  refine x_callIv (As := []) (t := 10) (rest := [.ref 10, .int 5, .ref 3]) (rc := 14) (rs := 90) (L2 := L25) (na := 0) (host := "SettingsDesk") (c_F_init hA25 hT ⟨by omega, hy25⟩ hw) (sd_goodB q611) ⟨_, rfl⟩ (List.mem_cons_of_mem _ q335) (List.mem_cons_of_mem _ q612) (Or.inr (List.mem_of_getElem? (i := 2) rfl)) ⟨rfl, by decide, by decide, by decide +kernel⟩ ⟨rfl, rfl, rfl, rfl⟩ ⟨by decide, by decide⟩ d_C_init_60 rfl rfl (Nat.le_of_ble_eq_true rfl) (fun M26 hw => ?_)
  replace hfF : ∀ j, j < 6 → isF 11 L25 (5 + j) := fun j hj => by
    by_cases h9 : j = 5
    · subst h9; exact ⟨by omega, hy25⟩
    · exact hfF j (by omega)
  refine x_aast (t0 := 3) (u := 10) hA25 d_C_init_63 (by omega) hy24 (by omega) (hfF 5 (by decide)).2 rfl rfl (vp_in_nI (n := 5) (N := 16) (by decide) (by decide)) ?_
  obtain ⟨L27, hL27⟩ : ∃ z, z = va_up L25 3 (sd_P (dA 3) 16 (va_up (va_up (va_up (va_up (va_up (va_up (fun _ => none) 0 (some 5)) 1 (some 6)) 2 (some 7)) 3 (some 8)) 4 (some 9)) 5 (some 10))) := ⟨_, rfl⟩
  show sdW l (sdE0 sc) Y_C_init D (sd_tys dA) b _ _ (va_up L25 3 (sd_P (dA 3) 16 (va_up (va_up (va_up (va_up (va_up (va_up (fun _ => none) 0 (some 5)) 1 (some 6)) 2 (some 7)) 3 (some 8)) 4 (some 9)) 5 (some 10)))) ad _ _ _ _ _ _ _ _ _
  rw [← hL27]
  have hn27 : ∀ k, k ≠ 3 → L27 k = L25 k := fun k h => by rw [hL27]; exact va_up_ne _ _ h
  have hy27 : L27 3 = (sd_P (dA 3) 16 (va_up (va_up (va_up (va_up (va_up (va_up (fun _ => none) 0 (some 5)) 1 (some 6)) 2 (some 7)) 3 (some 8)) 4 (some 9)) 5 (some 10))) := by rw [hL27]; exact va_up_self _ _ _
  have hl27 : sd_loc 11 L27 := by rw [hL27]; exact sd_loc_at hl25 (sd_P_loc (sd_Pl_up (sd_Pl_up (sd_Pl_up (sd_Pl_up (sd_Pl_up (sd_Pl_up sd_Pl_none (by omega)) (by omega)) (by omega)) (by omega)) (by omega)) (by omega)))
  clear hL27
  replace hlo : L27 1 = sd_O 1 [none, none, some (some 2), some (some 3), none, some (some 4)] := (hn27 1 (by omega)).trans hlo
  replace hy3 : L27 2 = (sd_I (dA 0) 4) := (hn27 2 (by omega)).trans hy3
  replace hy8 : L27 4 = (sd_P (dA 4) 4 (fun _ => none)) := (hn27 4 (by omega)).trans hy8
  replace hfF : ∀ j, j < 6 → isF 11 L27 (5 + j) := fun j hj => ⟨Nat.lt_of_lt_of_le (hfF j hj).1 (by omega), (hn27 _ (by omega)).trans (hfF j hj).2⟩
  refine x_iinc 1 0 [(1, .int 6), (0, .ref 1)] d_C_init_64 rfl (by decide) (by decide) rfl ?_
  refine x_goto 45 d_C_init_67 rfl ?_
  refine x_iload_n 1 0 d_C_init_45 rfl rfl ?_
  refine x_bipush (v := 16) d_C_init_46 (by decide) ?_
  refine x_icmp_ge 70 d_C_init_48 rfl (fun hc => absurd hc (by decide)) (fun _ => ?_)
  refine x_aload_n 0 1 d_C_init_51 rfl rfl ?_
  refine x_getr 3 3 d_C_init_52 (by omega) hlo rfl rfl (by decide) lay_C (List.mem_cons_of_mem _ q78) rfl ?_
  refine x_iload_n 1 0 d_C_init_55 rfl rfl ?_
  refine x_new (rc := 13) (rs := 83) (n := 11) [none, none, none, none, none, none, none] hA25 hl27 (List.forall_mem_cons.mpr ⟨sd_bel_i, List.forall_mem_cons.mpr ⟨(sd_bel_r (by omega)), fun _ h => absurd h List.not_mem_nil⟩⟩) (List.forall_mem_cons.mpr ⟨sd_bel_i, List.forall_mem_cons.mpr ⟨(sd_bel_r (by omega)), fun _ h => absurd h List.not_mem_nil⟩⟩) d_C_init_56 (ci := 5) (N := 7) (C := "SettingsDesk$Leaf") (T := T_F) rfl ty_F ty_F_ok lay_F (List.mem_cons_of_mem _ q608) (List.mem_cons_of_mem _ q610) (List.mem_cons_of_mem _ q335) (sd_nr rfl) (by decide +kernel) rfl rfl (fun ad28 L28 M28 hA28 hl28 hu28 hy28 hq28 e28 => ?_)
  replace hw := hw M28 e28
  clear e28
  replace hlo : L28 1 = sd_O 1 [none, none, some (some 2), some (some 3), none, some (some 4)] := (hu28.2 1 (by omega)).trans hlo
  replace hy3 : L28 2 = (sd_I (dA 0) 4) := (hu28.2 2 (by omega)).trans hy3
  replace hy8 : L28 4 = (sd_P (dA 4) 4 (fun _ => none)) := (hu28.2 4 (by omega)).trans hy8
  replace hfF : ∀ j, j < 6 → isF 12 L28 (5 + j) := fun j hj => ⟨Nat.lt_of_lt_of_le (hfF j hj).1 (by omega), (hu28.2 _ (by omega)).trans (hfF j hj).2⟩
  replace hy27 : L28 3 = (sd_P (dA 3) 16 (va_up (va_up (va_up (va_up (va_up (va_up (fun _ => none) 0 (some 5)) 1 (some 6)) 2 (some 7)) 3 (some 8)) 4 (some 9)) 5 (some 10))) := (hu28.2 3 (by omega)).trans hy27
  refine x_dup d_C_init_59 rfl ?_
  refine x_callIv (As := []) (t := 11) (rest := [.ref 11, .int 6, .ref 3]) (rc := 13) (rs := 83) (L2 := L28) (na := 0) (host := "SettingsDesk") (c_F_init hA28 hT ⟨by omega, hy28⟩ hw) (sd_goodB q611) ⟨_, rfl⟩ (List.mem_cons_of_mem _ q335) (List.mem_cons_of_mem _ q612) (Or.inr (List.mem_of_getElem? (i := 2) rfl)) ⟨rfl, by decide, by decide, by decide +kernel⟩ ⟨rfl, rfl, rfl, rfl⟩ ⟨by decide, by decide⟩ d_C_init_60 rfl rfl (Nat.le_of_ble_eq_true rfl) (fun M29 hw => ?_)
  replace hfF : ∀ j, j < 7 → isF 12 L28 (5 + j) := fun j hj => by
    by_cases h9 : j = 6
    · subst h9; exact ⟨by omega, hy28⟩
    · exact hfF j (by omega)
  refine x_aast (t0 := 3) (u := 11) hA28 d_C_init_63 (by omega) hy27 (by omega) (hfF 6 (by decide)).2 rfl rfl (vp_in_nI (n := 6) (N := 16) (by decide) (by decide)) ?_
  obtain ⟨L30, hL30⟩ : ∃ z, z = va_up L28 3 (sd_P (dA 3) 16 (va_up (va_up (va_up (va_up (va_up (va_up (va_up (fun _ => none) 0 (some 5)) 1 (some 6)) 2 (some 7)) 3 (some 8)) 4 (some 9)) 5 (some 10)) 6 (some 11))) := ⟨_, rfl⟩
  show sdW l (sdE0 sc) Y_C_init D (sd_tys dA) b _ _ (va_up L28 3 (sd_P (dA 3) 16 (va_up (va_up (va_up (va_up (va_up (va_up (va_up (fun _ => none) 0 (some 5)) 1 (some 6)) 2 (some 7)) 3 (some 8)) 4 (some 9)) 5 (some 10)) 6 (some 11)))) ad _ _ _ _ _ _ _ _ _
  rw [← hL30]
  have hn30 : ∀ k, k ≠ 3 → L30 k = L28 k := fun k h => by rw [hL30]; exact va_up_ne _ _ h
  have hy30 : L30 3 = (sd_P (dA 3) 16 (va_up (va_up (va_up (va_up (va_up (va_up (va_up (fun _ => none) 0 (some 5)) 1 (some 6)) 2 (some 7)) 3 (some 8)) 4 (some 9)) 5 (some 10)) 6 (some 11))) := by rw [hL30]; exact va_up_self _ _ _
  have hl30 : sd_loc 12 L30 := by rw [hL30]; exact sd_loc_at hl28 (sd_P_loc (sd_Pl_up (sd_Pl_up (sd_Pl_up (sd_Pl_up (sd_Pl_up (sd_Pl_up (sd_Pl_up sd_Pl_none (by omega)) (by omega)) (by omega)) (by omega)) (by omega)) (by omega)) (by omega)))
  clear hL30
  replace hlo : L30 1 = sd_O 1 [none, none, some (some 2), some (some 3), none, some (some 4)] := (hn30 1 (by omega)).trans hlo
  replace hy3 : L30 2 = (sd_I (dA 0) 4) := (hn30 2 (by omega)).trans hy3
  replace hy8 : L30 4 = (sd_P (dA 4) 4 (fun _ => none)) := (hn30 4 (by omega)).trans hy8
  replace hfF : ∀ j, j < 7 → isF 12 L30 (5 + j) := fun j hj => ⟨Nat.lt_of_lt_of_le (hfF j hj).1 (by omega), (hn30 _ (by omega)).trans (hfF j hj).2⟩
  refine x_iinc 1 0 [(1, .int 7), (0, .ref 1)] d_C_init_64 rfl (by decide) (by decide) rfl ?_
  refine x_goto 45 d_C_init_67 rfl ?_
  refine x_iload_n 1 0 d_C_init_45 rfl rfl ?_
  refine x_bipush (v := 16) d_C_init_46 (by decide) ?_
  refine x_icmp_ge 70 d_C_init_48 rfl (fun hc => absurd hc (by decide)) (fun _ => ?_)
  refine x_aload_n 0 1 d_C_init_51 rfl rfl ?_
  refine x_getr 3 3 d_C_init_52 (by omega) hlo rfl rfl (by decide) lay_C (List.mem_cons_of_mem _ q78) rfl ?_
  refine x_iload_n 1 0 d_C_init_55 rfl rfl ?_
  refine x_new (rc := 12) (rs := 76) (n := 12) [none, none, none, none, none, none, none] hA28 hl30 (List.forall_mem_cons.mpr ⟨sd_bel_i, List.forall_mem_cons.mpr ⟨(sd_bel_r (by omega)), fun _ h => absurd h List.not_mem_nil⟩⟩) (List.forall_mem_cons.mpr ⟨sd_bel_i, List.forall_mem_cons.mpr ⟨(sd_bel_r (by omega)), fun _ h => absurd h List.not_mem_nil⟩⟩) d_C_init_56 (ci := 5) (N := 7) (C := "SettingsDesk$Leaf") (T := T_F) rfl ty_F ty_F_ok lay_F (List.mem_cons_of_mem _ q608) (List.mem_cons_of_mem _ q610) (List.mem_cons_of_mem _ q335) (sd_nr rfl) (by decide +kernel) rfl rfl (fun ad31 L31 M31 hA31 hl31 hu31 hy31 hq31 e31 => ?_)
  replace hw := hw M31 e31
  clear e31
  replace hlo : L31 1 = sd_O 1 [none, none, some (some 2), some (some 3), none, some (some 4)] := (hu31.2 1 (by omega)).trans hlo
  replace hy3 : L31 2 = (sd_I (dA 0) 4) := (hu31.2 2 (by omega)).trans hy3
  replace hy8 : L31 4 = (sd_P (dA 4) 4 (fun _ => none)) := (hu31.2 4 (by omega)).trans hy8
  replace hfF : ∀ j, j < 7 → isF 13 L31 (5 + j) := fun j hj => ⟨Nat.lt_of_lt_of_le (hfF j hj).1 (by omega), (hu31.2 _ (by omega)).trans (hfF j hj).2⟩
  replace hy30 : L31 3 = (sd_P (dA 3) 16 (va_up (va_up (va_up (va_up (va_up (va_up (va_up (fun _ => none) 0 (some 5)) 1 (some 6)) 2 (some 7)) 3 (some 8)) 4 (some 9)) 5 (some 10)) 6 (some 11))) := (hu31.2 3 (by omega)).trans hy30
  refine x_dup d_C_init_59 rfl ?_
  refine x_callIv (As := []) (t := 12) (rest := [.ref 12, .int 7, .ref 3]) (rc := 12) (rs := 76) (L2 := L31) (na := 0) (host := "SettingsDesk") (c_F_init hA31 hT ⟨by omega, hy31⟩ hw) (sd_goodB q611) ⟨_, rfl⟩ (List.mem_cons_of_mem _ q335) (List.mem_cons_of_mem _ q612) (Or.inr (List.mem_of_getElem? (i := 2) rfl)) ⟨rfl, by decide, by decide, by decide +kernel⟩ ⟨rfl, rfl, rfl, rfl⟩ ⟨by decide, by decide⟩ d_C_init_60 rfl rfl (Nat.le_of_ble_eq_true rfl) (fun M32 hw => ?_)
  replace hfF : ∀ j, j < 8 → isF 13 L31 (5 + j) := fun j hj => by
    by_cases h9 : j = 7
    · subst h9; exact ⟨by omega, hy31⟩
    · exact hfF j (by omega)
  refine x_aast (t0 := 3) (u := 12) hA31 d_C_init_63 (by omega) hy30 (by omega) (hfF 7 (by decide)).2 rfl rfl (vp_in_nI (n := 7) (N := 16) (by decide) (by decide)) ?_
  obtain ⟨L33, hL33⟩ : ∃ z, z = va_up L31 3 (sd_P (dA 3) 16 (va_up (va_up (va_up (va_up (va_up (va_up (va_up (va_up (fun _ => none) 0 (some 5)) 1 (some 6)) 2 (some 7)) 3 (some 8)) 4 (some 9)) 5 (some 10)) 6 (some 11)) 7 (some 12))) := ⟨_, rfl⟩
  show sdW l (sdE0 sc) Y_C_init D (sd_tys dA) b _ _ (va_up L31 3 (sd_P (dA 3) 16 (va_up (va_up (va_up (va_up (va_up (va_up (va_up (va_up (fun _ => none) 0 (some 5)) 1 (some 6)) 2 (some 7)) 3 (some 8)) 4 (some 9)) 5 (some 10)) 6 (some 11)) 7 (some 12)))) ad _ _ _ _ _ _ _ _ _
  rw [← hL33]
  have hn33 : ∀ k, k ≠ 3 → L33 k = L31 k := fun k h => by rw [hL33]; exact va_up_ne _ _ h
  have hy33 : L33 3 = (sd_P (dA 3) 16 (va_up (va_up (va_up (va_up (va_up (va_up (va_up (va_up (fun _ => none) 0 (some 5)) 1 (some 6)) 2 (some 7)) 3 (some 8)) 4 (some 9)) 5 (some 10)) 6 (some 11)) 7 (some 12))) := by rw [hL33]; exact va_up_self _ _ _
  have hl33 : sd_loc 13 L33 := by rw [hL33]; exact sd_loc_at hl31 (sd_P_loc (sd_Pl_up (sd_Pl_up (sd_Pl_up (sd_Pl_up (sd_Pl_up (sd_Pl_up (sd_Pl_up (sd_Pl_up sd_Pl_none (by omega)) (by omega)) (by omega)) (by omega)) (by omega)) (by omega)) (by omega)) (by omega)))
  clear hL33
  replace hlo : L33 1 = sd_O 1 [none, none, some (some 2), some (some 3), none, some (some 4)] := (hn33 1 (by omega)).trans hlo
  replace hy3 : L33 2 = (sd_I (dA 0) 4) := (hn33 2 (by omega)).trans hy3
  replace hy8 : L33 4 = (sd_P (dA 4) 4 (fun _ => none)) := (hn33 4 (by omega)).trans hy8
  replace hfF : ∀ j, j < 8 → isF 13 L33 (5 + j) := fun j hj => ⟨Nat.lt_of_lt_of_le (hfF j hj).1 (by omega), (hn33 _ (by omega)).trans (hfF j hj).2⟩
  refine x_iinc 1 0 [(1, .int 8), (0, .ref 1)] d_C_init_64 rfl (by decide) (by decide) rfl ?_
  refine x_goto 45 d_C_init_67 rfl ?_
  refine x_iload_n 1 0 d_C_init_45 rfl rfl ?_
  refine x_bipush (v := 16) d_C_init_46 (by decide) ?_
  refine x_icmp_ge 70 d_C_init_48 rfl (fun hc => absurd hc (by decide)) (fun _ => ?_)
  refine x_aload_n 0 1 d_C_init_51 rfl rfl ?_
  refine x_getr 3 3 d_C_init_52 (by omega) hlo rfl rfl (by decide) lay_C (List.mem_cons_of_mem _ q78) rfl ?_
  refine x_iload_n 1 0 d_C_init_55 rfl rfl ?_
  refine x_new (rc := 11) (rs := 69) (n := 13) [none, none, none, none, none, none, none] hA31 hl33 (List.forall_mem_cons.mpr ⟨sd_bel_i, List.forall_mem_cons.mpr ⟨(sd_bel_r (by omega)), fun _ h => absurd h List.not_mem_nil⟩⟩) (List.forall_mem_cons.mpr ⟨sd_bel_i, List.forall_mem_cons.mpr ⟨(sd_bel_r (by omega)), fun _ h => absurd h List.not_mem_nil⟩⟩) d_C_init_56 (ci := 5) (N := 7) (C := "SettingsDesk$Leaf") (T := T_F) rfl ty_F ty_F_ok lay_F (List.mem_cons_of_mem _ q608) (List.mem_cons_of_mem _ q610) (List.mem_cons_of_mem _ q335) (sd_nr rfl) (by decide +kernel) rfl rfl (fun ad34 L34 M34 hA34 hl34 hu34 hy34 hq34 e34 => ?_)
  replace hw := hw M34 e34
  clear e34
  replace hlo : L34 1 = sd_O 1 [none, none, some (some 2), some (some 3), none, some (some 4)] := (hu34.2 1 (by omega)).trans hlo
  replace hy3 : L34 2 = (sd_I (dA 0) 4) := (hu34.2 2 (by omega)).trans hy3
  replace hy8 : L34 4 = (sd_P (dA 4) 4 (fun _ => none)) := (hu34.2 4 (by omega)).trans hy8
  replace hfF : ∀ j, j < 8 → isF 14 L34 (5 + j) := fun j hj => ⟨Nat.lt_of_lt_of_le (hfF j hj).1 (by omega), (hu34.2 _ (by omega)).trans (hfF j hj).2⟩
  replace hy33 : L34 3 = (sd_P (dA 3) 16 (va_up (va_up (va_up (va_up (va_up (va_up (va_up (va_up (fun _ => none) 0 (some 5)) 1 (some 6)) 2 (some 7)) 3 (some 8)) 4 (some 9)) 5 (some 10)) 6 (some 11)) 7 (some 12))) := (hu34.2 3 (by omega)).trans hy33
  refine x_dup d_C_init_59 rfl ?_
  refine x_callIv (As := []) (t := 13) (rest := [.ref 13, .int 8, .ref 3]) (rc := 11) (rs := 69) (L2 := L34) (na := 0) (host := "SettingsDesk") (c_F_init hA34 hT ⟨by omega, hy34⟩ hw) (sd_goodB q611) ⟨_, rfl⟩ (List.mem_cons_of_mem _ q335) (List.mem_cons_of_mem _ q612) (Or.inr (List.mem_of_getElem? (i := 2) rfl)) ⟨rfl, by decide, by decide, by decide +kernel⟩ ⟨rfl, rfl, rfl, rfl⟩ ⟨by decide, by decide⟩ d_C_init_60 rfl rfl (Nat.le_of_ble_eq_true rfl) (fun M35 hw => ?_)
  replace hfF : ∀ j, j < 9 → isF 14 L34 (5 + j) := fun j hj => by
    by_cases h9 : j = 8
    · subst h9; exact ⟨by omega, hy34⟩
    · exact hfF j (by omega)
  refine x_aast (t0 := 3) (u := 13) hA34 d_C_init_63 (by omega) hy33 (by omega) (hfF 8 (by decide)).2 rfl rfl (vp_in_nI (n := 8) (N := 16) (by decide) (by decide)) ?_
  obtain ⟨L36, hL36⟩ : ∃ z, z = va_up L34 3 (sd_P (dA 3) 16 (va_up (va_up (va_up (va_up (va_up (va_up (va_up (va_up (va_up (fun _ => none) 0 (some 5)) 1 (some 6)) 2 (some 7)) 3 (some 8)) 4 (some 9)) 5 (some 10)) 6 (some 11)) 7 (some 12)) 8 (some 13))) := ⟨_, rfl⟩
  show sdW l (sdE0 sc) Y_C_init D (sd_tys dA) b _ _ (va_up L34 3 (sd_P (dA 3) 16 (va_up (va_up (va_up (va_up (va_up (va_up (va_up (va_up (va_up (fun _ => none) 0 (some 5)) 1 (some 6)) 2 (some 7)) 3 (some 8)) 4 (some 9)) 5 (some 10)) 6 (some 11)) 7 (some 12)) 8 (some 13)))) ad _ _ _ _ _ _ _ _ _
  rw [← hL36]
  have hn36 : ∀ k, k ≠ 3 → L36 k = L34 k := fun k h => by rw [hL36]; exact va_up_ne _ _ h
  have hy36 : L36 3 = (sd_P (dA 3) 16 (va_up (va_up (va_up (va_up (va_up (va_up (va_up (va_up (va_up (fun _ => none) 0 (some 5)) 1 (some 6)) 2 (some 7)) 3 (some 8)) 4 (some 9)) 5 (some 10)) 6 (some 11)) 7 (some 12)) 8 (some 13))) := by rw [hL36]; exact va_up_self _ _ _
  have hl36 : sd_loc 14 L36 := by rw [hL36]; exact sd_loc_at hl34 (sd_P_loc (sd_Pl_up (sd_Pl_up (sd_Pl_up (sd_Pl_up (sd_Pl_up (sd_Pl_up (sd_Pl_up (sd_Pl_up (sd_Pl_up sd_Pl_none (by omega)) (by omega)) (by omega)) (by omega)) (by omega)) (by omega)) (by omega)) (by omega)) (by omega)))
  clear hL36
  replace hlo : L36 1 = sd_O 1 [none, none, some (some 2), some (some 3), none, some (some 4)] := (hn36 1 (by omega)).trans hlo
  replace hy3 : L36 2 = (sd_I (dA 0) 4) := (hn36 2 (by omega)).trans hy3
  replace hy8 : L36 4 = (sd_P (dA 4) 4 (fun _ => none)) := (hn36 4 (by omega)).trans hy8
  replace hfF : ∀ j, j < 9 → isF 14 L36 (5 + j) := fun j hj => ⟨Nat.lt_of_lt_of_le (hfF j hj).1 (by omega), (hn36 _ (by omega)).trans (hfF j hj).2⟩
  refine x_iinc 1 0 [(1, .int 9), (0, .ref 1)] d_C_init_64 rfl (by decide) (by decide) rfl ?_
  refine x_goto 45 d_C_init_67 rfl ?_
  refine x_iload_n 1 0 d_C_init_45 rfl rfl ?_
  refine x_bipush (v := 16) d_C_init_46 (by decide) ?_
  refine x_icmp_ge 70 d_C_init_48 rfl (fun hc => absurd hc (by decide)) (fun _ => ?_)
  refine x_aload_n 0 1 d_C_init_51 rfl rfl ?_
  refine x_getr 3 3 d_C_init_52 (by omega) hlo rfl rfl (by decide) lay_C (List.mem_cons_of_mem _ q78) rfl ?_
  refine x_iload_n 1 0 d_C_init_55 rfl rfl ?_
  refine x_new (rc := 10) (rs := 62) (n := 14) [none, none, none, none, none, none, none] hA34 hl36 (List.forall_mem_cons.mpr ⟨sd_bel_i, List.forall_mem_cons.mpr ⟨(sd_bel_r (by omega)), fun _ h => absurd h List.not_mem_nil⟩⟩) (List.forall_mem_cons.mpr ⟨sd_bel_i, List.forall_mem_cons.mpr ⟨(sd_bel_r (by omega)), fun _ h => absurd h List.not_mem_nil⟩⟩) d_C_init_56 (ci := 5) (N := 7) (C := "SettingsDesk$Leaf") (T := T_F) rfl ty_F ty_F_ok lay_F (List.mem_cons_of_mem _ q608) (List.mem_cons_of_mem _ q610) (List.mem_cons_of_mem _ q335) (sd_nr rfl) (by decide +kernel) rfl rfl (fun ad37 L37 M37 hA37 hl37 hu37 hy37 hq37 e37 => ?_)
  replace hw := hw M37 e37
  clear e37
  replace hlo : L37 1 = sd_O 1 [none, none, some (some 2), some (some 3), none, some (some 4)] := (hu37.2 1 (by omega)).trans hlo
  replace hy3 : L37 2 = (sd_I (dA 0) 4) := (hu37.2 2 (by omega)).trans hy3
  replace hy8 : L37 4 = (sd_P (dA 4) 4 (fun _ => none)) := (hu37.2 4 (by omega)).trans hy8
  replace hfF : ∀ j, j < 9 → isF 15 L37 (5 + j) := fun j hj => ⟨Nat.lt_of_lt_of_le (hfF j hj).1 (by omega), (hu37.2 _ (by omega)).trans (hfF j hj).2⟩
  replace hy36 : L37 3 = (sd_P (dA 3) 16 (va_up (va_up (va_up (va_up (va_up (va_up (va_up (va_up (va_up (fun _ => none) 0 (some 5)) 1 (some 6)) 2 (some 7)) 3 (some 8)) 4 (some 9)) 5 (some 10)) 6 (some 11)) 7 (some 12)) 8 (some 13))) := (hu37.2 3 (by omega)).trans hy36
  refine x_dup d_C_init_59 rfl ?_
  refine x_callIv (As := []) (t := 14) (rest := [.ref 14, .int 9, .ref 3]) (rc := 10) (rs := 62) (L2 := L37) (na := 0) (host := "SettingsDesk") (c_F_init hA37 hT ⟨by omega, hy37⟩ hw) (sd_goodB q611) ⟨_, rfl⟩ (List.mem_cons_of_mem _ q335) (List.mem_cons_of_mem _ q612) (Or.inr (List.mem_of_getElem? (i := 2) rfl)) ⟨rfl, by decide, by decide, by decide +kernel⟩ ⟨rfl, rfl, rfl, rfl⟩ ⟨by decide, by decide⟩ d_C_init_60 rfl rfl (Nat.le_of_ble_eq_true rfl) (fun M38 hw => ?_)
  replace hfF : ∀ j, j < 10 → isF 15 L37 (5 + j) := fun j hj => by
    by_cases h9 : j = 9
    · subst h9; exact ⟨by omega, hy37⟩
    · exact hfF j (by omega)
  refine x_aast (t0 := 3) (u := 14) hA37 d_C_init_63 (by omega) hy36 (by omega) (hfF 9 (by decide)).2 rfl rfl (vp_in_nI (n := 9) (N := 16) (by decide) (by decide)) ?_
  obtain ⟨L39, hL39⟩ : ∃ z, z = va_up L37 3 (sd_P (dA 3) 16 (va_up (va_up (va_up (va_up (va_up (va_up (va_up (va_up (va_up (va_up (fun _ => none) 0 (some 5)) 1 (some 6)) 2 (some 7)) 3 (some 8)) 4 (some 9)) 5 (some 10)) 6 (some 11)) 7 (some 12)) 8 (some 13)) 9 (some 14))) := ⟨_, rfl⟩
  show sdW l (sdE0 sc) Y_C_init D (sd_tys dA) b _ _ (va_up L37 3 (sd_P (dA 3) 16 (va_up (va_up (va_up (va_up (va_up (va_up (va_up (va_up (va_up (va_up (fun _ => none) 0 (some 5)) 1 (some 6)) 2 (some 7)) 3 (some 8)) 4 (some 9)) 5 (some 10)) 6 (some 11)) 7 (some 12)) 8 (some 13)) 9 (some 14)))) ad _ _ _ _ _ _ _ _ _
  rw [← hL39]
  have hn39 : ∀ k, k ≠ 3 → L39 k = L37 k := fun k h => by rw [hL39]; exact va_up_ne _ _ h
  have hy39 : L39 3 = (sd_P (dA 3) 16 (va_up (va_up (va_up (va_up (va_up (va_up (va_up (va_up (va_up (va_up (fun _ => none) 0 (some 5)) 1 (some 6)) 2 (some 7)) 3 (some 8)) 4 (some 9)) 5 (some 10)) 6 (some 11)) 7 (some 12)) 8 (some 13)) 9 (some 14))) := by rw [hL39]; exact va_up_self _ _ _
  have hl39 : sd_loc 15 L39 := by rw [hL39]; exact sd_loc_at hl37 (sd_P_loc (sd_Pl_up (sd_Pl_up (sd_Pl_up (sd_Pl_up (sd_Pl_up (sd_Pl_up (sd_Pl_up (sd_Pl_up (sd_Pl_up (sd_Pl_up sd_Pl_none (by omega)) (by omega)) (by omega)) (by omega)) (by omega)) (by omega)) (by omega)) (by omega)) (by omega)) (by omega)))
  clear hL39
  replace hlo : L39 1 = sd_O 1 [none, none, some (some 2), some (some 3), none, some (some 4)] := (hn39 1 (by omega)).trans hlo
  replace hy3 : L39 2 = (sd_I (dA 0) 4) := (hn39 2 (by omega)).trans hy3
  replace hy8 : L39 4 = (sd_P (dA 4) 4 (fun _ => none)) := (hn39 4 (by omega)).trans hy8
  replace hfF : ∀ j, j < 10 → isF 15 L39 (5 + j) := fun j hj => ⟨Nat.lt_of_lt_of_le (hfF j hj).1 (by omega), (hn39 _ (by omega)).trans (hfF j hj).2⟩
  refine x_iinc 1 0 [(1, .int 10), (0, .ref 1)] d_C_init_64 rfl (by decide) (by decide) rfl ?_
  refine x_goto 45 d_C_init_67 rfl ?_
  refine x_iload_n 1 0 d_C_init_45 rfl rfl ?_
  refine x_bipush (v := 16) d_C_init_46 (by decide) ?_
  refine x_icmp_ge 70 d_C_init_48 rfl (fun hc => absurd hc (by decide)) (fun _ => ?_)
  refine x_aload_n 0 1 d_C_init_51 rfl rfl ?_
  refine x_getr 3 3 d_C_init_52 (by omega) hlo rfl rfl (by decide) lay_C (List.mem_cons_of_mem _ q78) rfl ?_
  refine x_iload_n 1 0 d_C_init_55 rfl rfl ?_
  refine x_new (rc := 9) (rs := 55) (n := 15) [none, none, none, none, none, none, none] hA37 hl39 (List.forall_mem_cons.mpr ⟨sd_bel_i, List.forall_mem_cons.mpr ⟨(sd_bel_r (by omega)), fun _ h => absurd h List.not_mem_nil⟩⟩) (List.forall_mem_cons.mpr ⟨sd_bel_i, List.forall_mem_cons.mpr ⟨(sd_bel_r (by omega)), fun _ h => absurd h List.not_mem_nil⟩⟩) d_C_init_56 (ci := 5) (N := 7) (C := "SettingsDesk$Leaf") (T := T_F) rfl ty_F ty_F_ok lay_F (List.mem_cons_of_mem _ q608) (List.mem_cons_of_mem _ q610) (List.mem_cons_of_mem _ q335) (sd_nr rfl) (by decide +kernel) rfl rfl (fun ad40 L40 M40 hA40 hl40 hu40 hy40 hq40 e40 => ?_)
  replace hw := hw M40 e40
  clear e40
  replace hlo : L40 1 = sd_O 1 [none, none, some (some 2), some (some 3), none, some (some 4)] := (hu40.2 1 (by omega)).trans hlo
  replace hy3 : L40 2 = (sd_I (dA 0) 4) := (hu40.2 2 (by omega)).trans hy3
  replace hy8 : L40 4 = (sd_P (dA 4) 4 (fun _ => none)) := (hu40.2 4 (by omega)).trans hy8
  replace hfF : ∀ j, j < 10 → isF 16 L40 (5 + j) := fun j hj => ⟨Nat.lt_of_lt_of_le (hfF j hj).1 (by omega), (hu40.2 _ (by omega)).trans (hfF j hj).2⟩
  replace hy39 : L40 3 = (sd_P (dA 3) 16 (va_up (va_up (va_up (va_up (va_up (va_up (va_up (va_up (va_up (va_up (fun _ => none) 0 (some 5)) 1 (some 6)) 2 (some 7)) 3 (some 8)) 4 (some 9)) 5 (some 10)) 6 (some 11)) 7 (some 12)) 8 (some 13)) 9 (some 14))) := (hu40.2 3 (by omega)).trans hy39
  refine x_dup d_C_init_59 rfl ?_
  refine x_callIv (As := []) (t := 15) (rest := [.ref 15, .int 10, .ref 3]) (rc := 9) (rs := 55) (L2 := L40) (na := 0) (host := "SettingsDesk") (c_F_init hA40 hT ⟨by omega, hy40⟩ hw) (sd_goodB q611) ⟨_, rfl⟩ (List.mem_cons_of_mem _ q335) (List.mem_cons_of_mem _ q612) (Or.inr (List.mem_of_getElem? (i := 2) rfl)) ⟨rfl, by decide, by decide, by decide +kernel⟩ ⟨rfl, rfl, rfl, rfl⟩ ⟨by decide, by decide⟩ d_C_init_60 rfl rfl (Nat.le_of_ble_eq_true rfl) (fun M41 hw => ?_)
  replace hfF : ∀ j, j < 11 → isF 16 L40 (5 + j) := fun j hj => by
    by_cases h9 : j = 10
    · subst h9; exact ⟨by omega, hy40⟩
    · exact hfF j (by omega)
  refine x_aast (t0 := 3) (u := 15) hA40 d_C_init_63 (by omega) hy39 (by omega) (hfF 10 (by decide)).2 rfl rfl (vp_in_nI (n := 10) (N := 16) (by decide) (by decide)) ?_
  obtain ⟨L42, hL42⟩ : ∃ z, z = va_up L40 3 (sd_P (dA 3) 16 (va_up (va_up (va_up (va_up (va_up (va_up (va_up (va_up (va_up (va_up (va_up (fun _ => none) 0 (some 5)) 1 (some 6)) 2 (some 7)) 3 (some 8)) 4 (some 9)) 5 (some 10)) 6 (some 11)) 7 (some 12)) 8 (some 13)) 9 (some 14)) 10 (some 15))) := ⟨_, rfl⟩
  show sdW l (sdE0 sc) Y_C_init D (sd_tys dA) b _ _ (va_up L40 3 (sd_P (dA 3) 16 (va_up (va_up (va_up (va_up (va_up (va_up (va_up (va_up (va_up (va_up (va_up (fun _ => none) 0 (some 5)) 1 (some 6)) 2 (some 7)) 3 (some 8)) 4 (some 9)) 5 (some 10)) 6 (some 11)) 7 (some 12)) 8 (some 13)) 9 (some 14)) 10 (some 15)))) ad _ _ _ _ _ _ _ _ _
  rw [← hL42]
  have hn42 : ∀ k, k ≠ 3 → L42 k = L40 k := fun k h => by rw [hL42]; exact va_up_ne _ _ h
  have hy42 : L42 3 = (sd_P (dA 3) 16 (va_up (va_up (va_up (va_up (va_up (va_up (va_up (va_up (va_up (va_up (va_up (fun _ => none) 0 (some 5)) 1 (some 6)) 2 (some 7)) 3 (some 8)) 4 (some 9)) 5 (some 10)) 6 (some 11)) 7 (some 12)) 8 (some 13)) 9 (some 14)) 10 (some 15))) := by rw [hL42]; exact va_up_self _ _ _
  have hl42 : sd_loc 16 L42 := by rw [hL42]; exact sd_loc_at hl40 (sd_P_loc (sd_Pl_up (sd_Pl_up (sd_Pl_up (sd_Pl_up (sd_Pl_up (sd_Pl_up (sd_Pl_up (sd_Pl_up (sd_Pl_up (sd_Pl_up (sd_Pl_up sd_Pl_none (by omega)) (by omega)) (by omega)) (by omega)) (by omega)) (by omega)) (by omega)) (by omega)) (by omega)) (by omega)) (by omega)))
  clear hL42
  replace hlo : L42 1 = sd_O 1 [none, none, some (some 2), some (some 3), none, some (some 4)] := (hn42 1 (by omega)).trans hlo
  replace hy3 : L42 2 = (sd_I (dA 0) 4) := (hn42 2 (by omega)).trans hy3
  replace hy8 : L42 4 = (sd_P (dA 4) 4 (fun _ => none)) := (hn42 4 (by omega)).trans hy8
  replace hfF : ∀ j, j < 11 → isF 16 L42 (5 + j) := fun j hj => ⟨Nat.lt_of_lt_of_le (hfF j hj).1 (by omega), (hn42 _ (by omega)).trans (hfF j hj).2⟩
  refine x_iinc 1 0 [(1, .int 11), (0, .ref 1)] d_C_init_64 rfl (by decide) (by decide) rfl ?_
  refine x_goto 45 d_C_init_67 rfl ?_
  refine x_iload_n 1 0 d_C_init_45 rfl rfl ?_
  refine x_bipush (v := 16) d_C_init_46 (by decide) ?_
  refine x_icmp_ge 70 d_C_init_48 rfl (fun hc => absurd hc (by decide)) (fun _ => ?_)
  refine x_aload_n 0 1 d_C_init_51 rfl rfl ?_
  refine x_getr 3 3 d_C_init_52 (by omega) hlo rfl rfl (by decide) lay_C (List.mem_cons_of_mem _ q78) rfl ?_
  refine x_iload_n 1 0 d_C_init_55 rfl rfl ?_
  refine x_new (rc := 8) (rs := 48) (n := 16) [none, none, none, none, none, none, none] hA40 hl42 (List.forall_mem_cons.mpr ⟨sd_bel_i, List.forall_mem_cons.mpr ⟨(sd_bel_r (by omega)), fun _ h => absurd h List.not_mem_nil⟩⟩) (List.forall_mem_cons.mpr ⟨sd_bel_i, List.forall_mem_cons.mpr ⟨(sd_bel_r (by omega)), fun _ h => absurd h List.not_mem_nil⟩⟩) d_C_init_56 (ci := 5) (N := 7) (C := "SettingsDesk$Leaf") (T := T_F) rfl ty_F ty_F_ok lay_F (List.mem_cons_of_mem _ q608) (List.mem_cons_of_mem _ q610) (List.mem_cons_of_mem _ q335) (sd_nr rfl) (by decide +kernel) rfl rfl (fun ad43 L43 M43 hA43 hl43 hu43 hy43 hq43 e43 => ?_)
  replace hw := hw M43 e43
  clear e43
  replace hlo : L43 1 = sd_O 1 [none, none, some (some 2), some (some 3), none, some (some 4)] := (hu43.2 1 (by omega)).trans hlo
  replace hy3 : L43 2 = (sd_I (dA 0) 4) := (hu43.2 2 (by omega)).trans hy3
  replace hy8 : L43 4 = (sd_P (dA 4) 4 (fun _ => none)) := (hu43.2 4 (by omega)).trans hy8
  replace hfF : ∀ j, j < 11 → isF 17 L43 (5 + j) := fun j hj => ⟨Nat.lt_of_lt_of_le (hfF j hj).1 (by omega), (hu43.2 _ (by omega)).trans (hfF j hj).2⟩
  replace hy42 : L43 3 = (sd_P (dA 3) 16 (va_up (va_up (va_up (va_up (va_up (va_up (va_up (va_up (va_up (va_up (va_up (fun _ => none) 0 (some 5)) 1 (some 6)) 2 (some 7)) 3 (some 8)) 4 (some 9)) 5 (some 10)) 6 (some 11)) 7 (some 12)) 8 (some 13)) 9 (some 14)) 10 (some 15))) := (hu43.2 3 (by omega)).trans hy42
  refine x_dup d_C_init_59 rfl ?_
  refine x_callIv (As := []) (t := 16) (rest := [.ref 16, .int 11, .ref 3]) (rc := 8) (rs := 48) (L2 := L43) (na := 0) (host := "SettingsDesk") (c_F_init hA43 hT ⟨by omega, hy43⟩ hw) (sd_goodB q611) ⟨_, rfl⟩ (List.mem_cons_of_mem _ q335) (List.mem_cons_of_mem _ q612) (Or.inr (List.mem_of_getElem? (i := 2) rfl)) ⟨rfl, by decide, by decide, by decide +kernel⟩ ⟨rfl, rfl, rfl, rfl⟩ ⟨by decide, by decide⟩ d_C_init_60 rfl rfl (Nat.le_of_ble_eq_true rfl) (fun M44 hw => ?_)
  replace hfF : ∀ j, j < 12 → isF 17 L43 (5 + j) := fun j hj => by
    by_cases h9 : j = 11
    · subst h9; exact ⟨by omega, hy43⟩
    · exact hfF j (by omega)
  refine x_aast (t0 := 3) (u := 16) hA43 d_C_init_63 (by omega) hy42 (by omega) (hfF 11 (by decide)).2 rfl rfl (vp_in_nI (n := 11) (N := 16) (by decide) (by decide)) ?_
  obtain ⟨L45, hL45⟩ : ∃ z, z = va_up L43 3 (sd_P (dA 3) 16 (va_up (va_up (va_up (va_up (va_up (va_up (va_up (va_up (va_up (va_up (va_up (va_up (fun _ => none) 0 (some 5)) 1 (some 6)) 2 (some 7)) 3 (some 8)) 4 (some 9)) 5 (some 10)) 6 (some 11)) 7 (some 12)) 8 (some 13)) 9 (some 14)) 10 (some 15)) 11 (some 16))) := ⟨_, rfl⟩
  show sdW l (sdE0 sc) Y_C_init D (sd_tys dA) b _ _ (va_up L43 3 (sd_P (dA 3) 16 (va_up (va_up (va_up (va_up (va_up (va_up (va_up (va_up (va_up (va_up (va_up (va_up (fun _ => none) 0 (some 5)) 1 (some 6)) 2 (some 7)) 3 (some 8)) 4 (some 9)) 5 (some 10)) 6 (some 11)) 7 (some 12)) 8 (some 13)) 9 (some 14)) 10 (some 15)) 11 (some 16)))) ad _ _ _ _ _ _ _ _ _
  rw [← hL45]
  have hn45 : ∀ k, k ≠ 3 → L45 k = L43 k := fun k h => by rw [hL45]; exact va_up_ne _ _ h
  have hy45 : L45 3 = (sd_P (dA 3) 16 (va_up (va_up (va_up (va_up (va_up (va_up (va_up (va_up (va_up (va_up (va_up (va_up (fun _ => none) 0 (some 5)) 1 (some 6)) 2 (some 7)) 3 (some 8)) 4 (some 9)) 5 (some 10)) 6 (some 11)) 7 (some 12)) 8 (some 13)) 9 (some 14)) 10 (some 15)) 11 (some 16))) := by rw [hL45]; exact va_up_self _ _ _
  have hl45 : sd_loc 17 L45 := by rw [hL45]; exact sd_loc_at hl43 (sd_P_loc (sd_Pl_up (sd_Pl_up (sd_Pl_up (sd_Pl_up (sd_Pl_up (sd_Pl_up (sd_Pl_up (sd_Pl_up (sd_Pl_up (sd_Pl_up (sd_Pl_up (sd_Pl_up sd_Pl_none (by omega)) (by omega)) (by omega)) (by omega)) (by omega)) (by omega)) (by omega)) (by omega)) (by omega)) (by omega)) (by omega)) (by omega)))
  clear hL45
  replace hlo : L45 1 = sd_O 1 [none, none, some (some 2), some (some 3), none, some (some 4)] := (hn45 1 (by omega)).trans hlo
  replace hy3 : L45 2 = (sd_I (dA 0) 4) := (hn45 2 (by omega)).trans hy3
  replace hy8 : L45 4 = (sd_P (dA 4) 4 (fun _ => none)) := (hn45 4 (by omega)).trans hy8
  replace hfF : ∀ j, j < 12 → isF 17 L45 (5 + j) := fun j hj => ⟨Nat.lt_of_lt_of_le (hfF j hj).1 (by omega), (hn45 _ (by omega)).trans (hfF j hj).2⟩
  refine x_iinc 1 0 [(1, .int 12), (0, .ref 1)] d_C_init_64 rfl (by decide) (by decide) rfl ?_
  refine x_goto 45 d_C_init_67 rfl ?_
  refine x_iload_n 1 0 d_C_init_45 rfl rfl ?_
  refine x_bipush (v := 16) d_C_init_46 (by decide) ?_
  refine x_icmp_ge 70 d_C_init_48 rfl (fun hc => absurd hc (by decide)) (fun _ => ?_)
  refine x_aload_n 0 1 d_C_init_51 rfl rfl ?_
  refine x_getr 3 3 d_C_init_52 (by omega) hlo rfl rfl (by decide) lay_C (List.mem_cons_of_mem _ q78) rfl ?_
  refine x_iload_n 1 0 d_C_init_55 rfl rfl ?_
  refine x_new (rc := 7) (rs := 41) (n := 17) [none, none, none, none, none, none, none] hA43 hl45 (List.forall_mem_cons.mpr ⟨sd_bel_i, List.forall_mem_cons.mpr ⟨(sd_bel_r (by omega)), fun _ h => absurd h List.not_mem_nil⟩⟩) (List.forall_mem_cons.mpr ⟨sd_bel_i, List.forall_mem_cons.mpr ⟨(sd_bel_r (by omega)), fun _ h => absurd h List.not_mem_nil⟩⟩) d_C_init_56 (ci := 5) (N := 7) (C := "SettingsDesk$Leaf") (T := T_F) rfl ty_F ty_F_ok lay_F (List.mem_cons_of_mem _ q608) (List.mem_cons_of_mem _ q610) (List.mem_cons_of_mem _ q335) (sd_nr rfl) (by decide +kernel) rfl rfl (fun ad46 L46 M46 hA46 hl46 hu46 hy46 hq46 e46 => ?_)
  replace hw := hw M46 e46
  clear e46
  replace hlo : L46 1 = sd_O 1 [none, none, some (some 2), some (some 3), none, some (some 4)] := (hu46.2 1 (by omega)).trans hlo
  replace hy3 : L46 2 = (sd_I (dA 0) 4) := (hu46.2 2 (by omega)).trans hy3
  replace hy8 : L46 4 = (sd_P (dA 4) 4 (fun _ => none)) := (hu46.2 4 (by omega)).trans hy8
  replace hfF : ∀ j, j < 12 → isF 18 L46 (5 + j) := fun j hj => ⟨Nat.lt_of_lt_of_le (hfF j hj).1 (by omega), (hu46.2 _ (by omega)).trans (hfF j hj).2⟩
  replace hy45 : L46 3 = (sd_P (dA 3) 16 (va_up (va_up (va_up (va_up (va_up (va_up (va_up (va_up (va_up (va_up (va_up (va_up (fun _ => none) 0 (some 5)) 1 (some 6)) 2 (some 7)) 3 (some 8)) 4 (some 9)) 5 (some 10)) 6 (some 11)) 7 (some 12)) 8 (some 13)) 9 (some 14)) 10 (some 15)) 11 (some 16))) := (hu46.2 3 (by omega)).trans hy45
  refine x_dup d_C_init_59 rfl ?_
  refine x_callIv (As := []) (t := 17) (rest := [.ref 17, .int 12, .ref 3]) (rc := 7) (rs := 41) (L2 := L46) (na := 0) (host := "SettingsDesk") (c_F_init hA46 hT ⟨by omega, hy46⟩ hw) (sd_goodB q611) ⟨_, rfl⟩ (List.mem_cons_of_mem _ q335) (List.mem_cons_of_mem _ q612) (Or.inr (List.mem_of_getElem? (i := 2) rfl)) ⟨rfl, by decide, by decide, by decide +kernel⟩ ⟨rfl, rfl, rfl, rfl⟩ ⟨by decide, by decide⟩ d_C_init_60 rfl rfl (Nat.le_of_ble_eq_true rfl) (fun M47 hw => ?_)
  replace hfF : ∀ j, j < 13 → isF 18 L46 (5 + j) := fun j hj => by
    by_cases h9 : j = 12
    · subst h9; exact ⟨by omega, hy46⟩
    · exact hfF j (by omega)
  refine x_aast (t0 := 3) (u := 17) hA46 d_C_init_63 (by omega) hy45 (by omega) (hfF 12 (by decide)).2 rfl rfl (vp_in_nI (n := 12) (N := 16) (by decide) (by decide)) ?_
  obtain ⟨L48, hL48⟩ : ∃ z, z = va_up L46 3 (sd_P (dA 3) 16 (va_up (va_up (va_up (va_up (va_up (va_up (va_up (va_up (va_up (va_up (va_up (va_up (va_up (fun _ => none) 0 (some 5)) 1 (some 6)) 2 (some 7)) 3 (some 8)) 4 (some 9)) 5 (some 10)) 6 (some 11)) 7 (some 12)) 8 (some 13)) 9 (some 14)) 10 (some 15)) 11 (some 16)) 12 (some 17))) := ⟨_, rfl⟩
  show sdW l (sdE0 sc) Y_C_init D (sd_tys dA) b _ _ (va_up L46 3 (sd_P (dA 3) 16 (va_up (va_up (va_up (va_up (va_up (va_up (va_up (va_up (va_up (va_up (va_up (va_up (va_up (fun _ => none) 0 (some 5)) 1 (some 6)) 2 (some 7)) 3 (some 8)) 4 (some 9)) 5 (some 10)) 6 (some 11)) 7 (some 12)) 8 (some 13)) 9 (some 14)) 10 (some 15)) 11 (some 16)) 12 (some 17)))) ad _ _ _ _ _ _ _ _ _
  rw [← hL48]
  have hn48 : ∀ k, k ≠ 3 → L48 k = L46 k := fun k h => by rw [hL48]; exact va_up_ne _ _ h
  have hy48 : L48 3 = (sd_P (dA 3) 16 (va_up (va_up (va_up (va_up (va_up (va_up (va_up (va_up (va_up (va_up (va_up (va_up (va_up (fun _ => none) 0 (some 5)) 1 (some 6)) 2 (some 7)) 3 (some 8)) 4 (some 9)) 5 (some 10)) 6 (some 11)) 7 (some 12)) 8 (some 13)) 9 (some 14)) 10 (some 15)) 11 (some 16)) 12 (some 17))) := by rw [hL48]; exact va_up_self _ _ _
  have hl48 : sd_loc 18 L48 := by rw [hL48]; exact sd_loc_at hl46 (sd_P_loc (sd_Pl_up (sd_Pl_up (sd_Pl_up (sd_Pl_up (sd_Pl_up (sd_Pl_up (sd_Pl_up (sd_Pl_up (sd_Pl_up (sd_Pl_up (sd_Pl_up (sd_Pl_up (sd_Pl_up sd_Pl_none (by omega)) (by omega)) (by omega)) (by omega)) (by omega)) (by omega)) (by omega)) (by omega)) (by omega)) (by omega)) (by omega)) (by omega)) (by omega)))
  clear hL48
  replace hlo : L48 1 = sd_O 1 [none, none, some (some 2), some (some 3), none, some (some 4)] := (hn48 1 (by omega)).trans hlo
  replace hy3 : L48 2 = (sd_I (dA 0) 4) := (hn48 2 (by omega)).trans hy3
  replace hy8 : L48 4 = (sd_P (dA 4) 4 (fun _ => none)) := (hn48 4 (by omega)).trans hy8
  replace hfF : ∀ j, j < 13 → isF 18 L48 (5 + j) := fun j hj => ⟨Nat.lt_of_lt_of_le (hfF j hj).1 (by omega), (hn48 _ (by omega)).trans (hfF j hj).2⟩
  refine x_iinc 1 0 [(1, .int 13), (0, .ref 1)] d_C_init_64 rfl (by decide) (by decide) rfl ?_
  refine x_goto 45 d_C_init_67 rfl ?_
  refine x_iload_n 1 0 d_C_init_45 rfl rfl ?_
  refine x_bipush (v := 16) d_C_init_46 (by decide) ?_
  refine x_icmp_ge 70 d_C_init_48 rfl (fun hc => absurd hc (by decide)) (fun _ => ?_)
  refine x_aload_n 0 1 d_C_init_51 rfl rfl ?_
  refine x_getr 3 3 d_C_init_52 (by omega) hlo rfl rfl (by decide) lay_C (List.mem_cons_of_mem _ q78) rfl ?_
  refine x_iload_n 1 0 d_C_init_55 rfl rfl ?_
  refine x_new (rc := 6) (rs := 34) (n := 18) [none, none, none, none, none, none, none] hA46 hl48 (List.forall_mem_cons.mpr ⟨sd_bel_i, List.forall_mem_cons.mpr ⟨(sd_bel_r (by omega)), fun _ h => absurd h List.not_mem_nil⟩⟩) (List.forall_mem_cons.mpr ⟨sd_bel_i, List.forall_mem_cons.mpr ⟨(sd_bel_r (by omega)), fun _ h => absurd h List.not_mem_nil⟩⟩) d_C_init_56 (ci := 5) (N := 7) (C := "SettingsDesk$Leaf") (T := T_F) rfl ty_F ty_F_ok lay_F (List.mem_cons_of_mem _ q608) (List.mem_cons_of_mem _ q610) (List.mem_cons_of_mem _ q335) (sd_nr rfl) (by decide +kernel) rfl rfl (fun ad49 L49 M49 hA49 hl49 hu49 hy49 hq49 e49 => ?_)
  replace hw := hw M49 e49
  clear e49
  replace hlo : L49 1 = sd_O 1 [none, none, some (some 2), some (some 3), none, some (some 4)] := (hu49.2 1 (by omega)).trans hlo
  replace hy3 : L49 2 = (sd_I (dA 0) 4) := (hu49.2 2 (by omega)).trans hy3
  replace hy8 : L49 4 = (sd_P (dA 4) 4 (fun _ => none)) := (hu49.2 4 (by omega)).trans hy8
  replace hfF : ∀ j, j < 13 → isF 19 L49 (5 + j) := fun j hj => ⟨Nat.lt_of_lt_of_le (hfF j hj).1 (by omega), (hu49.2 _ (by omega)).trans (hfF j hj).2⟩
  replace hy48 : L49 3 = (sd_P (dA 3) 16 (va_up (va_up (va_up (va_up (va_up (va_up (va_up (va_up (va_up (va_up (va_up (va_up (va_up (fun _ => none) 0 (some 5)) 1 (some 6)) 2 (some 7)) 3 (some 8)) 4 (some 9)) 5 (some 10)) 6 (some 11)) 7 (some 12)) 8 (some 13)) 9 (some 14)) 10 (some 15)) 11 (some 16)) 12 (some 17))) := (hu49.2 3 (by omega)).trans hy48
  refine x_dup d_C_init_59 rfl ?_
  refine x_callIv (As := []) (t := 18) (rest := [.ref 18, .int 13, .ref 3]) (rc := 6) (rs := 34) (L2 := L49) (na := 0) (host := "SettingsDesk") (c_F_init hA49 hT ⟨by omega, hy49⟩ hw) (sd_goodB q611) ⟨_, rfl⟩ (List.mem_cons_of_mem _ q335) (List.mem_cons_of_mem _ q612) (Or.inr (List.mem_of_getElem? (i := 2) rfl)) ⟨rfl, by decide, by decide, by decide +kernel⟩ ⟨rfl, rfl, rfl, rfl⟩ ⟨by decide, by decide⟩ d_C_init_60 rfl rfl (Nat.le_of_ble_eq_true rfl) (fun M50 hw => ?_)
  replace hfF : ∀ j, j < 14 → isF 19 L49 (5 + j) := fun j hj => by
    by_cases h9 : j = 13
    · subst h9; exact ⟨by omega, hy49⟩
    · exact hfF j (by omega)
  refine x_aast (t0 := 3) (u := 18) hA49 d_C_init_63 (by omega) hy48 (by omega) (hfF 13 (by decide)).2 rfl rfl (vp_in_nI (n := 13) (N := 16) (by decide) (by decide)) ?_
  obtain ⟨L51, hL51⟩ : ∃ z, z = va_up L49 3 (sd_P (dA 3) 16 (va_up (va_up (va_up (va_up (va_up (va_up (va_up (va_up (va_up (va_up (va_up (va_up (va_up (va_up (fun _ => none) 0 (some 5)) 1 (some 6)) 2 (some 7)) 3 (some 8)) 4 (some 9)) 5 (some 10)) 6 (some 11)) 7 (some 12)) 8 (some 13)) 9 (some 14)) 10 (some 15)) 11 (some 16)) 12 (some 17)) 13 (some 18))) := ⟨_, rfl⟩
  show sdW l (sdE0 sc) Y_C_init D (sd_tys dA) b _ _ (va_up L49 3 (sd_P (dA 3) 16 (va_up (va_up (va_up (va_up (va_up (va_up (va_up (va_up (va_up (va_up (va_up (va_up (va_up (va_up (fun _ => none) 0 (some 5)) 1 (some 6)) 2 (some 7)) 3 (some 8)) 4 (some 9)) 5 (some 10)) 6 (some 11)) 7 (some 12)) 8 (some 13)) 9 (some 14)) 10 (some 15)) 11 (some 16)) 12 (some 17)) 13 (some 18)))) ad _ _ _ _ _ _ _ _ _
  rw [← hL51]
  have hn51 : ∀ k, k ≠ 3 → L51 k = L49 k := fun k h => by rw [hL51]; exact va_up_ne _ _ h
  have hy51 : L51 3 = (sd_P (dA 3) 16 (va_up (va_up (va_up (va_up (va_up (va_up (va_up (va_up (va_up (va_up (va_up (va_up (va_up (va_up (fun _ => none) 0 (some 5)) 1 (some 6)) 2 (some 7)) 3 (some 8)) 4 (some 9)) 5 (some 10)) 6 (some 11)) 7 (some 12)) 8 (some 13)) 9 (some 14)) 10 (some 15)) 11 (some 16)) 12 (some 17)) 13 (some 18))) := by rw [hL51]; exact va_up_self _ _ _
  have hl51 : sd_loc 19 L51 := by rw [hL51]; exact sd_loc_at hl49 (sd_P_loc (sd_Pl_up (sd_Pl_up (sd_Pl_up (sd_Pl_up (sd_Pl_up (sd_Pl_up (sd_Pl_up (sd_Pl_up (sd_Pl_up (sd_Pl_up (sd_Pl_up (sd_Pl_up (sd_Pl_up (sd_Pl_up sd_Pl_none (by omega)) (by omega)) (by omega)) (by omega)) (by omega)) (by omega)) (by omega)) (by omega)) (by omega)) (by omega)) (by omega)) (by omega)) (by omega)) (by omega)))
  clear hL51
  replace hlo : L51 1 = sd_O 1 [none, none, some (some 2), some (some 3), none, some (some 4)] := (hn51 1 (by omega)).trans hlo
  replace hy3 : L51 2 = (sd_I (dA 0) 4) := (hn51 2 (by omega)).trans hy3
  replace hy8 : L51 4 = (sd_P (dA 4) 4 (fun _ => none)) := (hn51 4 (by omega)).trans hy8
  replace hfF : ∀ j, j < 14 → isF 19 L51 (5 + j) := fun j hj => ⟨Nat.lt_of_lt_of_le (hfF j hj).1 (by omega), (hn51 _ (by omega)).trans (hfF j hj).2⟩
  refine x_iinc 1 0 [(1, .int 14), (0, .ref 1)] d_C_init_64 rfl (by decide) (by decide) rfl ?_
  refine x_goto 45 d_C_init_67 rfl ?_
  refine x_iload_n 1 0 d_C_init_45 rfl rfl ?_
  refine x_bipush (v := 16) d_C_init_46 (by decide) ?_
  refine x_icmp_ge 70 d_C_init_48 rfl (fun hc => absurd hc (by decide)) (fun _ => ?_)
  refine x_aload_n 0 1 d_C_init_51 rfl rfl ?_
  refine x_getr 3 3 d_C_init_52 (by omega) hlo rfl rfl (by decide) lay_C (List.mem_cons_of_mem _ q78) rfl ?_
  refine x_iload_n 1 0 d_C_init_55 rfl rfl ?_
  refine x_new (rc := 5) (rs := 27) (n := 19) [none, none, none, none, none, none, none] hA49 hl51 (List.forall_mem_cons.mpr ⟨sd_bel_i, List.forall_mem_cons.mpr ⟨(sd_bel_r (by omega)), fun _ h => absurd h List.not_mem_nil⟩⟩) (List.forall_mem_cons.mpr ⟨sd_bel_i, List.forall_mem_cons.mpr ⟨(sd_bel_r (by omega)), fun _ h => absurd h List.not_mem_nil⟩⟩) d_C_init_56 (ci := 5) (N := 7) (C := "SettingsDesk$Leaf") (T := T_F) rfl ty_F ty_F_ok lay_F (List.mem_cons_of_mem _ q608) (List.mem_cons_of_mem _ q610) (List.mem_cons_of_mem _ q335) (sd_nr rfl) (by decide +kernel) rfl rfl (fun ad52 L52 M52 hA52 hl52 hu52 hy52 hq52 e52 => ?_)
  replace hw := hw M52 e52
  clear e52
  replace hlo : L52 1 = sd_O 1 [none, none, some (some 2), some (some 3), none, some (some 4)] := (hu52.2 1 (by omega)).trans hlo
  replace hy3 : L52 2 = (sd_I (dA 0) 4) := (hu52.2 2 (by omega)).trans hy3
  replace hy8 : L52 4 = (sd_P (dA 4) 4 (fun _ => none)) := (hu52.2 4 (by omega)).trans hy8
  replace hfF : ∀ j, j < 14 → isF 20 L52 (5 + j) := fun j hj => ⟨Nat.lt_of_lt_of_le (hfF j hj).1 (by omega), (hu52.2 _ (by omega)).trans (hfF j hj).2⟩
  replace hy51 : L52 3 = (sd_P (dA 3) 16 (va_up (va_up (va_up (va_up (va_up (va_up (va_up (va_up (va_up (va_up (va_up (va_up (va_up (va_up (fun _ => none) 0 (some 5)) 1 (some 6)) 2 (some 7)) 3 (some 8)) 4 (some 9)) 5 (some 10)) 6 (some 11)) 7 (some 12)) 8 (some 13)) 9 (some 14)) 10 (some 15)) 11 (some 16)) 12 (some 17)) 13 (some 18))) := (hu52.2 3 (by omega)).trans hy51
  refine x_dup d_C_init_59 rfl ?_
  refine x_callIv (As := []) (t := 19) (rest := [.ref 19, .int 14, .ref 3]) (rc := 5) (rs := 27) (L2 := L52) (na := 0) (host := "SettingsDesk") (c_F_init hA52 hT ⟨by omega, hy52⟩ hw) (sd_goodB q611) ⟨_, rfl⟩ (List.mem_cons_of_mem _ q335) (List.mem_cons_of_mem _ q612) (Or.inr (List.mem_of_getElem? (i := 2) rfl)) ⟨rfl, by decide, by decide, by decide +kernel⟩ ⟨rfl, rfl, rfl, rfl⟩ ⟨by decide, by decide⟩ d_C_init_60 rfl rfl (Nat.le_of_ble_eq_true rfl) (fun M53 hw => ?_)
  replace hfF : ∀ j, j < 15 → isF 20 L52 (5 + j) := fun j hj => by
    by_cases h9 : j = 14
    · subst h9; exact ⟨by omega, hy52⟩
    · exact hfF j (by omega)
  refine x_aast (t0 := 3) (u := 19) hA52 d_C_init_63 (by omega) hy51 (by omega) (hfF 14 (by decide)).2 rfl rfl (vp_in_nI (n := 14) (N := 16) (by decide) (by decide)) ?_
  obtain ⟨L54, hL54⟩ : ∃ z, z = va_up L52 3 (sd_P (dA 3) 16 (va_up (va_up (va_up (va_up (va_up (va_up (va_up (va_up (va_up (va_up (va_up (va_up (va_up (va_up (va_up (fun _ => none) 0 (some 5)) 1 (some 6)) 2 (some 7)) 3 (some 8)) 4 (some 9)) 5 (some 10)) 6 (some 11)) 7 (some 12)) 8 (some 13)) 9 (some 14)) 10 (some 15)) 11 (some 16)) 12 (some 17)) 13 (some 18)) 14 (some 19))) := ⟨_, rfl⟩
  show sdW l (sdE0 sc) Y_C_init D (sd_tys dA) b _ _ (va_up L52 3 (sd_P (dA 3) 16 (va_up (va_up (va_up (va_up (va_up (va_up (va_up (va_up (va_up (va_up (va_up (va_up (va_up (va_up (va_up (fun _ => none) 0 (some 5)) 1 (some 6)) 2 (some 7)) 3 (some 8)) 4 (some 9)) 5 (some 10)) 6 (some 11)) 7 (some 12)) 8 (some 13)) 9 (some 14)) 10 (some 15)) 11 (some 16)) 12 (some 17)) 13 (some 18)) 14 (some 19)))) ad _ _ _ _ _ _ _ _ _
  rw [← hL54]
  have hn54 : ∀ k, k ≠ 3 → L54 k = L52 k := fun k h => by rw [hL54]; exact va_up_ne _ _ h
  have hy54 : L54 3 = (sd_P (dA 3) 16 (va_up (va_up (va_up (va_up (va_up (va_up (va_up (va_up (va_up (va_up (va_up (va_up (va_up (va_up (va_up (fun _ => none) 0 (some 5)) 1 (some 6)) 2 (some 7)) 3 (some 8)) 4 (some 9)) 5 (some 10)) 6 (some 11)) 7 (some 12)) 8 (some 13)) 9 (some 14)) 10 (some 15)) 11 (some 16)) 12 (some 17)) 13 (some 18)) 14 (some 19))) := by rw [hL54]; exact va_up_self _ _ _
  have hl54 : sd_loc 20 L54 := by rw [hL54]; exact sd_loc_at hl52 (sd_P_loc (sd_Pl_up (sd_Pl_up (sd_Pl_up (sd_Pl_up (sd_Pl_up (sd_Pl_up (sd_Pl_up (sd_Pl_up (sd_Pl_up (sd_Pl_up (sd_Pl_up (sd_Pl_up (sd_Pl_up (sd_Pl_up (sd_Pl_up sd_Pl_none (by omega)) (by omega)) (by omega)) (by omega)) (by omega)) (by omega)) (by omega)) (by omega)) (by omega)) (by omega)) (by omega)) (by omega)) (by omega)) (by omega)) (by omega)))
  clear hL54
  replace hlo : L54 1 = sd_O 1 [none, none, some (some 2), some (some 3), none, some (some 4)] := (hn54 1 (by omega)).trans hlo
  replace hy3 : L54 2 = (sd_I (dA 0) 4) := (hn54 2 (by omega)).trans hy3
  replace hy8 : L54 4 = (sd_P (dA 4) 4 (fun _ => none)) := (hn54 4 (by omega)).trans hy8
  replace hfF : ∀ j, j < 15 → isF 20 L54 (5 + j) := fun j hj => ⟨Nat.lt_of_lt_of_le (hfF j hj).1 (by omega), (hn54 _ (by omega)).trans (hfF j hj).2⟩
  refine x_iinc 1 0 [(1, .int 15), (0, .ref 1)] d_C_init_64 rfl (by decide) (by decide) rfl ?_
  refine x_goto 45 d_C_init_67 rfl ?_
  refine x_iload_n 1 0 d_C_init_45 rfl rfl ?_
  refine x_bipush (v := 16) d_C_init_46 (by decide) ?_
  refine x_icmp_ge 70 d_C_init_48 rfl (fun hc => absurd hc (by decide)) (fun _ => ?_)
  refine x_aload_n 0 1 d_C_init_51 rfl rfl ?_
  refine x_getr 3 3 d_C_init_52 (by omega) hlo rfl rfl (by decide) lay_C (List.mem_cons_of_mem _ q78) rfl ?_
  refine x_iload_n 1 0 d_C_init_55 rfl rfl ?_
  refine x_new (rc := 4) (rs := 20) (n := 20) [none, none, none, none, none, none, none] hA52 hl54 (List.forall_mem_cons.mpr ⟨sd_bel_i, List.forall_mem_cons.mpr ⟨(sd_bel_r (by omega)), fun _ h => absurd h List.not_mem_nil⟩⟩) (List.forall_mem_cons.mpr ⟨sd_bel_i, List.forall_mem_cons.mpr ⟨(sd_bel_r (by omega)), fun _ h => absurd h List.not_mem_nil⟩⟩) d_C_init_56 (ci := 5) (N := 7) (C := "SettingsDesk$Leaf") (T := T_F) rfl ty_F ty_F_ok lay_F (List.mem_cons_of_mem _ q608) (List.mem_cons_of_mem _ q610) (List.mem_cons_of_mem _ q335) (sd_nr rfl) (by decide +kernel) rfl rfl (fun ad55 L55 M55 hA55 hl55 hu55 hy55 hq55 e55 => ?_)
  replace hw := hw M55 e55
  clear e55
  replace hlo : L55 1 = sd_O 1 [none, none, some (some 2), some (some 3), none, some (some 4)] := (hu55.2 1 (by omega)).trans hlo
  replace hy3 : L55 2 = (sd_I (dA 0) 4) := (hu55.2 2 (by omega)).trans hy3
  replace hy8 : L55 4 = (sd_P (dA 4) 4 (fun _ => none)) := (hu55.2 4 (by omega)).trans hy8
  replace hfF : ∀ j, j < 15 → isF 21 L55 (5 + j) := fun j hj => ⟨Nat.lt_of_lt_of_le (hfF j hj).1 (by omega), (hu55.2 _ (by omega)).trans (hfF j hj).2⟩
  replace hy54 : L55 3 = (sd_P (dA 3) 16 (va_up (va_up (va_up (va_up (va_up (va_up (va_up (va_up (va_up (va_up (va_up (va_up (va_up (va_up (va_up (fun _ => none) 0 (some 5)) 1 (some 6)) 2 (some 7)) 3 (some 8)) 4 (some 9)) 5 (some 10)) 6 (some 11)) 7 (some 12)) 8 (some 13)) 9 (some 14)) 10 (some 15)) 11 (some 16)) 12 (some 17)) 13 (some 18)) 14 (some 19))) := (hu55.2 3 (by omega)).trans hy54
  refine x_dup d_C_init_59 rfl ?_
  refine x_callIv (As := []) (t := 20) (rest := [.ref 20, .int 15, .ref 3]) (rc := 4) (rs := 20) (L2 := L55) (na := 0) (host := "SettingsDesk") (c_F_init hA55 hT ⟨by omega, hy55⟩ hw) (sd_goodB q611) ⟨_, rfl⟩ (List.mem_cons_of_mem _ q335) (List.mem_cons_of_mem _ q612) (Or.inr (List.mem_of_getElem? (i := 2) rfl)) ⟨rfl, by decide, by decide, by decide +kernel⟩ ⟨rfl, rfl, rfl, rfl⟩ ⟨by decide, by decide⟩ d_C_init_60 rfl rfl (Nat.le_of_ble_eq_true rfl) (fun M56 hw => ?_)
  replace hfF : ∀ j, j < 16 → isF 21 L55 (5 + j) := fun j hj => by
    by_cases h9 : j = 15
    · subst h9; exact ⟨by omega, hy55⟩
    · exact hfF j (by omega)
  refine x_aast (t0 := 3) (u := 20) hA55 d_C_init_63 (by omega) hy54 (by omega) (hfF 15 (by decide)).2 rfl rfl (vp_in_nI (n := 15) (N := 16) (by decide) (by decide)) ?_
  obtain ⟨L57, hL57⟩ : ∃ z, z = va_up L55 3 (sd_P (dA 3) 16 (va_up (va_up (va_up (va_up (va_up (va_up (va_up (va_up (va_up (va_up (va_up (va_up (va_up (va_up (va_up (va_up (fun _ => none) 0 (some 5)) 1 (some 6)) 2 (some 7)) 3 (some 8)) 4 (some 9)) 5 (some 10)) 6 (some 11)) 7 (some 12)) 8 (some 13)) 9 (some 14)) 10 (some 15)) 11 (some 16)) 12 (some 17)) 13 (some 18)) 14 (some 19)) 15 (some 20))) := ⟨_, rfl⟩
  show sdW l (sdE0 sc) Y_C_init D (sd_tys dA) b _ _ (va_up L55 3 (sd_P (dA 3) 16 (va_up (va_up (va_up (va_up (va_up (va_up (va_up (va_up (va_up (va_up (va_up (va_up (va_up (va_up (va_up (va_up (fun _ => none) 0 (some 5)) 1 (some 6)) 2 (some 7)) 3 (some 8)) 4 (some 9)) 5 (some 10)) 6 (some 11)) 7 (some 12)) 8 (some 13)) 9 (some 14)) 10 (some 15)) 11 (some 16)) 12 (some 17)) 13 (some 18)) 14 (some 19)) 15 (some 20)))) ad _ _ _ _ _ _ _ _ _
  rw [← hL57]
  have hn57 : ∀ k, k ≠ 3 → L57 k = L55 k := fun k h => by rw [hL57]; exact va_up_ne _ _ h
  have hy57 : L57 3 = (sd_P (dA 3) 16 (va_up (va_up (va_up (va_up (va_up (va_up (va_up (va_up (va_up (va_up (va_up (va_up (va_up (va_up (va_up (va_up (fun _ => none) 0 (some 5)) 1 (some 6)) 2 (some 7)) 3 (some 8)) 4 (some 9)) 5 (some 10)) 6 (some 11)) 7 (some 12)) 8 (some 13)) 9 (some 14)) 10 (some 15)) 11 (some 16)) 12 (some 17)) 13 (some 18)) 14 (some 19)) 15 (some 20))) := by rw [hL57]; exact va_up_self _ _ _
  have hl57 : sd_loc 21 L57 := by rw [hL57]; exact sd_loc_at hl55 (sd_P_loc (sd_Pl_up (sd_Pl_up (sd_Pl_up (sd_Pl_up (sd_Pl_up (sd_Pl_up (sd_Pl_up (sd_Pl_up (sd_Pl_up (sd_Pl_up (sd_Pl_up (sd_Pl_up (sd_Pl_up (sd_Pl_up (sd_Pl_up (sd_Pl_up sd_Pl_none (by omega)) (by omega)) (by omega)) (by omega)) (by omega)) (by omega)) (by omega)) (by omega)) (by omega)) (by omega)) (by omega)) (by omega)) (by omega)) (by omega)) (by omega)) (by omega)))
  clear hL57
  replace hlo : L57 1 = sd_O 1 [none, none, some (some 2), some (some 3), none, some (some 4)] := (hn57 1 (by omega)).trans hlo
  replace hy3 : L57 2 = (sd_I (dA 0) 4) := (hn57 2 (by omega)).trans hy3
  replace hy8 : L57 4 = (sd_P (dA 4) 4 (fun _ => none)) := (hn57 4 (by omega)).trans hy8
  replace hfF : ∀ j, j < 16 → isF 21 L57 (5 + j) := fun j hj => ⟨Nat.lt_of_lt_of_le (hfF j hj).1 (by omega), (hn57 _ (by omega)).trans (hfF j hj).2⟩
  refine x_iinc 1 0 [(1, .int 16), (0, .ref 1)] d_C_init_64 rfl (by decide) (by decide) rfl ?_
  refine x_goto 45 d_C_init_67 rfl ?_
  refine x_iload_n 1 0 d_C_init_45 rfl rfl ?_
  refine x_bipush (v := 16) d_C_init_46 (by decide) ?_
  refine x_icmp_ge 70 d_C_init_48 rfl (fun _ => ?_) (fun hc => absurd (by decide) hc)
  refine x_iconst (v := 0) d_C_init_70 (by decide) ?_
  refine x_istore_n 1 [(1, .int 0), (0, .ref 1)] d_C_init_71 rfl (by decide) rfl ?_
  refine x_iload_n 1 0 d_C_init_72 rfl rfl ?_
  refine x_iconst (v := 4) d_C_init_73 (by decide) ?_
  refine x_icmp_ge 96 d_C_init_74 rfl (fun hc => absurd hc (by decide)) (fun _ => ?_)
  refine x_aload_n 0 1 d_C_init_77 rfl rfl ?_
  refine x_getr 5 4 d_C_init_78 (by omega) hlo rfl rfl (by decide) lay_C (List.mem_cons_of_mem _ q92) rfl ?_
  refine x_iload_n 1 0 d_C_init_81 rfl rfl ?_
  refine x_new (rc := 3) (rs := 15) (n := 21) [none, none, none, none, none] hA55 hl57 (List.forall_mem_cons.mpr ⟨sd_bel_i, List.forall_mem_cons.mpr ⟨(sd_bel_r (by omega)), fun _ h => absurd h List.not_mem_nil⟩⟩) (List.forall_mem_cons.mpr ⟨sd_bel_i, List.forall_mem_cons.mpr ⟨(sd_bel_r (by omega)), fun _ h => absurd h List.not_mem_nil⟩⟩) d_C_init_82 (ci := 6) (N := 5) (C := "SettingsDesk$Rule") (T := T_R) rfl ty_R ty_R_ok lay_R (List.mem_cons_of_mem _ q609) (List.mem_cons_of_mem _ q613) (List.mem_cons_of_mem _ q614) (sd_nr rfl) (by decide +kernel) rfl rfl (fun ad58 L58 M58 hA58 hl58 hu58 hy58 hq58 e58 => ?_)
  replace hw := hw M58 e58
  clear e58
  replace hlo : L58 1 = sd_O 1 [none, none, some (some 2), some (some 3), none, some (some 4)] := (hu58.2 1 (by omega)).trans hlo
  replace hy3 : L58 2 = (sd_I (dA 0) 4) := (hu58.2 2 (by omega)).trans hy3
  replace hy8 : L58 4 = (sd_P (dA 4) 4 (fun _ => none)) := (hu58.2 4 (by omega)).trans hy8
  replace hfF : ∀ j, j < 16 → isF 22 L58 (5 + j) := fun j hj => ⟨Nat.lt_of_lt_of_le (hfF j hj).1 (by omega), (hu58.2 _ (by omega)).trans (hfF j hj).2⟩
  replace hy57 : L58 3 = (sd_P (dA 3) 16 (va_up (va_up (va_up (va_up (va_up (va_up (va_up (va_up (va_up (va_up (va_up (va_up (va_up (va_up (va_up (va_up (fun _ => none) 0 (some 5)) 1 (some 6)) 2 (some 7)) 3 (some 8)) 4 (some 9)) 5 (some 10)) 6 (some 11)) 7 (some 12)) 8 (some 13)) 9 (some 14)) 10 (some 15)) 11 (some 16)) 12 (some 17)) 13 (some 18)) 14 (some 19)) 15 (some 20))) := (hu58.2 3 (by omega)).trans hy57
  refine x_dup d_C_init_85 rfl ?_
  refine x_callIv (As := []) (t := 21) (rest := [.ref 21, .int 0, .ref 4]) (rc := 3) (rs := 15) (L2 := L58) (na := 0) (host := "SettingsDesk") (c_R_init hA58 hT ⟨by omega, hy58⟩ hw) (sd_goodB q615) ⟨_, rfl⟩ (List.mem_cons_of_mem _ q614) (List.mem_cons_of_mem _ q616) (Or.inr (List.mem_of_getElem? (i := 3) rfl)) ⟨rfl, by decide, by decide, by decide +kernel⟩ ⟨rfl, rfl, rfl, rfl⟩ ⟨by decide, by decide⟩ d_C_init_86 rfl rfl (Nat.le_of_ble_eq_true rfl) (fun M59 hw => ?_)
  have hfR : ∀ j, j < 1 → isR 22 L58 (21 + j) := fun j hj => by
    have h9 : j = 0 := by omega
    subst h9; exact ⟨by omega, hy58⟩
  refine x_aast (t0 := 4) (u := 21) hA58 d_C_init_89 (by omega) hy8 (by omega) (hfR 0 (by decide)).2 rfl rfl (vp_in_nI (n := 0) (N := 4) (by decide) (by decide)) ?_
  obtain ⟨L60, hL60⟩ : ∃ z, z = va_up L58 4 (sd_P (dA 4) 4 (va_up (fun _ => none) 0 (some 21))) := ⟨_, rfl⟩
  show sdW l (sdE0 sc) Y_C_init D (sd_tys dA) b _ _ (va_up L58 4 (sd_P (dA 4) 4 (va_up (fun _ => none) 0 (some 21)))) ad _ _ _ _ _ _ _ _ _
  rw [← hL60]
  have hn60 : ∀ k, k ≠ 4 → L60 k = L58 k := fun k h => by rw [hL60]; exact va_up_ne _ _ h
  have hy60 : L60 4 = (sd_P (dA 4) 4 (va_up (fun _ => none) 0 (some 21))) := by rw [hL60]; exact va_up_self _ _ _
  have hl60 : sd_loc 22 L60 := by rw [hL60]; exact sd_loc_at hl58 (sd_P_loc (sd_Pl_up sd_Pl_none (by omega)))
  clear hL60
  replace hlo : L60 1 = sd_O 1 [none, none, some (some 2), some (some 3), none, some (some 4)] := (hn60 1 (by omega)).trans hlo
  replace hy3 : L60 2 = (sd_I (dA 0) 4) := (hn60 2 (by omega)).trans hy3
  replace hfF : ∀ j, j < 16 → isF 22 L60 (5 + j) := fun j hj => ⟨Nat.lt_of_lt_of_le (hfF j hj).1 (by omega), (hn60 _ (by omega)).trans (hfF j hj).2⟩
  replace hy57 : L60 3 = (sd_P (dA 3) 16 (va_up (va_up (va_up (va_up (va_up (va_up (va_up (va_up (va_up (va_up (va_up (va_up (va_up (va_up (va_up (va_up (fun _ => none) 0 (some 5)) 1 (some 6)) 2 (some 7)) 3 (some 8)) 4 (some 9)) 5 (some 10)) 6 (some 11)) 7 (some 12)) 8 (some 13)) 9 (some 14)) 10 (some 15)) 11 (some 16)) 12 (some 17)) 13 (some 18)) 14 (some 19)) 15 (some 20))) := (hn60 3 (by omega)).trans hy57
  replace hfR : ∀ j, j < 1 → isR 22 L60 (21 + j) := fun j hj => ⟨Nat.lt_of_lt_of_le (hfR j hj).1 (by omega), (hn60 _ (by omega)).trans (hfR j hj).2⟩
  refine x_iinc 1 0 [(1, .int 1), (0, .ref 1)] d_C_init_90 rfl (by decide) (by decide) rfl ?_
  refine x_goto 72 d_C_init_93 rfl ?_
  refine x_iload_n 1 0 d_C_init_72 rfl rfl ?_
  refine x_iconst (v := 4) d_C_init_73 (by decide) ?_
  refine x_icmp_ge 96 d_C_init_74 rfl (fun hc => absurd hc (by decide)) (fun _ => ?_)
  refine x_aload_n 0 1 d_C_init_77 rfl rfl ?_
  refine x_getr 5 4 d_C_init_78 (by omega) hlo rfl rfl (by decide) lay_C (List.mem_cons_of_mem _ q92) rfl ?_
  refine x_iload_n 1 0 d_C_init_81 rfl rfl ?_
  refine x_new (rc := 2) (rs := 10) (n := 22) [none, none, none, none, none] hA58 hl60 (List.forall_mem_cons.mpr ⟨sd_bel_i, List.forall_mem_cons.mpr ⟨(sd_bel_r (by omega)), fun _ h => absurd h List.not_mem_nil⟩⟩) (List.forall_mem_cons.mpr ⟨sd_bel_i, List.forall_mem_cons.mpr ⟨(sd_bel_r (by omega)), fun _ h => absurd h List.not_mem_nil⟩⟩) d_C_init_82 (ci := 6) (N := 5) (C := "SettingsDesk$Rule") (T := T_R) rfl ty_R ty_R_ok lay_R (List.mem_cons_of_mem _ q609) (List.mem_cons_of_mem _ q613) (List.mem_cons_of_mem _ q614) (sd_nr rfl) (by decide +kernel) rfl rfl (fun ad61 L61 M61 hA61 hl61 hu61 hy61 hq61 e61 => ?_)
  replace hw := hw M61 e61
  clear e61
  replace hlo : L61 1 = sd_O 1 [none, none, some (some 2), some (some 3), none, some (some 4)] := (hu61.2 1 (by omega)).trans hlo
  replace hy3 : L61 2 = (sd_I (dA 0) 4) := (hu61.2 2 (by omega)).trans hy3
  replace hfF : ∀ j, j < 16 → isF 23 L61 (5 + j) := fun j hj => ⟨Nat.lt_of_lt_of_le (hfF j hj).1 (by omega), (hu61.2 _ (by omega)).trans (hfF j hj).2⟩
  replace hy57 : L61 3 = (sd_P (dA 3) 16 (va_up (va_up (va_up (va_up (va_up (va_up (va_up (va_up (va_up (va_up (va_up (va_up (va_up (va_up (va_up (va_up (fun _ => none) 0 (some 5)) 1 (some 6)) 2 (some 7)) 3 (some 8)) 4 (some 9)) 5 (some 10)) 6 (some 11)) 7 (some 12)) 8 (some 13)) 9 (some 14)) 10 (some 15)) 11 (some 16)) 12 (some 17)) 13 (some 18)) 14 (some 19)) 15 (some 20))) := (hu61.2 3 (by omega)).trans hy57
  replace hfR : ∀ j, j < 1 → isR 23 L61 (21 + j) := fun j hj => ⟨Nat.lt_of_lt_of_le (hfR j hj).1 (by omega), (hu61.2 _ (by omega)).trans (hfR j hj).2⟩
  replace hy60 : L61 4 = (sd_P (dA 4) 4 (va_up (fun _ => none) 0 (some 21))) := (hu61.2 4 (by omega)).trans hy60
  refine x_dup d_C_init_85 rfl ?_
  refine x_callIv (As := []) (t := 22) (rest := [.ref 22, .int 1, .ref 4]) (rc := 2) (rs := 10) (L2 := L61) (na := 0) (host := "SettingsDesk") (c_R_init hA61 hT ⟨by omega, hy61⟩ hw) (sd_goodB q615) ⟨_, rfl⟩ (List.mem_cons_of_mem _ q614) (List.mem_cons_of_mem _ q616) (Or.inr (List.mem_of_getElem? (i := 3) rfl)) ⟨rfl, by decide, by decide, by decide +kernel⟩ ⟨rfl, rfl, rfl, rfl⟩ ⟨by decide, by decide⟩ d_C_init_86 rfl rfl (Nat.le_of_ble_eq_true rfl) (fun M62 hw => ?_)
  replace hfR : ∀ j, j < 2 → isR 23 L61 (21 + j) := fun j hj => by
    by_cases h9 : j = 1
    · subst h9; exact ⟨by omega, hy61⟩
    · exact hfR j (by omega)
  refine x_aast (t0 := 4) (u := 22) hA61 d_C_init_89 (by omega) hy60 (by omega) (hfR 1 (by decide)).2 rfl rfl (vp_in_nI (n := 1) (N := 4) (by decide) (by decide)) ?_
  obtain ⟨L63, hL63⟩ : ∃ z, z = va_up L61 4 (sd_P (dA 4) 4 (va_up (va_up (fun _ => none) 0 (some 21)) 1 (some 22))) := ⟨_, rfl⟩
  show sdW l (sdE0 sc) Y_C_init D (sd_tys dA) b _ _ (va_up L61 4 (sd_P (dA 4) 4 (va_up (va_up (fun _ => none) 0 (some 21)) 1 (some 22)))) ad _ _ _ _ _ _ _ _ _
  rw [← hL63]
  have hn63 : ∀ k, k ≠ 4 → L63 k = L61 k := fun k h => by rw [hL63]; exact va_up_ne _ _ h
  have hy63 : L63 4 = (sd_P (dA 4) 4 (va_up (va_up (fun _ => none) 0 (some 21)) 1 (some 22))) := by rw [hL63]; exact va_up_self _ _ _
  have hl63 : sd_loc 23 L63 := by rw [hL63]; exact sd_loc_at hl61 (sd_P_loc (sd_Pl_up (sd_Pl_up sd_Pl_none (by omega)) (by omega)))
  clear hL63
  replace hlo : L63 1 = sd_O 1 [none, none, some (some 2), some (some 3), none, some (some 4)] := (hn63 1 (by omega)).trans hlo
  replace hy3 : L63 2 = (sd_I (dA 0) 4) := (hn63 2 (by omega)).trans hy3
  replace hfF : ∀ j, j < 16 → isF 23 L63 (5 + j) := fun j hj => ⟨Nat.lt_of_lt_of_le (hfF j hj).1 (by omega), (hn63 _ (by omega)).trans (hfF j hj).2⟩
  replace hy57 : L63 3 = (sd_P (dA 3) 16 (va_up (va_up (va_up (va_up (va_up (va_up (va_up (va_up (va_up (va_up (va_up (va_up (va_up (va_up (va_up (va_up (fun _ => none) 0 (some 5)) 1 (some 6)) 2 (some 7)) 3 (some 8)) 4 (some 9)) 5 (some 10)) 6 (some 11)) 7 (some 12)) 8 (some 13)) 9 (some 14)) 10 (some 15)) 11 (some 16)) 12 (some 17)) 13 (some 18)) 14 (some 19)) 15 (some 20))) := (hn63 3 (by omega)).trans hy57
  replace hfR : ∀ j, j < 2 → isR 23 L63 (21 + j) := fun j hj => ⟨Nat.lt_of_lt_of_le (hfR j hj).1 (by omega), (hn63 _ (by omega)).trans (hfR j hj).2⟩
  refine x_iinc 1 0 [(1, .int 2), (0, .ref 1)] d_C_init_90 rfl (by decide) (by decide) rfl ?_
  refine x_goto 72 d_C_init_93 rfl ?_
  refine x_iload_n 1 0 d_C_init_72 rfl rfl ?_
  refine x_iconst (v := 4) d_C_init_73 (by decide) ?_
  refine x_icmp_ge 96 d_C_init_74 rfl (fun hc => absurd hc (by decide)) (fun _ => ?_)
  refine x_aload_n 0 1 d_C_init_77 rfl rfl ?_
  refine x_getr 5 4 d_C_init_78 (by omega) hlo rfl rfl (by decide) lay_C (List.mem_cons_of_mem _ q92) rfl ?_
  refine x_iload_n 1 0 d_C_init_81 rfl rfl ?_
  refine x_new (rc := 1) (rs := 5) (n := 23) [none, none, none, none, none] hA61 hl63 (List.forall_mem_cons.mpr ⟨sd_bel_i, List.forall_mem_cons.mpr ⟨(sd_bel_r (by omega)), fun _ h => absurd h List.not_mem_nil⟩⟩) (List.forall_mem_cons.mpr ⟨sd_bel_i, List.forall_mem_cons.mpr ⟨(sd_bel_r (by omega)), fun _ h => absurd h List.not_mem_nil⟩⟩) d_C_init_82 (ci := 6) (N := 5) (C := "SettingsDesk$Rule") (T := T_R) rfl ty_R ty_R_ok lay_R (List.mem_cons_of_mem _ q609) (List.mem_cons_of_mem _ q613) (List.mem_cons_of_mem _ q614) (sd_nr rfl) (by decide +kernel) rfl rfl (fun ad64 L64 M64 hA64 hl64 hu64 hy64 hq64 e64 => ?_)
  replace hw := hw M64 e64
  clear e64
  replace hlo : L64 1 = sd_O 1 [none, none, some (some 2), some (some 3), none, some (some 4)] := (hu64.2 1 (by omega)).trans hlo
  replace hy3 : L64 2 = (sd_I (dA 0) 4) := (hu64.2 2 (by omega)).trans hy3
  replace hfF : ∀ j, j < 16 → isF 24 L64 (5 + j) := fun j hj => ⟨Nat.lt_of_lt_of_le (hfF j hj).1 (by omega), (hu64.2 _ (by omega)).trans (hfF j hj).2⟩
  replace hy57 : L64 3 = (sd_P (dA 3) 16 (va_up (va_up (va_up (va_up (va_up (va_up (va_up (va_up (va_up (va_up (va_up (va_up (va_up (va_up (va_up (va_up (fun _ => none) 0 (some 5)) 1 (some 6)) 2 (some 7)) 3 (some 8)) 4 (some 9)) 5 (some 10)) 6 (some 11)) 7 (some 12)) 8 (some 13)) 9 (some 14)) 10 (some 15)) 11 (some 16)) 12 (some 17)) 13 (some 18)) 14 (some 19)) 15 (some 20))) := (hu64.2 3 (by omega)).trans hy57
  replace hfR : ∀ j, j < 2 → isR 24 L64 (21 + j) := fun j hj => ⟨Nat.lt_of_lt_of_le (hfR j hj).1 (by omega), (hu64.2 _ (by omega)).trans (hfR j hj).2⟩
  replace hy63 : L64 4 = (sd_P (dA 4) 4 (va_up (va_up (fun _ => none) 0 (some 21)) 1 (some 22))) := (hu64.2 4 (by omega)).trans hy63
  refine x_dup d_C_init_85 rfl ?_
  refine x_callIv (As := []) (t := 23) (rest := [.ref 23, .int 2, .ref 4]) (rc := 1) (rs := 5) (L2 := L64) (na := 0) (host := "SettingsDesk") (c_R_init hA64 hT ⟨by omega, hy64⟩ hw) (sd_goodB q615) ⟨_, rfl⟩ (List.mem_cons_of_mem _ q614) (List.mem_cons_of_mem _ q616) (Or.inr (List.mem_of_getElem? (i := 3) rfl)) ⟨rfl, by decide, by decide, by decide +kernel⟩ ⟨rfl, rfl, rfl, rfl⟩ ⟨by decide, by decide⟩ d_C_init_86 rfl rfl (Nat.le_of_ble_eq_true rfl) (fun M65 hw => ?_)
  replace hfR : ∀ j, j < 3 → isR 24 L64 (21 + j) := fun j hj => by
    by_cases h9 : j = 2
    · subst h9; exact ⟨by omega, hy64⟩
    · exact hfR j (by omega)
  refine x_aast (t0 := 4) (u := 23) hA64 d_C_init_89 (by omega) hy63 (by omega) (hfR 2 (by decide)).2 rfl rfl (vp_in_nI (n := 2) (N := 4) (by decide) (by decide)) ?_
  obtain ⟨L66, hL66⟩ : ∃ z, z = va_up L64 4 (sd_P (dA 4) 4 (va_up (va_up (va_up (fun _ => none) 0 (some 21)) 1 (some 22)) 2 (some 23))) := ⟨_, rfl⟩
  show sdW l (sdE0 sc) Y_C_init D (sd_tys dA) b _ _ (va_up L64 4 (sd_P (dA 4) 4 (va_up (va_up (va_up (fun _ => none) 0 (some 21)) 1 (some 22)) 2 (some 23)))) ad _ _ _ _ _ _ _ _ _
  rw [← hL66]
  have hn66 : ∀ k, k ≠ 4 → L66 k = L64 k := fun k h => by rw [hL66]; exact va_up_ne _ _ h
  have hy66 : L66 4 = (sd_P (dA 4) 4 (va_up (va_up (va_up (fun _ => none) 0 (some 21)) 1 (some 22)) 2 (some 23))) := by rw [hL66]; exact va_up_self _ _ _
  have hl66 : sd_loc 24 L66 := by rw [hL66]; exact sd_loc_at hl64 (sd_P_loc (sd_Pl_up (sd_Pl_up (sd_Pl_up sd_Pl_none (by omega)) (by omega)) (by omega)))
  clear hL66
  replace hlo : L66 1 = sd_O 1 [none, none, some (some 2), some (some 3), none, some (some 4)] := (hn66 1 (by omega)).trans hlo
  replace hy3 : L66 2 = (sd_I (dA 0) 4) := (hn66 2 (by omega)).trans hy3
  replace hfF : ∀ j, j < 16 → isF 24 L66 (5 + j) := fun j hj => ⟨Nat.lt_of_lt_of_le (hfF j hj).1 (by omega), (hn66 _ (by omega)).trans (hfF j hj).2⟩
  replace hy57 : L66 3 = (sd_P (dA 3) 16 (va_up (va_up (va_up (va_up (va_up (va_up (va_up (va_up (va_up (va_up (va_up (va_up (va_up (va_up (va_up (va_up (fun _ => none) 0 (some 5)) 1 (some 6)) 2 (some 7)) 3 (some 8)) 4 (some 9)) 5 (some 10)) 6 (some 11)) 7 (some 12)) 8 (some 13)) 9 (some 14)) 10 (some 15)) 11 (some 16)) 12 (some 17)) 13 (some 18)) 14 (some 19)) 15 (some 20))) := (hn66 3 (by omega)).trans hy57
  replace hfR : ∀ j, j < 3 → isR 24 L66 (21 + j) := fun j hj => ⟨Nat.lt_of_lt_of_le (hfR j hj).1 (by omega), (hn66 _ (by omega)).trans (hfR j hj).2⟩
  refine x_iinc 1 0 [(1, .int 3), (0, .ref 1)] d_C_init_90 rfl (by decide) (by decide) rfl ?_
  refine x_goto 72 d_C_init_93 rfl ?_
  refine x_iload_n 1 0 d_C_init_72 rfl rfl ?_
  refine x_iconst (v := 4) d_C_init_73 (by decide) ?_
  refine x_icmp_ge 96 d_C_init_74 rfl (fun hc => absurd hc (by decide)) (fun _ => ?_)
  refine x_aload_n 0 1 d_C_init_77 rfl rfl ?_
  refine x_getr 5 4 d_C_init_78 (by omega) hlo rfl rfl (by decide) lay_C (List.mem_cons_of_mem _ q92) rfl ?_
  refine x_iload_n 1 0 d_C_init_81 rfl rfl ?_
  refine x_new (rc := 0) (rs := 0) (n := 24) [none, none, none, none, none] hA64 hl66 (List.forall_mem_cons.mpr ⟨sd_bel_i, List.forall_mem_cons.mpr ⟨(sd_bel_r (by omega)), fun _ h => absurd h List.not_mem_nil⟩⟩) (List.forall_mem_cons.mpr ⟨sd_bel_i, List.forall_mem_cons.mpr ⟨(sd_bel_r (by omega)), fun _ h => absurd h List.not_mem_nil⟩⟩) d_C_init_82 (ci := 6) (N := 5) (C := "SettingsDesk$Rule") (T := T_R) rfl ty_R ty_R_ok lay_R (List.mem_cons_of_mem _ q609) (List.mem_cons_of_mem _ q613) (List.mem_cons_of_mem _ q614) (sd_nr rfl) (by decide +kernel) rfl rfl (fun ad67 L67 M67 hA67 hl67 hu67 hy67 hq67 e67 => ?_)
  replace hw := hw M67 e67
  clear e67
  replace hlo : L67 1 = sd_O 1 [none, none, some (some 2), some (some 3), none, some (some 4)] := (hu67.2 1 (by omega)).trans hlo
  replace hy3 : L67 2 = (sd_I (dA 0) 4) := (hu67.2 2 (by omega)).trans hy3
  replace hfF : ∀ j, j < 16 → isF 25 L67 (5 + j) := fun j hj => ⟨Nat.lt_of_lt_of_le (hfF j hj).1 (by omega), (hu67.2 _ (by omega)).trans (hfF j hj).2⟩
  replace hy57 : L67 3 = (sd_P (dA 3) 16 (va_up (va_up (va_up (va_up (va_up (va_up (va_up (va_up (va_up (va_up (va_up (va_up (va_up (va_up (va_up (va_up (fun _ => none) 0 (some 5)) 1 (some 6)) 2 (some 7)) 3 (some 8)) 4 (some 9)) 5 (some 10)) 6 (some 11)) 7 (some 12)) 8 (some 13)) 9 (some 14)) 10 (some 15)) 11 (some 16)) 12 (some 17)) 13 (some 18)) 14 (some 19)) 15 (some 20))) := (hu67.2 3 (by omega)).trans hy57
  replace hfR : ∀ j, j < 3 → isR 25 L67 (21 + j) := fun j hj => ⟨Nat.lt_of_lt_of_le (hfR j hj).1 (by omega), (hu67.2 _ (by omega)).trans (hfR j hj).2⟩
  replace hy66 : L67 4 = (sd_P (dA 4) 4 (va_up (va_up (va_up (fun _ => none) 0 (some 21)) 1 (some 22)) 2 (some 23))) := (hu67.2 4 (by omega)).trans hy66
  refine x_dup d_C_init_85 rfl ?_
  refine x_callIv (As := []) (t := 24) (rest := [.ref 24, .int 3, .ref 4]) (rc := 0) (rs := 0) (L2 := L67) (na := 0) (host := "SettingsDesk") (c_R_init hA67 hT ⟨by omega, hy67⟩ hw) (sd_goodB q615) ⟨_, rfl⟩ (List.mem_cons_of_mem _ q614) (List.mem_cons_of_mem _ q616) (Or.inr (List.mem_of_getElem? (i := 3) rfl)) ⟨rfl, by decide, by decide, by decide +kernel⟩ ⟨rfl, rfl, rfl, rfl⟩ ⟨by decide, by decide⟩ d_C_init_86 rfl rfl (Nat.le_of_ble_eq_true rfl) (fun M68 hw => ?_)
  replace hfR : ∀ j, j < 4 → isR 25 L67 (21 + j) := fun j hj => by
    by_cases h9 : j = 3
    · subst h9; exact ⟨by omega, hy67⟩
    · exact hfR j (by omega)
  refine x_aast (t0 := 4) (u := 24) hA67 d_C_init_89 (by omega) hy66 (by omega) (hfR 3 (by decide)).2 rfl rfl (vp_in_nI (n := 3) (N := 4) (by decide) (by decide)) ?_
  obtain ⟨L69, hL69⟩ : ∃ z, z = va_up L67 4 (sd_P (dA 4) 4 (va_up (va_up (va_up (va_up (fun _ => none) 0 (some 21)) 1 (some 22)) 2 (some 23)) 3 (some 24))) := ⟨_, rfl⟩
  show sdW l (sdE0 sc) Y_C_init D (sd_tys dA) b _ _ (va_up L67 4 (sd_P (dA 4) 4 (va_up (va_up (va_up (va_up (fun _ => none) 0 (some 21)) 1 (some 22)) 2 (some 23)) 3 (some 24)))) ad _ _ _ _ _ _ _ _ _
  rw [← hL69]
  have hn69 : ∀ k, k ≠ 4 → L69 k = L67 k := fun k h => by rw [hL69]; exact va_up_ne _ _ h
  have hy69 : L69 4 = (sd_P (dA 4) 4 (va_up (va_up (va_up (va_up (fun _ => none) 0 (some 21)) 1 (some 22)) 2 (some 23)) 3 (some 24))) := by rw [hL69]; exact va_up_self _ _ _
  have hl69 : sd_loc 25 L69 := by rw [hL69]; exact sd_loc_at hl67 (sd_P_loc (sd_Pl_up (sd_Pl_up (sd_Pl_up (sd_Pl_up sd_Pl_none (by omega)) (by omega)) (by omega)) (by omega)))
  clear hL69
  replace hlo : L69 1 = sd_O 1 [none, none, some (some 2), some (some 3), none, some (some 4)] := (hn69 1 (by omega)).trans hlo
  replace hy3 : L69 2 = (sd_I (dA 0) 4) := (hn69 2 (by omega)).trans hy3
  replace hfF : ∀ j, j < 16 → isF 25 L69 (5 + j) := fun j hj => ⟨Nat.lt_of_lt_of_le (hfF j hj).1 (by omega), (hn69 _ (by omega)).trans (hfF j hj).2⟩
  replace hy57 : L69 3 = (sd_P (dA 3) 16 (va_up (va_up (va_up (va_up (va_up (va_up (va_up (va_up (va_up (va_up (va_up (va_up (va_up (va_up (va_up (va_up (fun _ => none) 0 (some 5)) 1 (some 6)) 2 (some 7)) 3 (some 8)) 4 (some 9)) 5 (some 10)) 6 (some 11)) 7 (some 12)) 8 (some 13)) 9 (some 14)) 10 (some 15)) 11 (some 16)) 12 (some 17)) 13 (some 18)) 14 (some 19)) 15 (some 20))) := (hn69 3 (by omega)).trans hy57
  replace hfR : ∀ j, j < 4 → isR 25 L69 (21 + j) := fun j hj => ⟨Nat.lt_of_lt_of_le (hfR j hj).1 (by omega), (hn69 _ (by omega)).trans (hfR j hj).2⟩
  refine x_iinc 1 0 [(1, .int 4), (0, .ref 1)] d_C_init_90 rfl (by decide) (by decide) rfl ?_
  refine x_goto 72 d_C_init_93 rfl ?_
  refine x_iload_n 1 0 d_C_init_72 rfl rfl ?_
  refine x_iconst (v := 4) d_C_init_73 (by decide) ?_
  refine x_icmp_ge 96 d_C_init_74 rfl (fun _ => ?_) (fun hc => absurd (by decide) hc)
  obtain ⟨L70, hL70⟩ : ∃ z, z = (va_up (va_up L69 3 (sd_Q (dA 3) 16 (fun j => 5 + j))) 4 (sd_Q (dA 4) 4 (fun j => 21 + j))) := ⟨_, rfl⟩
  have hn70 : ∀ k, k ≠ 3 → k ≠ 4 → L70 k = L69 k := fun k h h2 => by rw [hL70, va_up_ne _ _ h2, va_up_ne _ _ h]
  have hz1 : L70 3 = (sd_Q (dA 3) 16 (fun j => 5 + j)) := by rw [hL70, va_up_ne _ _ (by decide), va_up_self]
  have hz2 : L70 4 = (sd_Q (dA 4) 4 (fun j => 21 + j)) := by rw [hL70, va_up_self]
  have hl70 : sd_loc 25 L70 := by rw [hL70]; exact sd_loc_at (sd_loc_at hl69 (sd_Q_loc (fun j hj => by omega))) (sd_Q_loc (fun j hj => by omega))
  have hH70 : ∀ (M : sdM) (H : Heap), sd_H D (sdE0 sc).1 25 ad67 L69 M H → sd_H D (sdE0 sc).1 25 ad67 L70 M H := fun M H h => by
    rw [hL70]
    refine sd_H_at (sd_H_at h (fun _ hv => ?_)) (fun _ hv => ?_)
    · rw [hy57] at hv; exact sd_full (by decide) hv
    · rw [va_up_ne _ _ (by decide), hy69] at hv; exact sd_full (by decide) hv
  clear hL70
  replace hlo : L70 1 = sd_O 1 [none, none, some (some 2), some (some 3), none, some (some 4)] := (hn70 1 (by omega) (by omega)).trans hlo
  replace hy3 : L70 2 = (sd_I (dA 0) 4) := (hn70 2 (by omega) (by omega)).trans hy3
  replace hfF : ∀ j, j < 16 → isF 25 L70 (5 + j) := fun j hj => ⟨Nat.lt_of_lt_of_le (hfF j hj).1 (by omega), (hn70 _ (by omega) (by omega)).trans (hfF j hj).2⟩
  replace hfR : ∀ j, j < 4 → isR 25 L70 (21 + j) := fun j hj => ⟨Nat.lt_of_lt_of_le (hfR j hj).1 (by omega), (hn70 _ (by omega) (by omega)).trans (hfR j hj).2⟩
  exact x_vret d_C_init_96 rfl (fun H h => ⟨ad67, L70, (fun k hk => ((hq67 k (by omega)).trans ((hq64 k (by omega)).trans ((hq61 k (by omega)).trans ((hq58 k (by omega)).trans ((hq55 k (by omega)).trans ((hq52 k (by omega)).trans ((hq49 k (by omega)).trans ((hq46 k (by omega)).trans ((hq43 k (by omega)).trans ((hq40 k (by omega)).trans ((hq37 k (by omega)).trans ((hq34 k (by omega)).trans ((hq31 k (by omega)).trans ((hq28 k (by omega)).trans ((hq25 k (by omega)).trans ((hq22 k (by omega)).trans ((hq19 k (by omega)).trans ((hq16 k (by omega)).trans ((hq13 k (by omega)).trans ((hq10 k (by omega)).trans ((hq8 k (by omega)).trans ((hq5 k (by omega)).trans (hq3 k (by omega))))))))))))))))))))))))), hA67, hl70, (fun k hk => ((hn70 k (by omega) (by omega)).trans ((hn69 k (by omega)).trans ((hu67.2 k (by omega)).trans ((hn66 k (by omega)).trans ((hu64.2 k (by omega)).trans ((hn63 k (by omega)).trans ((hu61.2 k (by omega)).trans ((hn60 k (by omega)).trans ((hu58.2 k (by omega)).trans ((hn57 k (by omega)).trans ((hu55.2 k (by omega)).trans ((hn54 k (by omega)).trans ((hu52.2 k (by omega)).trans ((hn51 k (by omega)).trans ((hu49.2 k (by omega)).trans ((hn48 k (by omega)).trans ((hu46.2 k (by omega)).trans ((hn45 k (by omega)).trans ((hu43.2 k (by omega)).trans ((hn42 k (by omega)).trans ((hu40.2 k (by omega)).trans ((hn39 k (by omega)).trans ((hu37.2 k (by omega)).trans ((hn36 k (by omega)).trans ((hu34.2 k (by omega)).trans ((hn33 k (by omega)).trans ((hu31.2 k (by omega)).trans ((hn30 k (by omega)).trans ((hu28.2 k (by omega)).trans ((hn27 k (by omega)).trans ((hu25.2 k (by omega)).trans ((hn24 k (by omega)).trans ((hu22.2 k (by omega)).trans ((hn21 k (by omega)).trans ((hu19.2 k (by omega)).trans ((hn18 k (by omega)).trans ((hu16.2 k (by omega)).trans ((hn15 k (by omega)).trans ((hu13.2 k (by omega)).trans ((hn12 k (by omega)).trans ((hu10.2 k (by omega)).trans ((hn9 k (by omega)).trans ((hu8.2 k (by omega)).trans ((hn6 k (by omega)).trans ((hu5.2 k (by omega)).trans ((hn4 k (by omega)).trans (hu3.2 k (by omega))))))))))))))))))))))))))))))))))))))))))))))))), ⟨by omega, hlo, ⟨by omega, hy3⟩, ⟨by omega, hz1⟩, ⟨by omega, hz2⟩, hfF, hfR⟩, hH70 _ H h⟩) ⟨rfl, hw⟩
end
theorem q617 : (.methodLink "SettingsDesk" 3 ⟨"java/lang/Object", "<init>", "()V"⟩ : Cond) ∈ sdB0 := sd_tb1 27 rfl rfl
theorem q618 : (.classLink "SettingsDesk" 9 "SettingsDesk$Schema" : Cond) ∈ sdB0 := sd_tb1 30 rfl rfl
theorem q619 : (.instantiable "SettingsDesk$Schema" 6 : Cond) ∈ sdB0 := sd_tb1 31 rfl rfl
theorem q620 : (.code ⟨"SettingsDesk$Schema", "<init>", "()V"⟩ prog_7_method_1_code 2 none : Cond) ∈ sdB0 := sd_tb1 34 rfl rfl
theorem q621 : (.instanceMethod ⟨"SettingsDesk$Schema", "<init>", "()V"⟩ : Cond) ∈ sdB0 := sd_tb1 33 rfl rfl
theorem q622 : (.methodLink "SettingsDesk" 11 ⟨"SettingsDesk$Schema", "<init>", "()V"⟩ : Cond) ∈ sdB0 := sd_tb1 32 rfl rfl
theorem q623 : (.classLink "SettingsDesk" 16 "SettingsDesk$Settings" : Cond) ∈ sdB0 := sd_tb1 131 rfl rfl
theorem q624 : (.methodLink "SettingsDesk" 18 ⟨"SettingsDesk$Settings", "<init>", "()V"⟩ : Cond) ∈ sdB0 := sd_tb1 133 rfl rfl
theorem q625 : (.classLink "SettingsDesk" 33 "SettingsDesk$Session" : Cond) ∈ sdB0 := sd_tb1 154 rfl rfl
theorem q626 : (.instantiable "SettingsDesk$Session" 3 : Cond) ∈ sdB0 := sd_tb1 179 rfl rfl
theorem q627 : (.code ⟨"SettingsDesk$Session", "<init>", "()V"⟩ prog_8_method_1_code 1 none : Cond) ∈ sdB0 := sd_tb1 182 rfl rfl
theorem q628 : (.instanceMethod ⟨"SettingsDesk$Session", "<init>", "()V"⟩ : Cond) ∈ sdB0 := sd_tb1 181 rfl rfl
abbrev y_D_init : MethodName := ⟨"SettingsDesk", "<init>", "()V"⟩
theorem d_D_init_0 : decode prog_1_method_1_code 0 = .ok (.aload_n 0, 1) := by decide +kernel
theorem d_D_init_1 : decode prog_1_method_1_code 1 = .ok (.invokespecial 3, 3) := by decide +kernel
theorem d_D_init_4 : decode prog_1_method_1_code 4 = .ok (.aload_n 0, 1) := by decide +kernel
theorem d_D_init_5 : decode prog_1_method_1_code 5 = .ok (.new 9, 3) := by decide +kernel
theorem d_D_init_8 : decode prog_1_method_1_code 8 = .ok (.dup, 1) := by decide +kernel
theorem d_D_init_9 : decode prog_1_method_1_code 9 = .ok (.invokespecial 11, 3) := by decide +kernel
theorem d_D_init_12 : decode prog_1_method_1_code 12 = .ok (.putfield 12, 3) := by decide +kernel
theorem d_D_init_15 : decode prog_1_method_1_code 15 = .ok (.aload_n 0, 1) := by decide +kernel
theorem d_D_init_16 : decode prog_1_method_1_code 16 = .ok (.new 16, 3) := by decide +kernel
theorem d_D_init_19 : decode prog_1_method_1_code 19 = .ok (.dup, 1) := by decide +kernel
theorem d_D_init_20 : decode prog_1_method_1_code 20 = .ok (.invokespecial 18, 3) := by decide +kernel
theorem d_D_init_23 : decode prog_1_method_1_code 23 = .ok (.putfield 19, 3) := by decide +kernel
theorem d_D_init_26 : decode prog_1_method_1_code 26 = .ok (.aload_n 0, 1) := by decide +kernel
theorem d_D_init_27 : decode prog_1_method_1_code 27 = .ok (.new 16, 3) := by decide +kernel
theorem d_D_init_30 : decode prog_1_method_1_code 30 = .ok (.dup, 1) := by decide +kernel
theorem d_D_init_31 : decode prog_1_method_1_code 31 = .ok (.invokespecial 18, 3) := by decide +kernel
theorem d_D_init_34 : decode prog_1_method_1_code 34 = .ok (.putfield 23, 3) := by decide +kernel
theorem d_D_init_37 : decode prog_1_method_1_code 37 = .ok (.aload_n 0, 1) := by decide +kernel
theorem d_D_init_38 : decode prog_1_method_1_code 38 = .ok (.new 16, 3) := by decide +kernel
theorem d_D_init_41 : decode prog_1_method_1_code 41 = .ok (.dup, 1) := by decide +kernel
theorem d_D_init_42 : decode prog_1_method_1_code 42 = .ok (.invokespecial 18, 3) := by decide +kernel
theorem d_D_init_45 : decode prog_1_method_1_code 45 = .ok (.putfield 26, 3) := by decide +kernel
theorem d_D_init_48 : decode prog_1_method_1_code 48 = .ok (.aload_n 0, 1) := by decide +kernel
theorem d_D_init_49 : decode prog_1_method_1_code 49 = .ok (.bipush (8), 2) := by decide +kernel
theorem d_D_init_51 : decode prog_1_method_1_code 51 = .ok (.anewarray 16, 3) := by decide +kernel
theorem d_D_init_54 : decode prog_1_method_1_code 54 = .ok (.putfield 29, 3) := by decide +kernel
theorem d_D_init_57 : decode prog_1_method_1_code 57 = .ok (.aload_n 0, 1) := by decide +kernel
theorem d_D_init_58 : decode prog_1_method_1_code 58 = .ok (.iconst 3, 1) := by decide +kernel
theorem d_D_init_59 : decode prog_1_method_1_code 59 = .ok (.anewarray 33, 3) := by decide +kernel
theorem d_D_init_62 : decode prog_1_method_1_code 62 = .ok (.putfield 35, 3) := by decide +kernel
theorem d_D_init_65 : decode prog_1_method_1_code 65 = .ok (.aload_n 0, 1) := by decide +kernel
theorem d_D_init_66 : decode prog_1_method_1_code 66 = .ok (.new 39, 3) := by decide +kernel
theorem d_D_init_69 : decode prog_1_method_1_code 69 = .ok (.dup, 1) := by decide +kernel
theorem d_D_init_70 : decode prog_1_method_1_code 70 = .ok (.invokespecial 41, 3) := by decide +kernel
theorem d_D_init_73 : decode prog_1_method_1_code 73 = .ok (.putfield 42, 3) := by decide +kernel
theorem d_D_init_76 : decode prog_1_method_1_code 76 = .ok (.aload_n 0, 1) := by decide +kernel
theorem d_D_init_77 : decode prog_1_method_1_code 77 = .ok (.iconst 0, 1) := by decide +kernel
theorem d_D_init_78 : decode prog_1_method_1_code 78 = .ok (.putfield 46, 3) := by decide +kernel
theorem d_D_init_81 : decode prog_1_method_1_code 81 = .ok (.aload_n 0, 1) := by decide +kernel
theorem d_D_init_82 : decode prog_1_method_1_code 82 = .ok (.iconst 0, 1) := by decide +kernel
theorem d_D_init_83 : decode prog_1_method_1_code 83 = .ok (.putfield 50, 3) := by decide +kernel
theorem d_D_init_86 : decode prog_1_method_1_code 86 = .ok (.aload_n 0, 1) := by decide +kernel
theorem d_D_init_87 : decode prog_1_method_1_code 87 = .ok (.iconst (-1), 1) := by decide +kernel
theorem d_D_init_88 : decode prog_1_method_1_code 88 = .ok (.putfield 53, 3) := by decide +kernel
theorem d_D_init_91 : decode prog_1_method_1_code 91 = .ok (.aload_n 0, 1) := by decide +kernel
theorem d_D_init_92 : decode prog_1_method_1_code 92 = .ok (.iconst 0, 1) := by decide +kernel
theorem d_D_init_93 : decode prog_1_method_1_code 93 = .ok (.putfield 56, 3) := by decide +kernel
theorem d_D_init_96 : decode prog_1_method_1_code 96 = .ok (.aload_n 0, 1) := by decide +kernel
theorem d_D_init_97 : decode prog_1_method_1_code 97 = .ok (.iconst (-1), 1) := by decide +kernel
theorem d_D_init_98 : decode prog_1_method_1_code 98 = .ok (.putfield 60, 3) := by decide +kernel
theorem d_D_init_101 : decode prog_1_method_1_code 101 = .ok (.iconst 0, 1) := by decide +kernel
theorem d_D_init_102 : decode prog_1_method_1_code 102 = .ok (.istore_n 1, 1) := by decide +kernel
theorem d_D_init_103 : decode prog_1_method_1_code 103 = .ok (.iload_n 1, 1) := by decide +kernel
theorem d_D_init_104 : decode prog_1_method_1_code 104 = .ok (.bipush (8), 2) := by decide +kernel
theorem d_D_init_106 : decode prog_1_method_1_code 106 = .ok (.if_icmp .ge (22), 3) := by decide +kernel
theorem d_D_init_109 : decode prog_1_method_1_code 109 = .ok (.aload_n 0, 1) := by decide +kernel
theorem d_D_init_110 : decode prog_1_method_1_code 110 = .ok (.getfield 29, 3) := by decide +kernel
theorem d_D_init_113 : decode prog_1_method_1_code 113 = .ok (.iload_n 1, 1) := by decide +kernel
theorem d_D_init_114 : decode prog_1_method_1_code 114 = .ok (.new 16, 3) := by decide +kernel
theorem d_D_init_117 : decode prog_1_method_1_code 117 = .ok (.dup, 1) := by decide +kernel
theorem d_D_init_118 : decode prog_1_method_1_code 118 = .ok (.invokespecial 18, 3) := by decide +kernel
theorem d_D_init_121 : decode prog_1_method_1_code 121 = .ok (.aastore, 1) := by decide +kernel
theorem d_D_init_122 : decode prog_1_method_1_code 122 = .ok (.iinc 1 (1), 3) := by decide +kernel
theorem d_D_init_125 : decode prog_1_method_1_code 125 = .ok (.goto (-22), 3) := by decide +kernel
theorem d_D_init_128 : decode prog_1_method_1_code 128 = .ok (.iconst 0, 1) := by decide +kernel
theorem d_D_init_129 : decode prog_1_method_1_code 129 = .ok (.istore_n 1, 1) := by decide +kernel
theorem d_D_init_130 : decode prog_1_method_1_code 130 = .ok (.iload_n 1, 1) := by decide +kernel
theorem d_D_init_131 : decode prog_1_method_1_code 131 = .ok (.iconst 3, 1) := by decide +kernel
theorem d_D_init_132 : decode prog_1_method_1_code 132 = .ok (.if_icmp .ge (22), 3) := by decide +kernel
theorem d_D_init_135 : decode prog_1_method_1_code 135 = .ok (.aload_n 0, 1) := by decide +kernel
theorem d_D_init_136 : decode prog_1_method_1_code 136 = .ok (.getfield 35, 3) := by decide +kernel
theorem d_D_init_139 : decode prog_1_method_1_code 139 = .ok (.iload_n 1, 1) := by decide +kernel
theorem d_D_init_140 : decode prog_1_method_1_code 140 = .ok (.new 33, 3) := by decide +kernel
theorem d_D_init_143 : decode prog_1_method_1_code 143 = .ok (.dup, 1) := by decide +kernel
theorem d_D_init_144 : decode prog_1_method_1_code 144 = .ok (.invokespecial 63, 3) := by decide +kernel
theorem d_D_init_147 : decode prog_1_method_1_code 147 = .ok (.aastore, 1) := by decide +kernel
theorem d_D_init_148 : decode prog_1_method_1_code 148 = .ok (.iinc 1 (1), 3) := by decide +kernel
theorem d_D_init_151 : decode prog_1_method_1_code 151 = .ok (.goto (-21), 3) := by decide +kernel
theorem d_D_init_154 : decode prog_1_method_1_code 154 = .ok (.return_, 1) := by decide +kernel
def Y_D_init : sdY := ("SettingsDesk", prog_1_method_1_code, 2, none, .code y_D_init prog_1_method_1_code 2 none :: sdB0, { frames := 3, cells := 115, slots := 5218, locals := 53 }, 115, 5218, [])
section
variable {l : Launch} {D : va_G} {dA : Nat → ClassId} {b n : Nat} {ad : Nat → Nat} {L : Nat → sdL} {sc : Option (Nat × Nat × (Nat → Int32))}
def w_D_init (M : sdM) (Q : sdM → Prop) : Prop := ∀ M1 : sdM, M1 = va_up M 1 (fun _ => 0) → w_C_init M1 (fun M2 => ∀ M4 : sdM, M4 = va_up M2 25 (fun _ => 0) → w_S_init 25 M4 (fun M5 => ∀ M7 : sdM, M7 = va_up M5 30 (fun _ => 0) → w_S_init 30 M7 (fun M8 => ∀ M10 : sdM, M10 = va_up M8 35 (fun _ => 0) → w_S_init 35 M10 (fun M11 => ∀ M13 : sdM, M13 = va_up M11 40 (fun _ => 0) → ∀ M15 : sdM, M15 = va_up M13 41 (fun _ => 0) → ∀ M17 : sdM, M17 = va_up M15 42 (fun _ => 0) → w_T_init 42 M17 (fun M18 => ∀ M20 : sdM, M20 = sd_s M18 0 7 (0 : Int32) → ∀ M21 : sdM, M21 = sd_s M20 0 8 (0 : Int32) → ∀ M22 : sdM, M22 = sd_s M21 0 9 (-1 : Int32) → sdB (0 : Int32) ∧ ∀ M23 : sdM, M23 = sd_s M22 0 10 (0 : Int32) → ∀ M24 : sdM, M24 = sd_s M23 0 11 (-1 : Int32) → ∀ M25 : sdM, M25 = va_up M24 43 (fun _ => 0) → w_S_init 43 M25 (fun M26 => ∀ M28 : sdM, M28 = va_up M26 48 (fun _ => 0) → w_S_init 48 M28 (fun M29 => ∀ M31 : sdM, M31 = va_up M29 53 (fun _ => 0) → w_S_init 53 M31 (fun M32 => ∀ M34 : sdM, M34 = va_up M32 58 (fun _ => 0) → w_S_init 58 M34 (fun M35 => ∀ M37 : sdM, M37 = va_up M35 63 (fun _ => 0) → w_S_init 63 M37 (fun M38 => ∀ M40 : sdM, M40 = va_up M38 68 (fun _ => 0) → w_S_init 68 M40 (fun M41 => ∀ M43 : sdM, M43 = va_up M41 73 (fun _ => 0) → w_S_init 73 M43 (fun M44 => ∀ M46 : sdM, M46 = va_up M44 78 (fun _ => 0) → w_S_init 78 M46 (fun M47 => ∀ M49 : sdM, M49 = va_up M47 83 (fun _ => 0) → w_N_init 83 M49 (fun M50 => ∀ M52 : sdM, M52 = va_up M50 94 (fun _ => 0) → w_N_init 94 M52 (fun M53 => ∀ M55 : sdM, M55 = va_up M53 105 (fun _ => 0) → w_N_init 105 M55 (fun M56 => Q M56))))))))))))))))
set_option maxHeartbeats 4000000 in
set_option maxRecDepth 100000 in
theorem c_D_init (hA : sd_ad b 1 ad) (hT : l.stackTraces = false) (hloc : sd_loc 1 L) (hlo : L 0 = sd_O 0 [some none, some none, some none, some none, some none, some none, some none, none, none, none, none, none]) {Q : sdM → Prop} {M : sdM} (hw : w_D_init M Q) : sd_CnF l (sdE0 sc) y_D_init Y_D_init.2.2.2.2.1 Y_D_init.2.2.2.2.2.1 115 5218 D (sd_tys dA) b 1 ad L M [.ref 0] (fun M' H => ∃ (ad2 : Nat → Nat) (L2 : Nat → sdL), (∀ k, k < 1 → ad2 k = ad k) ∧ sd_ad b 116 ad2 ∧ sd_loc 116 L2 ∧ isD 116 L2 dA ∧ sd_H D (sdE0 sc).1 116 ad2 L2 M' H) (sd_qv Q) sd_xf := by
  refine sd_enterF (Y := Y_D_init) rfl rfl rfl rfl (Nat.le_of_ble_eq_true rfl) ?_
  show sdW l (sdE0 sc) Y_D_init D (sd_tys dA) b 1 ad L ad _ _ _ 0 [(0, .ref 0)] [] M 115 5218
  unfold w_D_init at hw
  refine x_aload_n 0 0 d_D_init_0 rfl rfl ?_
  refine x_objInit d_D_init_1 (List.mem_cons_of_mem _ q617) (List.mem_cons_of_mem _ q64) (List.mem_cons_of_mem _ q65) (by decide) (Nat.le_of_ble_eq_true rfl) ?_
  refine x_aload_n 0 0 d_D_init_4 rfl rfl ?_
  refine x_new (rc := 114) (rs := 5212) (n := 1) [none, none, some none, some none, none, some none] hA hloc (List.forall_mem_cons.mpr ⟨(sd_bel_r (by omega)), fun _ h => absurd h List.not_mem_nil⟩) (List.forall_mem_cons.mpr ⟨(sd_bel_r (by omega)), fun _ h => absurd h List.not_mem_nil⟩) d_D_init_5 (ci := 1) (N := 6) (C := "SettingsDesk$Schema") (T := T_C) rfl ty_C ty_C_ok lay_C (List.mem_cons_of_mem _ q618) (List.mem_cons_of_mem _ q619) (List.mem_cons_of_mem _ q77) (sd_nr rfl) (by decide +kernel) rfl rfl (fun ad1 L1 M1 hA1 hl1 hu1 hy1 hq1 e1 => ?_)
  replace hw := hw M1 e1
  clear e1
  replace hlo : L1 0 = sd_O 0 [some none, some none, some none, some none, some none, some none, some none, none, none, none, none, none] := (hu1.2 0 (by omega)).trans hlo
  refine x_dup d_D_init_8 rfl ?_
  refine x_callIg (As := []) (t := 1) (rest := [.ref 1, .ref 0]) (rc := 91) (rs := 5056) (na := 0) (host := "SettingsDesk") (c_C_init hA1 hT hl1 hy1 hw) (sd_goodB q620) ⟨_, rfl⟩ (List.mem_cons_of_mem _ q77) (List.mem_cons_of_mem _ q621) (Or.inl (List.mem_cons_of_mem _ q622)) ⟨rfl, by decide, by decide, by decide +kernel⟩ ⟨rfl, rfl, rfl, rfl⟩ ⟨by decide, by decide⟩ d_D_init_9 rfl rfl (Nat.le_of_ble_eq_true rfl) (fun _ _ h => h) (fun v M2 H2 hq9 hF9 => ?_)
  obtain ⟨ad2, L2, hq2, hA2, hl2, hk2, hs2, hH2⟩ := hF9
  refine ⟨hq9.1, 25, ad2, L2, hH2, sd_l_ext hq2 (List.forall_mem_cons.mpr ⟨(sd_bel_r (by omega)), fun _ h => absurd h List.not_mem_nil⟩), sd_map_ext hq2 (List.forall_mem_cons.mpr ⟨(sd_bel_r (by omega)), List.forall_mem_cons.mpr ⟨(sd_bel_r (by omega)), fun _ h => absurd h List.not_mem_nil⟩⟩), ?_⟩
  have hw := hq9.2
  clear hq9
  clear hH2
  replace hlo : L2 0 = sd_O 0 [some none, some none, some none, some none, some none, some none, some none, none, none, none, none, none] := (hk2 0 (by omega)).trans hlo
  refine x_putr 0 1 (ty := .object "SettingsDesk$Schema") hA2 (fun _ _ _ _ _ _ h => h.2.2.2.2 y_D_init _ _ _ _ rfl) d_D_init_12 (by omega) hlo (Nat.le_of_ble_eq_true rfl) rfl (by decide) lay_D (List.mem_cons_of_mem _ q281) rfl ty_D ty_D_ok nm_D rfl rfl (by decide +kernel) rfl rfl ?_
  obtain ⟨L3, hL3⟩ : ∃ z, z = va_up L2 0 (sd_O 0 [some (some 1), some none, some none, some none, some none, some none, some none, none, none, none, none, none]) := ⟨_, rfl⟩
  show sdW l (sdE0 sc) Y_D_init D (sd_tys dA) b _ _ (va_up L2 0 (sd_O 0 [some (some 1), some none, some none, some none, some none, some none, some none, none, none, none, none, none])) ad _ _ _ _ _ _ _ _ _
  rw [← hL3]
  have hn3 : ∀ k, k ≠ 0 → L3 k = L2 k := fun k h => by rw [hL3]; exact va_up_ne _ _ h
  have hl3 : sd_loc 25 L3 := by rw [hL3]; exact sd_loc_at hl2 (fun a a2 f e => by show (Sum.inr (0, sd_fv a f 0 [some (some 1), some none, some none, some none, some none, some none, some none, none, none, none, none, none]) : va_E) = Sum.inr (0, sd_fv a2 f 0 [some (some 1), some none, some none, some none, some none, some none, some none, none, none, none, none, none]); simp only [sd_fv, sd_fx]; rw [e 1 (by omega)])
  replace hlo : L3 0 = sd_O 0 [some (some 1), some none, some none, some none, some none, some none, some none, none, none, none, none, none] := by rw [hL3]; exact va_up_self _ _ _
  clear hL3
  replace hs2 : isC 25 L3 dA := hs2.cg (by omega) (fun k h1 h2 => hn3 k (by omega))
  refine x_aload_n 0 0 d_D_init_15 rfl rfl ?_
  refine x_new (rc := 90) (rs := 5052) (n := 25) [some none, some none, some none, some none] hA2 hl3 (List.forall_mem_cons.mpr ⟨(sd_bel_r (by omega)), fun _ h => absurd h List.not_mem_nil⟩) (List.forall_mem_cons.mpr ⟨(sd_bel_r (by omega)), fun _ h => absurd h List.not_mem_nil⟩) d_D_init_16 (ci := 2) (N := 4) (C := "SettingsDesk$Settings") (T := T_S) rfl ty_S ty_S_ok lay_S (List.mem_cons_of_mem _ q623) (List.mem_cons_of_mem _ q602) (List.mem_cons_of_mem _ q7) (sd_nr rfl) (by decide +kernel) rfl rfl (fun ad4 L4 M4 hA4 hl4 hu4 hy4 hq4 e4 => ?_)
  replace hw := hw M4 e4
  clear e4
  replace hlo : L4 0 = sd_O 0 [some (some 1), some none, some none, some none, some none, some none, some none, none, none, none, none, none] := (hu4.2 0 (by omega)).trans hlo
  replace hs2 : isC 26 L4 dA := hs2.cg (by omega) (fun k h1 h2 => hu4.2 k (by omega))
  refine x_dup d_D_init_19 rfl ?_
  refine x_callIg (As := []) (t := 25) (rest := [.ref 25, .ref 0]) (rc := 86) (rs := 4760) (na := 0) (host := "SettingsDesk") (c_S_init (o := 25) hA4 hT hl4 hy4 hw) (sd_goodB q603) ⟨_, rfl⟩ (List.mem_cons_of_mem _ q7) (List.mem_cons_of_mem _ q604) (Or.inl (List.mem_cons_of_mem _ q624)) ⟨rfl, by decide, by decide, by decide +kernel⟩ ⟨rfl, rfl, rfl, rfl⟩ ⟨by decide, by decide⟩ d_D_init_20 rfl rfl (Nat.le_of_ble_eq_true rfl) (fun _ _ h => h) (fun v M5 H5 hq9 hF9 => ?_)
  obtain ⟨ad5, L5, hq5, hA5, hl5, hk5, hs5, hH5⟩ := hF9
  refine ⟨hq9.1, 30, ad5, L5, hH5, sd_l_ext hq5 (List.forall_mem_cons.mpr ⟨(sd_bel_r (by omega)), fun _ h => absurd h List.not_mem_nil⟩), sd_map_ext hq5 (List.forall_mem_cons.mpr ⟨(sd_bel_r (by omega)), List.forall_mem_cons.mpr ⟨(sd_bel_r (by omega)), fun _ h => absurd h List.not_mem_nil⟩⟩), ?_⟩
  have hw := hq9.2
  clear hq9
  clear hH5
  replace hlo : L5 0 = sd_O 0 [some (some 1), some none, some none, some none, some none, some none, some none, none, none, none, none, none] := (hk5 0 (by omega)).trans hlo
  replace hs2 : isC 30 L5 dA := hs2.cg (by omega) (fun k h1 h2 => hk5 k (by omega))
  refine x_putr 1 25 (ty := .object "SettingsDesk$Settings") hA5 (fun _ _ _ _ _ _ h => h.2.2.2.2 y_D_init _ _ _ _ rfl) d_D_init_23 (by omega) hlo (Nat.le_of_ble_eq_true rfl) rfl (by decide) lay_D (List.mem_cons_of_mem _ q253) rfl ty_D ty_D_ok nm_D rfl rfl (by decide +kernel) rfl rfl ?_
  obtain ⟨L6, hL6⟩ : ∃ z, z = va_up L5 0 (sd_O 0 [some (some 1), some (some 25), some none, some none, some none, some none, some none, none, none, none, none, none]) := ⟨_, rfl⟩
  show sdW l (sdE0 sc) Y_D_init D (sd_tys dA) b _ _ (va_up L5 0 (sd_O 0 [some (some 1), some (some 25), some none, some none, some none, some none, some none, none, none, none, none, none])) ad _ _ _ _ _ _ _ _ _
  rw [← hL6]
  have hn6 : ∀ k, k ≠ 0 → L6 k = L5 k := fun k h => by rw [hL6]; exact va_up_ne _ _ h
  have hl6 : sd_loc 30 L6 := by rw [hL6]; exact sd_loc_at hl5 (fun a a2 f e => by show (Sum.inr (0, sd_fv a f 0 [some (some 1), some (some 25), some none, some none, some none, some none, some none, none, none, none, none, none]) : va_E) = Sum.inr (0, sd_fv a2 f 0 [some (some 1), some (some 25), some none, some none, some none, some none, some none, none, none, none, none, none]); simp only [sd_fv, sd_fx]; rw [e 1 (by omega), e 25 (by omega)])
  replace hlo : L6 0 = sd_O 0 [some (some 1), some (some 25), some none, some none, some none, some none, some none, none, none, none, none, none] := by rw [hL6]; exact va_up_self _ _ _
  clear hL6
  replace hs2 : isC 30 L6 dA := hs2.cg (by omega) (fun k h1 h2 => hn6 k (by omega))
  replace hs5 : isS 30 L6 dA 25 := hs5.cg (by omega) (fun k h1 h2 => hn6 k (by omega))
  refine x_aload_n 0 0 d_D_init_26 rfl rfl ?_
  refine x_new (rc := 85) (rs := 4756) (n := 30) [some none, some none, some none, some none] hA5 hl6 (List.forall_mem_cons.mpr ⟨(sd_bel_r (by omega)), fun _ h => absurd h List.not_mem_nil⟩) (List.forall_mem_cons.mpr ⟨(sd_bel_r (by omega)), fun _ h => absurd h List.not_mem_nil⟩) d_D_init_27 (ci := 2) (N := 4) (C := "SettingsDesk$Settings") (T := T_S) rfl ty_S ty_S_ok lay_S (List.mem_cons_of_mem _ q623) (List.mem_cons_of_mem _ q602) (List.mem_cons_of_mem _ q7) (sd_nr rfl) (by decide +kernel) rfl rfl (fun ad7 L7 M7 hA7 hl7 hu7 hy7 hq7 e7 => ?_)
  replace hw := hw M7 e7
  clear e7
  replace hlo : L7 0 = sd_O 0 [some (some 1), some (some 25), some none, some none, some none, some none, some none, none, none, none, none, none] := (hu7.2 0 (by omega)).trans hlo
  replace hs2 : isC 31 L7 dA := hs2.cg (by omega) (fun k h1 h2 => hu7.2 k (by omega))
  replace hs5 : isS 31 L7 dA 25 := hs5.cg (by omega) (fun k h1 h2 => hu7.2 k (by omega))
  refine x_dup d_D_init_30 rfl ?_
  refine x_callIg (As := []) (t := 30) (rest := [.ref 30, .ref 0]) (rc := 81) (rs := 4464) (na := 0) (host := "SettingsDesk") (c_S_init (o := 30) hA7 hT hl7 hy7 hw) (sd_goodB q603) ⟨_, rfl⟩ (List.mem_cons_of_mem _ q7) (List.mem_cons_of_mem _ q604) (Or.inl (List.mem_cons_of_mem _ q624)) ⟨rfl, by decide, by decide, by decide +kernel⟩ ⟨rfl, rfl, rfl, rfl⟩ ⟨by decide, by decide⟩ d_D_init_31 rfl rfl (Nat.le_of_ble_eq_true rfl) (fun _ _ h => h) (fun v M8 H8 hq9 hF9 => ?_)
  obtain ⟨ad8, L8, hq8, hA8, hl8, hk8, hs8, hH8⟩ := hF9
  refine ⟨hq9.1, 35, ad8, L8, hH8, sd_l_ext hq8 (List.forall_mem_cons.mpr ⟨(sd_bel_r (by omega)), fun _ h => absurd h List.not_mem_nil⟩), sd_map_ext hq8 (List.forall_mem_cons.mpr ⟨(sd_bel_r (by omega)), List.forall_mem_cons.mpr ⟨(sd_bel_r (by omega)), fun _ h => absurd h List.not_mem_nil⟩⟩), ?_⟩
  have hw := hq9.2
  clear hq9
  clear hH8
  replace hlo : L8 0 = sd_O 0 [some (some 1), some (some 25), some none, some none, some none, some none, some none, none, none, none, none, none] := (hk8 0 (by omega)).trans hlo
  replace hs2 : isC 35 L8 dA := hs2.cg (by omega) (fun k h1 h2 => hk8 k (by omega))
  replace hs5 : isS 35 L8 dA 25 := hs5.cg (by omega) (fun k h1 h2 => hk8 k (by omega))
  refine x_putr 2 30 (ty := .object "SettingsDesk$Settings") hA8 (fun _ _ _ _ _ _ h => h.2.2.2.2 y_D_init _ _ _ _ rfl) d_D_init_34 (by omega) hlo (Nat.le_of_ble_eq_true rfl) rfl (by decide) lay_D (List.mem_cons_of_mem _ q265) rfl ty_D ty_D_ok nm_D rfl rfl (by decide +kernel) rfl rfl ?_
  obtain ⟨L9, hL9⟩ : ∃ z, z = va_up L8 0 (sd_O 0 [some (some 1), some (some 25), some (some 30), some none, some none, some none, some none, none, none, none, none, none]) := ⟨_, rfl⟩
  show sdW l (sdE0 sc) Y_D_init D (sd_tys dA) b _ _ (va_up L8 0 (sd_O 0 [some (some 1), some (some 25), some (some 30), some none, some none, some none, some none, none, none, none, none, none])) ad _ _ _ _ _ _ _ _ _
  rw [← hL9]
  have hn9 : ∀ k, k ≠ 0 → L9 k = L8 k := fun k h => by rw [hL9]; exact va_up_ne _ _ h
  have hl9 : sd_loc 35 L9 := by rw [hL9]; exact sd_loc_at hl8 (fun a a2 f e => by show (Sum.inr (0, sd_fv a f 0 [some (some 1), some (some 25), some (some 30), some none, some none, some none, some none, none, none, none, none, none]) : va_E) = Sum.inr (0, sd_fv a2 f 0 [some (some 1), some (some 25), some (some 30), some none, some none, some none, some none, none, none, none, none, none]); simp only [sd_fv, sd_fx]; rw [e 1 (by omega), e 25 (by omega), e 30 (by omega)])
  replace hlo : L9 0 = sd_O 0 [some (some 1), some (some 25), some (some 30), some none, some none, some none, some none, none, none, none, none, none] := by rw [hL9]; exact va_up_self _ _ _
  clear hL9
  replace hs2 : isC 35 L9 dA := hs2.cg (by omega) (fun k h1 h2 => hn9 k (by omega))
  replace hs5 : isS 35 L9 dA 25 := hs5.cg (by omega) (fun k h1 h2 => hn9 k (by omega))
  replace hs8 : isS 35 L9 dA 30 := hs8.cg (by omega) (fun k h1 h2 => hn9 k (by omega))
  refine x_aload_n 0 0 d_D_init_37 rfl rfl ?_
  refine x_new (rc := 80) (rs := 4460) (n := 35) [some none, some none, some none, some none] hA8 hl9 (List.forall_mem_cons.mpr ⟨(sd_bel_r (by omega)), fun _ h => absurd h List.not_mem_nil⟩) (List.forall_mem_cons.mpr ⟨(sd_bel_r (by omega)), fun _ h => absurd h List.not_mem_nil⟩) d_D_init_38 (ci := 2) (N := 4) (C := "SettingsDesk$Settings") (T := T_S) rfl ty_S ty_S_ok lay_S (List.mem_cons_of_mem _ q623) (List.mem_cons_of_mem _ q602) (List.mem_cons_of_mem _ q7) (sd_nr rfl) (by decide +kernel) rfl rfl (fun ad10 L10 M10 hA10 hl10 hu10 hy10 hq10 e10 => ?_)
  replace hw := hw M10 e10
  clear e10
  replace hlo : L10 0 = sd_O 0 [some (some 1), some (some 25), some (some 30), some none, some none, some none, some none, none, none, none, none, none] := (hu10.2 0 (by omega)).trans hlo
  replace hs2 : isC 36 L10 dA := hs2.cg (by omega) (fun k h1 h2 => hu10.2 k (by omega))
  replace hs5 : isS 36 L10 dA 25 := hs5.cg (by omega) (fun k h1 h2 => hu10.2 k (by omega))
  replace hs8 : isS 36 L10 dA 30 := hs8.cg (by omega) (fun k h1 h2 => hu10.2 k (by omega))
  refine x_dup d_D_init_41 rfl ?_
  refine x_callIg (As := []) (t := 35) (rest := [.ref 35, .ref 0]) (rc := 76) (rs := 4168) (na := 0) (host := "SettingsDesk") (c_S_init (o := 35) hA10 hT hl10 hy10 hw) (sd_goodB q603) ⟨_, rfl⟩ (List.mem_cons_of_mem _ q7) (List.mem_cons_of_mem _ q604) (Or.inl (List.mem_cons_of_mem _ q624)) ⟨rfl, by decide, by decide, by decide +kernel⟩ ⟨rfl, rfl, rfl, rfl⟩ ⟨by decide, by decide⟩ d_D_init_42 rfl rfl (Nat.le_of_ble_eq_true rfl) (fun _ _ h => h) (fun v M11 H11 hq9 hF9 => ?_)
  obtain ⟨ad11, L11, hq11, hA11, hl11, hk11, hs11, hH11⟩ := hF9
  refine ⟨hq9.1, 40, ad11, L11, hH11, sd_l_ext hq11 (List.forall_mem_cons.mpr ⟨(sd_bel_r (by omega)), fun _ h => absurd h List.not_mem_nil⟩), sd_map_ext hq11 (List.forall_mem_cons.mpr ⟨(sd_bel_r (by omega)), List.forall_mem_cons.mpr ⟨(sd_bel_r (by omega)), fun _ h => absurd h List.not_mem_nil⟩⟩), ?_⟩
  have hw := hq9.2
  clear hq9
  clear hH11
  replace hlo : L11 0 = sd_O 0 [some (some 1), some (some 25), some (some 30), some none, some none, some none, some none, none, none, none, none, none] := (hk11 0 (by omega)).trans hlo
  replace hs2 : isC 40 L11 dA := hs2.cg (by omega) (fun k h1 h2 => hk11 k (by omega))
  replace hs5 : isS 40 L11 dA 25 := hs5.cg (by omega) (fun k h1 h2 => hk11 k (by omega))
  replace hs8 : isS 40 L11 dA 30 := hs8.cg (by omega) (fun k h1 h2 => hk11 k (by omega))
  refine x_putr 3 35 (ty := .object "SettingsDesk$Settings") hA11 (fun _ _ _ _ _ _ h => h.2.2.2.2 y_D_init _ _ _ _ rfl) d_D_init_45 (by omega) hlo (Nat.le_of_ble_eq_true rfl) rfl (by decide) lay_D (List.mem_cons_of_mem _ q423) rfl ty_D ty_D_ok nm_D rfl rfl (by decide +kernel) rfl rfl ?_
  obtain ⟨L12, hL12⟩ : ∃ z, z = va_up L11 0 (sd_O 0 [some (some 1), some (some 25), some (some 30), some (some 35), some none, some none, some none, none, none, none, none, none]) := ⟨_, rfl⟩
  show sdW l (sdE0 sc) Y_D_init D (sd_tys dA) b _ _ (va_up L11 0 (sd_O 0 [some (some 1), some (some 25), some (some 30), some (some 35), some none, some none, some none, none, none, none, none, none])) ad _ _ _ _ _ _ _ _ _
  rw [← hL12]
  have hn12 : ∀ k, k ≠ 0 → L12 k = L11 k := fun k h => by rw [hL12]; exact va_up_ne _ _ h
  have hl12 : sd_loc 40 L12 := by rw [hL12]; exact sd_loc_at hl11 (fun a a2 f e => by show (Sum.inr (0, sd_fv a f 0 [some (some 1), some (some 25), some (some 30), some (some 35), some none, some none, some none, none, none, none, none, none]) : va_E) = Sum.inr (0, sd_fv a2 f 0 [some (some 1), some (some 25), some (some 30), some (some 35), some none, some none, some none, none, none, none, none, none]); simp only [sd_fv, sd_fx]; rw [e 1 (by omega), e 25 (by omega), e 30 (by omega), e 35 (by omega)])
  replace hlo : L12 0 = sd_O 0 [some (some 1), some (some 25), some (some 30), some (some 35), some none, some none, some none, none, none, none, none, none] := by rw [hL12]; exact va_up_self _ _ _
  clear hL12
  replace hs2 : isC 40 L12 dA := hs2.cg (by omega) (fun k h1 h2 => hn12 k (by omega))
  replace hs5 : isS 40 L12 dA 25 := hs5.cg (by omega) (fun k h1 h2 => hn12 k (by omega))
  replace hs8 : isS 40 L12 dA 30 := hs8.cg (by omega) (fun k h1 h2 => hn12 k (by omega))
  replace hs11 : isS 40 L12 dA 35 := hs11.cg (by omega) (fun k h1 h2 => hn12 k (by omega))
  refine x_aload_n 0 0 d_D_init_48 rfl rfl ?_
  refine x_bipush (v := 8) d_D_init_49 (by decide) ?_
  refine x_newQ (rc := 75) (rs := 4160) (n := 40) (t0 := 5) (len := 8) hA11 hl12 (List.forall_mem_cons.mpr ⟨(sd_bel_r (by omega)), fun _ h => absurd h List.not_mem_nil⟩) (List.forall_mem_cons.mpr ⟨(sd_bel_r (by omega)), fun _ h => absurd h List.not_mem_nil⟩) d_D_init_51 (List.mem_cons_of_mem _ q623) (List.mem_of_getElem? (i := 4) rfl) rfl (by decide) (by decide) (by decide) rfl rfl (fun ad13 M13 hA13 hl13 hu13 hq13 e13 => ?_)
  replace hw := hw M13 e13
  clear e13
  have hy13 : va_up L12 40 (sd_P (dA 5) 8 (fun _ => none)) 40 = (sd_P (dA 5) 8 (fun _ => none)) := va_up_self _ _ _
  generalize va_up L12 40 (sd_P (dA 5) 8 (fun _ => none)) = L13 at hl13 hu13 hy13 ⊢
  replace hlo : L13 0 = sd_O 0 [some (some 1), some (some 25), some (some 30), some (some 35), some none, some none, some none, none, none, none, none, none] := (hu13.2 0 (by omega)).trans hlo
  replace hs2 : isC 41 L13 dA := hs2.cg (by omega) (fun k h1 h2 => hu13.2 k (by omega))
  replace hs5 : isS 41 L13 dA 25 := hs5.cg (by omega) (fun k h1 h2 => hu13.2 k (by omega))
  replace hs8 : isS 41 L13 dA 30 := hs8.cg (by omega) (fun k h1 h2 => hu13.2 k (by omega))
  replace hs11 : isS 41 L13 dA 35 := hs11.cg (by omega) (fun k h1 h2 => hu13.2 k (by omega))
  refine x_putr 4 40 (ty := .array (.object "SettingsDesk$Settings")) hA13 (fun _ _ _ _ _ _ h => h.2.2.2.2 y_D_init _ _ _ _ rfl) d_D_init_54 (by omega) hlo (Nat.le_of_ble_eq_true rfl) rfl (by decide) lay_D (List.mem_cons_of_mem _ q254) rfl ty_D ty_D_ok nm_D rfl rfl (by decide +kernel) rfl rfl ?_
  obtain ⟨L14, hL14⟩ : ∃ z, z = va_up L13 0 (sd_O 0 [some (some 1), some (some 25), some (some 30), some (some 35), some (some 40), some none, some none, none, none, none, none, none]) := ⟨_, rfl⟩
  show sdW l (sdE0 sc) Y_D_init D (sd_tys dA) b _ _ (va_up L13 0 (sd_O 0 [some (some 1), some (some 25), some (some 30), some (some 35), some (some 40), some none, some none, none, none, none, none, none])) ad _ _ _ _ _ _ _ _ _
  rw [← hL14]
  have hn14 : ∀ k, k ≠ 0 → L14 k = L13 k := fun k h => by rw [hL14]; exact va_up_ne _ _ h
  have hl14 : sd_loc 41 L14 := by rw [hL14]; exact sd_loc_at hl13 (fun a a2 f e => by show (Sum.inr (0, sd_fv a f 0 [some (some 1), some (some 25), some (some 30), some (some 35), some (some 40), some none, some none, none, none, none, none, none]) : va_E) = Sum.inr (0, sd_fv a2 f 0 [some (some 1), some (some 25), some (some 30), some (some 35), some (some 40), some none, some none, none, none, none, none, none]); simp only [sd_fv, sd_fx]; rw [e 1 (by omega), e 25 (by omega), e 30 (by omega), e 35 (by omega), e 40 (by omega)])
  replace hlo : L14 0 = sd_O 0 [some (some 1), some (some 25), some (some 30), some (some 35), some (some 40), some none, some none, none, none, none, none, none] := by rw [hL14]; exact va_up_self _ _ _
  clear hL14
  replace hs2 : isC 41 L14 dA := hs2.cg (by omega) (fun k h1 h2 => hn14 k (by omega))
  replace hs5 : isS 41 L14 dA 25 := hs5.cg (by omega) (fun k h1 h2 => hn14 k (by omega))
  replace hs8 : isS 41 L14 dA 30 := hs8.cg (by omega) (fun k h1 h2 => hn14 k (by omega))
  replace hs11 : isS 41 L14 dA 35 := hs11.cg (by omega) (fun k h1 h2 => hn14 k (by omega))
  replace hy13 : L14 40 = (sd_P (dA 5) 8 (fun _ => none)) := (hn14 40 (by omega)).trans hy13
  refine x_aload_n 0 0 d_D_init_57 rfl rfl ?_
  refine x_iconst (v := 3) d_D_init_58 (by decide) ?_
  refine x_newQ (rc := 74) (rs := 4157) (n := 41) (t0 := 6) (len := 3) hA13 hl14 (List.forall_mem_cons.mpr ⟨(sd_bel_r (by omega)), fun _ h => absurd h List.not_mem_nil⟩) (List.forall_mem_cons.mpr ⟨(sd_bel_r (by omega)), fun _ h => absurd h List.not_mem_nil⟩) d_D_init_59 (List.mem_cons_of_mem _ q625) (List.mem_of_getElem? (i := 5) rfl) rfl (by decide) (by decide) (by decide) rfl rfl (fun ad15 M15 hA15 hl15 hu15 hq15 e15 => ?_)
  replace hw := hw M15 e15
  clear e15
  have hy15 : va_up L14 41 (sd_P (dA 6) 3 (fun _ => none)) 41 = (sd_P (dA 6) 3 (fun _ => none)) := va_up_self _ _ _
  generalize va_up L14 41 (sd_P (dA 6) 3 (fun _ => none)) = L15 at hl15 hu15 hy15 ⊢
  replace hlo : L15 0 = sd_O 0 [some (some 1), some (some 25), some (some 30), some (some 35), some (some 40), some none, some none, none, none, none, none, none] := (hu15.2 0 (by omega)).trans hlo
  replace hs2 : isC 42 L15 dA := hs2.cg (by omega) (fun k h1 h2 => hu15.2 k (by omega))
  replace hs5 : isS 42 L15 dA 25 := hs5.cg (by omega) (fun k h1 h2 => hu15.2 k (by omega))
  replace hs8 : isS 42 L15 dA 30 := hs8.cg (by omega) (fun k h1 h2 => hu15.2 k (by omega))
  replace hs11 : isS 42 L15 dA 35 := hs11.cg (by omega) (fun k h1 h2 => hu15.2 k (by omega))
  replace hy13 : L15 40 = (sd_P (dA 5) 8 (fun _ => none)) := (hu15.2 40 (by omega)).trans hy13
  refine x_putr 5 41 (ty := .array (.object "SettingsDesk$Session")) hA15 (fun _ _ _ _ _ _ h => h.2.2.2.2 y_D_init _ _ _ _ rfl) d_D_init_62 (by omega) hlo (Nat.le_of_ble_eq_true rfl) rfl (by decide) lay_D (List.mem_cons_of_mem _ q268) rfl ty_D ty_D_ok nm_D rfl rfl (by decide +kernel) rfl rfl ?_
  obtain ⟨L16, hL16⟩ : ∃ z, z = va_up L15 0 (sd_O 0 [some (some 1), some (some 25), some (some 30), some (some 35), some (some 40), some (some 41), some none, none, none, none, none, none]) := ⟨_, rfl⟩
  show sdW l (sdE0 sc) Y_D_init D (sd_tys dA) b _ _ (va_up L15 0 (sd_O 0 [some (some 1), some (some 25), some (some 30), some (some 35), some (some 40), some (some 41), some none, none, none, none, none, none])) ad _ _ _ _ _ _ _ _ _
  rw [← hL16]
  have hn16 : ∀ k, k ≠ 0 → L16 k = L15 k := fun k h => by rw [hL16]; exact va_up_ne _ _ h
  have hl16 : sd_loc 42 L16 := by rw [hL16]; exact sd_loc_at hl15 (fun a a2 f e => by show (Sum.inr (0, sd_fv a f 0 [some (some 1), some (some 25), some (some 30), some (some 35), some (some 40), some (some 41), some none, none, none, none, none, none]) : va_E) = Sum.inr (0, sd_fv a2 f 0 [some (some 1), some (some 25), some (some 30), some (some 35), some (some 40), some (some 41), some none, none, none, none, none, none]); simp only [sd_fv, sd_fx]; rw [e 1 (by omega), e 25 (by omega), e 30 (by omega), e 35 (by omega), e 40 (by omega), e 41 (by omega)])
  replace hlo : L16 0 = sd_O 0 [some (some 1), some (some 25), some (some 30), some (some 35), some (some 40), some (some 41), some none, none, none, none, none, none] := by rw [hL16]; exact va_up_self _ _ _
  clear hL16
  replace hs2 : isC 42 L16 dA := hs2.cg (by omega) (fun k h1 h2 => hn16 k (by omega))
  replace hs5 : isS 42 L16 dA 25 := hs5.cg (by omega) (fun k h1 h2 => hn16 k (by omega))
  replace hs8 : isS 42 L16 dA 30 := hs8.cg (by omega) (fun k h1 h2 => hn16 k (by omega))
  replace hs11 : isS 42 L16 dA 35 := hs11.cg (by omega) (fun k h1 h2 => hn16 k (by omega))
  replace hy13 : L16 40 = (sd_P (dA 5) 8 (fun _ => none)) := (hn16 40 (by omega)).trans hy13
  replace hy15 : L16 41 = (sd_P (dA 6) 3 (fun _ => none)) := (hn16 41 (by omega)).trans hy15
  refine x_aload_n 0 0 d_D_init_65 rfl rfl ?_
  refine x_new (rc := 73) (rs := 4153) (n := 42) [none, none, none, none] hA15 hl16 (List.forall_mem_cons.mpr ⟨(sd_bel_r (by omega)), fun _ h => absurd h List.not_mem_nil⟩) (List.forall_mem_cons.mpr ⟨(sd_bel_r (by omega)), fun _ h => absurd h List.not_mem_nil⟩) d_D_init_66 (ci := 4) (N := 4) (C := "SettingsDesk$Trouble") (T := T_T) rfl ty_T ty_T_ok lay_T (List.mem_cons_of_mem _ q410) (List.mem_cons_of_mem _ q411) (List.mem_cons_of_mem _ q123) (sd_nr rfl) (by decide +kernel) rfl rfl (fun ad17 L17 M17 hA17 hl17 hu17 hy17 hq17 e17 => ?_)
  replace hw := hw M17 e17
  clear e17
  replace hlo : L17 0 = sd_O 0 [some (some 1), some (some 25), some (some 30), some (some 35), some (some 40), some (some 41), some none, none, none, none, none, none] := (hu17.2 0 (by omega)).trans hlo
  replace hs2 : isC 43 L17 dA := hs2.cg (by omega) (fun k h1 h2 => hu17.2 k (by omega))
  replace hs5 : isS 43 L17 dA 25 := hs5.cg (by omega) (fun k h1 h2 => hu17.2 k (by omega))
  replace hs8 : isS 43 L17 dA 30 := hs8.cg (by omega) (fun k h1 h2 => hu17.2 k (by omega))
  replace hs11 : isS 43 L17 dA 35 := hs11.cg (by omega) (fun k h1 h2 => hu17.2 k (by omega))
  replace hy13 : L17 40 = (sd_P (dA 5) 8 (fun _ => none)) := (hu17.2 40 (by omega)).trans hy13
  replace hy15 : L17 41 = (sd_P (dA 6) 3 (fun _ => none)) := (hu17.2 41 (by omega)).trans hy15
  refine x_dup d_D_init_69 rfl ?_
  refine x_callIv (As := []) (t := 42) (rest := [.ref 42, .ref 0]) (rc := 73) (rs := 4153) (L2 := L17) (na := 0) (host := "SettingsDesk") (c_T_init hA17 hT ⟨by omega, hy17⟩ hw) (sd_goodB q412) ⟨_, rfl⟩ (List.mem_cons_of_mem _ q123) (List.mem_cons_of_mem _ q413) (Or.inr (List.mem_of_getElem? (i := 6) rfl)) ⟨rfl, by decide, by decide, by decide +kernel⟩ ⟨rfl, rfl, rfl, rfl⟩ ⟨by decide, by decide⟩ d_D_init_70 rfl rfl (Nat.le_of_ble_eq_true rfl) (fun M18 hw => ?_)
  have ht18 : isT 43 L17 42 := ⟨by omega, hy17⟩
  refine x_putr 6 42 (ty := .object "SettingsDesk$Trouble") hA17 (fun _ _ _ _ _ _ h => h.2.2.2.2 y_D_init _ _ _ _ rfl) d_D_init_73 (by omega) hlo (Nat.le_of_ble_eq_true rfl) rfl (by decide) lay_D (List.mem_cons_of_mem _ q276) rfl ty_D ty_D_ok nm_D rfl rfl (by decide +kernel) rfl rfl ?_
  obtain ⟨L19, hL19⟩ : ∃ z, z = va_up L17 0 (sd_O 0 [some (some 1), some (some 25), some (some 30), some (some 35), some (some 40), some (some 41), some (some 42), none, none, none, none, none]) := ⟨_, rfl⟩
  show sdW l (sdE0 sc) Y_D_init D (sd_tys dA) b _ _ (va_up L17 0 (sd_O 0 [some (some 1), some (some 25), some (some 30), some (some 35), some (some 40), some (some 41), some (some 42), none, none, none, none, none])) ad _ _ _ _ _ _ _ _ _
  rw [← hL19]
  have hn19 : ∀ k, k ≠ 0 → L19 k = L17 k := fun k h => by rw [hL19]; exact va_up_ne _ _ h
  have hl19 : sd_loc 43 L19 := by rw [hL19]; exact sd_loc_at hl17 (fun a a2 f e => by show (Sum.inr (0, sd_fv a f 0 [some (some 1), some (some 25), some (some 30), some (some 35), some (some 40), some (some 41), some (some 42), none, none, none, none, none]) : va_E) = Sum.inr (0, sd_fv a2 f 0 [some (some 1), some (some 25), some (some 30), some (some 35), some (some 40), some (some 41), some (some 42), none, none, none, none, none]); simp only [sd_fv, sd_fx]; rw [e 1 (by omega), e 25 (by omega), e 30 (by omega), e 35 (by omega), e 40 (by omega), e 41 (by omega), e 42 (by omega)])
  replace hlo : L19 0 = sd_O 0 [some (some 1), some (some 25), some (some 30), some (some 35), some (some 40), some (some 41), some (some 42), none, none, none, none, none] := by rw [hL19]; exact va_up_self _ _ _
  clear hL19
  replace hs2 : isC 43 L19 dA := hs2.cg (by omega) (fun k h1 h2 => hn19 k (by omega))
  replace hs5 : isS 43 L19 dA 25 := hs5.cg (by omega) (fun k h1 h2 => hn19 k (by omega))
  replace hs8 : isS 43 L19 dA 30 := hs8.cg (by omega) (fun k h1 h2 => hn19 k (by omega))
  replace hs11 : isS 43 L19 dA 35 := hs11.cg (by omega) (fun k h1 h2 => hn19 k (by omega))
  replace hy13 : L19 40 = (sd_P (dA 5) 8 (fun _ => none)) := (hn19 40 (by omega)).trans hy13
  replace hy15 : L19 41 = (sd_P (dA 6) 3 (fun _ => none)) := (hn19 41 (by omega)).trans hy15
  replace hy17 : L19 42 = sd_O 4 [none, none, none, none] := (hn19 42 (by omega)).trans hy17
  replace ht18 : isT 43 L19 42 := ⟨Nat.lt_of_lt_of_le ht18.1 (by omega), (hn19 42 (by omega)).trans ht18.2⟩
  refine x_aload_n 0 0 d_D_init_76 rfl rfl ?_
  refine x_iconst (v := 0) d_D_init_77 (by decide) ?_
  refine x_puti 7 (ty := .int) hA17 d_D_init_78 (by omega) hlo rfl rfl (by decide) lay_D (List.mem_cons_of_mem _ q255) rfl ty_D ty_D_ok nm_D rfl (by decide +kernel) rfl rfl (fun M20 e20 => ?_)
  replace hw := hw M20 e20
  clear e20
  refine x_aload_n 0 0 d_D_init_81 rfl rfl ?_
  refine x_iconst (v := 0) d_D_init_82 (by decide) ?_
  refine x_puti 8 (ty := .int) hA17 d_D_init_83 (by omega) hlo rfl rfl (by decide) lay_D (List.mem_cons_of_mem _ q267) rfl ty_D ty_D_ok nm_D rfl (by decide +kernel) rfl rfl (fun M21 e21 => ?_)
  replace hw := hw M21 e21
  clear e21
  refine x_aload_n 0 0 d_D_init_86 rfl rfl ?_
  refine x_iconst (v := (-1)) d_D_init_87 (by decide) ?_
  refine x_puti 9 (ty := .int) hA17 d_D_init_88 (by omega) hlo rfl rfl (by decide) lay_D (List.mem_cons_of_mem _ q266) rfl ty_D ty_D_ok nm_D rfl (by decide +kernel) rfl rfl (fun M22 e22 => ?_)
  replace hw := hw M22 e22
  clear e22
  refine x_aload_n 0 0 d_D_init_91 rfl rfl ?_
  refine x_iconst (v := 0) d_D_init_92 (by decide) ?_
  obtain ⟨hb23, hw⟩ := hw
  refine x_puti 10 (ty := .boolean) hA17 d_D_init_93 (by omega) hlo rfl rfl (by decide) lay_D (List.mem_cons_of_mem _ q264) rfl ty_D ty_D_ok nm_D rfl (by decide +kernel) (sdB_n hb23) (sdB_f hb23) (fun M23 e23 => ?_)
  replace hw := hw M23 e23
  clear e23
  refine x_aload_n 0 0 d_D_init_96 rfl rfl ?_
  refine x_iconst (v := (-1)) d_D_init_97 (by decide) ?_
  refine x_puti 11 (ty := .int) hA17 d_D_init_98 (by omega) hlo rfl rfl (by decide) lay_D (List.mem_cons_of_mem _ q394) rfl ty_D ty_D_ok nm_D rfl (by decide +kernel) rfl rfl (fun M24 e24 => ?_)
  replace hw := hw M24 e24
  clear e24
  refine x_iconst (v := 0) d_D_init_101 (by decide) ?_
  refine x_istore_n 1 [(1, .int 0), (0, .ref 0)] d_D_init_102 rfl (by decide) rfl ?_
  refine x_iload_n 1 0 d_D_init_103 rfl rfl ?_
  refine x_bipush (v := 8) d_D_init_104 (by decide) ?_
  refine x_icmp_ge 128 d_D_init_106 rfl (fun hc => absurd hc (by decide)) (fun _ => ?_)
  refine x_aload_n 0 1 d_D_init_109 rfl rfl ?_
  refine x_getr 4 40 d_D_init_110 (by omega) hlo rfl rfl (by decide) lay_D (List.mem_cons_of_mem _ q254) rfl ?_
  refine x_iload_n 1 0 d_D_init_113 rfl rfl ?_
  refine x_new (rc := 72) (rs := 4149) (n := 43) [some none, some none, some none, some none] hA17 hl19 (List.forall_mem_cons.mpr ⟨sd_bel_i, List.forall_mem_cons.mpr ⟨(sd_bel_r (by omega)), fun _ h => absurd h List.not_mem_nil⟩⟩) (List.forall_mem_cons.mpr ⟨sd_bel_i, List.forall_mem_cons.mpr ⟨(sd_bel_r (by omega)), fun _ h => absurd h List.not_mem_nil⟩⟩) d_D_init_114 (ci := 2) (N := 4) (C := "SettingsDesk$Settings") (T := T_S) rfl ty_S ty_S_ok lay_S (List.mem_cons_of_mem _ q623) (List.mem_cons_of_mem _ q602) (List.mem_cons_of_mem _ q7) (sd_nr rfl) (by decide +kernel) rfl rfl (fun ad25 L25 M25 hA25 hl25 hu25 hy25 hq25 e25 => ?_)
  replace hw := hw M25 e25
  clear e25
  replace hlo : L25 0 = sd_O 0 [some (some 1), some (some 25), some (some 30), some (some 35), some (some 40), some (some 41), some (some 42), none, none, none, none, none] := (hu25.2 0 (by omega)).trans hlo
  replace hs2 : isC 44 L25 dA := hs2.cg (by omega) (fun k h1 h2 => hu25.2 k (by omega))
  replace hs5 : isS 44 L25 dA 25 := hs5.cg (by omega) (fun k h1 h2 => hu25.2 k (by omega))
  replace hs8 : isS 44 L25 dA 30 := hs8.cg (by omega) (fun k h1 h2 => hu25.2 k (by omega))
  replace hs11 : isS 44 L25 dA 35 := hs11.cg (by omega) (fun k h1 h2 => hu25.2 k (by omega))
  replace hy13 : L25 40 = (sd_P (dA 5) 8 (fun _ => none)) := (hu25.2 40 (by omega)).trans hy13
  replace hy15 : L25 41 = (sd_P (dA 6) 3 (fun _ => none)) := (hu25.2 41 (by omega)).trans hy15
  replace hy17 : L25 42 = sd_O 4 [none, none, none, none] := (hu25.2 42 (by omega)).trans hy17
  replace ht18 : isT 44 L25 42 := ⟨Nat.lt_of_lt_of_le ht18.1 (by omega), (hu25.2 42 (by omega)).trans ht18.2⟩
  refine x_dup d_D_init_117 rfl ?_
  refine x_callIg (As := []) (t := 43) (rest := [.ref 43, .int 0, .ref 40]) (rc := 68) (rs := 3857) (na := 0) (host := "SettingsDesk") (c_S_init (o := 43) hA25 hT hl25 hy25 hw) (sd_goodB q603) ⟨_, rfl⟩ (List.mem_cons_of_mem _ q7) (List.mem_cons_of_mem _ q604) (Or.inl (List.mem_cons_of_mem _ q624)) ⟨rfl, by decide, by decide, by decide +kernel⟩ ⟨rfl, rfl, rfl, rfl⟩ ⟨by decide, by decide⟩ d_D_init_118 rfl rfl (Nat.le_of_ble_eq_true rfl) (fun _ _ h => h) (fun v M26 H26 hq9 hF9 => ?_)
  obtain ⟨ad26, L26, hq26, hA26, hl26, hk26, hs26, hH26⟩ := hF9
  refine ⟨hq9.1, 48, ad26, L26, hH26, sd_l_ext hq26 (List.forall_mem_cons.mpr ⟨sd_bel_i, List.forall_mem_cons.mpr ⟨(sd_bel_r (by omega)), fun _ h => absurd h List.not_mem_nil⟩⟩), sd_map_ext hq26 (List.forall_mem_cons.mpr ⟨(sd_bel_r (by omega)), List.forall_mem_cons.mpr ⟨sd_bel_i, List.forall_mem_cons.mpr ⟨(sd_bel_r (by omega)), fun _ h => absurd h List.not_mem_nil⟩⟩⟩), ?_⟩
  have hw := hq9.2
  clear hq9
  clear hH26
  replace hlo : L26 0 = sd_O 0 [some (some 1), some (some 25), some (some 30), some (some 35), some (some 40), some (some 41), some (some 42), none, none, none, none, none] := (hk26 0 (by omega)).trans hlo
  replace hs2 : isC 48 L26 dA := hs2.cg (by omega) (fun k h1 h2 => hk26 k (by omega))
  replace hs5 : isS 48 L26 dA 25 := hs5.cg (by omega) (fun k h1 h2 => hk26 k (by omega))
  replace hs8 : isS 48 L26 dA 30 := hs8.cg (by omega) (fun k h1 h2 => hk26 k (by omega))
  replace hs11 : isS 48 L26 dA 35 := hs11.cg (by omega) (fun k h1 h2 => hk26 k (by omega))
  replace hy13 : L26 40 = (sd_P (dA 5) 8 (fun _ => none)) := (hk26 40 (by omega)).trans hy13
  replace hy15 : L26 41 = (sd_P (dA 6) 3 (fun _ => none)) := (hk26 41 (by omega)).trans hy15
  replace hy17 : L26 42 = sd_O 4 [none, none, none, none] := (hk26 42 (by omega)).trans hy17
  replace ht18 : isT 48 L26 42 := ⟨Nat.lt_of_lt_of_le ht18.1 (by omega), (hk26 42 (by omega)).trans ht18.2⟩
  have hfS : ∀ j, j < 1 → isS 48 L26 dA (43 + 5 * j) := fun j hj => by
    have h9 : j = 0 := by omega
    subst h9; exact hs26
  refine x_aast (t0 := 5) (u := 43) hA26 d_D_init_121 (by omega) hy13 (by omega) (hfS 0 (by decide)).2.1 rfl rfl (vp_in_nI (n := 0) (N := 8) (by decide) (by decide)) ?_
  obtain ⟨L27, hL27⟩ : ∃ z, z = va_up L26 40 (sd_P (dA 5) 8 (va_up (fun _ => none) 0 (some 43))) := ⟨_, rfl⟩
  show sdW l (sdE0 sc) Y_D_init D (sd_tys dA) b _ _ (va_up L26 40 (sd_P (dA 5) 8 (va_up (fun _ => none) 0 (some 43)))) ad _ _ _ _ _ _ _ _ _
  rw [← hL27]
  have hn27 : ∀ k, k ≠ 40 → L27 k = L26 k := fun k h => by rw [hL27]; exact va_up_ne _ _ h
  have hy27 : L27 40 = (sd_P (dA 5) 8 (va_up (fun _ => none) 0 (some 43))) := by rw [hL27]; exact va_up_self _ _ _
  have hl27 : sd_loc 48 L27 := by rw [hL27]; exact sd_loc_at hl26 (sd_P_loc (sd_Pl_up sd_Pl_none (by omega)))
  clear hL27
  replace hlo : L27 0 = sd_O 0 [some (some 1), some (some 25), some (some 30), some (some 35), some (some 40), some (some 41), some (some 42), none, none, none, none, none] := (hn27 0 (by omega)).trans hlo
  replace hs2 : isC 48 L27 dA := hs2.cg (by omega) (fun k h1 h2 => hn27 k (by omega))
  replace hs5 : isS 48 L27 dA 25 := hs5.cg (by omega) (fun k h1 h2 => hn27 k (by omega))
  replace hs8 : isS 48 L27 dA 30 := hs8.cg (by omega) (fun k h1 h2 => hn27 k (by omega))
  replace hs11 : isS 48 L27 dA 35 := hs11.cg (by omega) (fun k h1 h2 => hn27 k (by omega))
  replace hy15 : L27 41 = (sd_P (dA 6) 3 (fun _ => none)) := (hn27 41 (by omega)).trans hy15
  replace hy17 : L27 42 = sd_O 4 [none, none, none, none] := (hn27 42 (by omega)).trans hy17
  replace ht18 : isT 48 L27 42 := ⟨Nat.lt_of_lt_of_le ht18.1 (by omega), (hn27 42 (by omega)).trans ht18.2⟩
  replace hfS : ∀ j, j < 1 → isS 48 L27 dA (43 + 5 * j) := fun j hj => (hfS j hj).cg (by omega) (fun k h1 h2 => hn27 k (by omega))
  refine x_iinc 1 0 [(1, .int 1), (0, .ref 0)] d_D_init_122 rfl (by decide) (by decide) rfl ?_
  refine x_goto 103 d_D_init_125 rfl ?_
  refine x_iload_n 1 0 d_D_init_103 rfl rfl ?_
  refine x_bipush (v := 8) d_D_init_104 (by decide) ?_
  refine x_icmp_ge 128 d_D_init_106 rfl (fun hc => absurd hc (by decide)) (fun _ => ?_)
  refine x_aload_n 0 1 d_D_init_109 rfl rfl ?_
  refine x_getr 4 40 d_D_init_110 (by omega) hlo rfl rfl (by decide) lay_D (List.mem_cons_of_mem _ q254) rfl ?_
  refine x_iload_n 1 0 d_D_init_113 rfl rfl ?_
  refine x_new (rc := 67) (rs := 3853) (n := 48) [some none, some none, some none, some none] hA26 hl27 (List.forall_mem_cons.mpr ⟨sd_bel_i, List.forall_mem_cons.mpr ⟨(sd_bel_r (by omega)), fun _ h => absurd h List.not_mem_nil⟩⟩) (List.forall_mem_cons.mpr ⟨sd_bel_i, List.forall_mem_cons.mpr ⟨(sd_bel_r (by omega)), fun _ h => absurd h List.not_mem_nil⟩⟩) d_D_init_114 (ci := 2) (N := 4) (C := "SettingsDesk$Settings") (T := T_S) rfl ty_S ty_S_ok lay_S (List.mem_cons_of_mem _ q623) (List.mem_cons_of_mem _ q602) (List.mem_cons_of_mem _ q7) (sd_nr rfl) (by decide +kernel) rfl rfl (fun ad28 L28 M28 hA28 hl28 hu28 hy28 hq28 e28 => ?_)
  replace hw := hw M28 e28
  clear e28
  replace hlo : L28 0 = sd_O 0 [some (some 1), some (some 25), some (some 30), some (some 35), some (some 40), some (some 41), some (some 42), none, none, none, none, none] := (hu28.2 0 (by omega)).trans hlo
  replace hs2 : isC 49 L28 dA := hs2.cg (by omega) (fun k h1 h2 => hu28.2 k (by omega))
  replace hs5 : isS 49 L28 dA 25 := hs5.cg (by omega) (fun k h1 h2 => hu28.2 k (by omega))
  replace hs8 : isS 49 L28 dA 30 := hs8.cg (by omega) (fun k h1 h2 => hu28.2 k (by omega))
  replace hs11 : isS 49 L28 dA 35 := hs11.cg (by omega) (fun k h1 h2 => hu28.2 k (by omega))
  replace hy15 : L28 41 = (sd_P (dA 6) 3 (fun _ => none)) := (hu28.2 41 (by omega)).trans hy15
  replace hy17 : L28 42 = sd_O 4 [none, none, none, none] := (hu28.2 42 (by omega)).trans hy17
  replace ht18 : isT 49 L28 42 := ⟨Nat.lt_of_lt_of_le ht18.1 (by omega), (hu28.2 42 (by omega)).trans ht18.2⟩
  replace hfS : ∀ j, j < 1 → isS 49 L28 dA (43 + 5 * j) := fun j hj => (hfS j hj).cg (by omega) (fun k h1 h2 => hu28.2 k (by omega))
  replace hy27 : L28 40 = (sd_P (dA 5) 8 (va_up (fun _ => none) 0 (some 43))) := (hu28.2 40 (by omega)).trans hy27
  refine x_dup d_D_init_117 rfl ?_
  refine x_callIg (As := []) (t := 48) (rest := [.ref 48, .int 1, .ref 40]) (rc := 63) (rs := 3561) (na := 0) (host := "SettingsDesk") (c_S_init (o := 48) hA28 hT hl28 hy28 hw) (sd_goodB q603) ⟨_, rfl⟩ (List.mem_cons_of_mem _ q7) (List.mem_cons_of_mem _ q604) (Or.inl (List.mem_cons_of_mem _ q624)) ⟨rfl, by decide, by decide, by decide +kernel⟩ ⟨rfl, rfl, rfl, rfl⟩ ⟨by decide, by decide⟩ d_D_init_118 rfl rfl (Nat.le_of_ble_eq_true rfl) (fun _ _ h => h) (fun v M29 H29 hq9 hF9 => ?_)
  obtain ⟨ad29, L29, hq29, hA29, hl29, hk29, hs29, hH29⟩ := hF9
  refine ⟨hq9.1, 53, ad29, L29, hH29, sd_l_ext hq29 (List.forall_mem_cons.mpr ⟨sd_bel_i, List.forall_mem_cons.mpr ⟨(sd_bel_r (by omega)), fun _ h => absurd h List.not_mem_nil⟩⟩), sd_map_ext hq29 (List.forall_mem_cons.mpr ⟨(sd_bel_r (by omega)), List.forall_mem_cons.mpr ⟨sd_bel_i, List.forall_mem_cons.mpr ⟨(sd_bel_r (by omega)), fun _ h => absurd h List.not_mem_nil⟩⟩⟩), ?_⟩
  have hw := hq9.2
  clear hq9
  clear hH29
  replace hlo : L29 0 = sd_O 0 [some (some 1), some (some 25), some (some 30), some (some 35), some (some 40), some (some 41), some (some 42), none, none, none, none, none] := (hk29 0 (by omega)).trans hlo
  replace hs2 : isC 53 L29 dA := hs2.cg (by omega) (fun k h1 h2 => hk29 k (by omega))
  replace hs5 : isS 53 L29 dA 25 := hs5.cg (by omega) (fun k h1 h2 => hk29 k (by omega))
  replace hs8 : isS 53 L29 dA 30 := hs8.cg (by omega) (fun k h1 h2 => hk29 k (by omega))
  replace hs11 : isS 53 L29 dA 35 := hs11.cg (by omega) (fun k h1 h2 => hk29 k (by omega))
  replace hy15 : L29 41 = (sd_P (dA 6) 3 (fun _ => none)) := (hk29 41 (by omega)).trans hy15
  replace hy17 : L29 42 = sd_O 4 [none, none, none, none] := (hk29 42 (by omega)).trans hy17
  replace ht18 : isT 53 L29 42 := ⟨Nat.lt_of_lt_of_le ht18.1 (by omega), (hk29 42 (by omega)).trans ht18.2⟩
  replace hfS : ∀ j, j < 1 → isS 53 L29 dA (43 + 5 * j) := fun j hj => (hfS j hj).cg (by omega) (fun k h1 h2 => hk29 k (by omega))
  replace hy27 : L29 40 = (sd_P (dA 5) 8 (va_up (fun _ => none) 0 (some 43))) := (hk29 40 (by omega)).trans hy27
  replace hfS : ∀ j, j < 2 → isS 53 L29 dA (43 + 5 * j) := fun j hj => by
    by_cases h9 : j = 1
    · subst h9; exact hs29
    · exact hfS j (by omega)
  refine x_aast (t0 := 5) (u := 48) hA29 d_D_init_121 (by omega) hy27 (by omega) (hfS 1 (by decide)).2.1 rfl rfl (vp_in_nI (n := 1) (N := 8) (by decide) (by decide)) ?_
  obtain ⟨L30, hL30⟩ : ∃ z, z = va_up L29 40 (sd_P (dA 5) 8 (va_up (va_up (fun _ => none) 0 (some 43)) 1 (some 48))) := ⟨_, rfl⟩
  show sdW l (sdE0 sc) Y_D_init D (sd_tys dA) b _ _ (va_up L29 40 (sd_P (dA 5) 8 (va_up (va_up (fun _ => none) 0 (some 43)) 1 (some 48)))) ad _ _ _ _ _ _ _ _ _
  rw [← hL30]
  have hn30 : ∀ k, k ≠ 40 → L30 k = L29 k := fun k h => by rw [hL30]; exact va_up_ne _ _ h
  have hy30 : L30 40 = (sd_P (dA 5) 8 (va_up (va_up (fun _ => none) 0 (some 43)) 1 (some 48))) := by rw [hL30]; exact va_up_self _ _ _
  have hl30 : sd_loc 53 L30 := by rw [hL30]; exact sd_loc_at hl29 (sd_P_loc (sd_Pl_up (sd_Pl_up sd_Pl_none (by omega)) (by omega)))
  clear hL30
  replace hlo : L30 0 = sd_O 0 [some (some 1), some (some 25), some (some 30), some (some 35), some (some 40), some (some 41), some (some 42), none, none, none, none, none] := (hn30 0 (by omega)).trans hlo
  replace hs2 : isC 53 L30 dA := hs2.cg (by omega) (fun k h1 h2 => hn30 k (by omega))
  replace hs5 : isS 53 L30 dA 25 := hs5.cg (by omega) (fun k h1 h2 => hn30 k (by omega))
  replace hs8 : isS 53 L30 dA 30 := hs8.cg (by omega) (fun k h1 h2 => hn30 k (by omega))
  replace hs11 : isS 53 L30 dA 35 := hs11.cg (by omega) (fun k h1 h2 => hn30 k (by omega))
  replace hy15 : L30 41 = (sd_P (dA 6) 3 (fun _ => none)) := (hn30 41 (by omega)).trans hy15
  replace hy17 : L30 42 = sd_O 4 [none, none, none, none] := (hn30 42 (by omega)).trans hy17
  replace ht18 : isT 53 L30 42 := ⟨Nat.lt_of_lt_of_le ht18.1 (by omega), (hn30 42 (by omega)).trans ht18.2⟩
  replace hfS : ∀ j, j < 2 → isS 53 L30 dA (43 + 5 * j) := fun j hj => (hfS j hj).cg (by omega) (fun k h1 h2 => hn30 k (by omega))
  refine x_iinc 1 0 [(1, .int 2), (0, .ref 0)] d_D_init_122 rfl (by decide) (by decide) rfl ?_
  refine x_goto 103 d_D_init_125 rfl ?_
  refine x_iload_n 1 0 d_D_init_103 rfl rfl ?_
  refine x_bipush (v := 8) d_D_init_104 (by decide) ?_
  refine x_icmp_ge 128 d_D_init_106 rfl (fun hc => absurd hc (by decide)) (fun _ => ?_)
  refine x_aload_n 0 1 d_D_init_109 rfl rfl ?_
  refine x_getr 4 40 d_D_init_110 (by omega) hlo rfl rfl (by decide) lay_D (List.mem_cons_of_mem _ q254) rfl ?_
  refine x_iload_n 1 0 d_D_init_113 rfl rfl ?_
  refine x_new (rc := 62) (rs := 3557) (n := 53) [some none, some none, some none, some none] hA29 hl30 (List.forall_mem_cons.mpr ⟨sd_bel_i, List.forall_mem_cons.mpr ⟨(sd_bel_r (by omega)), fun _ h => absurd h List.not_mem_nil⟩⟩) (List.forall_mem_cons.mpr ⟨sd_bel_i, List.forall_mem_cons.mpr ⟨(sd_bel_r (by omega)), fun _ h => absurd h List.not_mem_nil⟩⟩) d_D_init_114 (ci := 2) (N := 4) (C := "SettingsDesk$Settings") (T := T_S) rfl ty_S ty_S_ok lay_S (List.mem_cons_of_mem _ q623) (List.mem_cons_of_mem _ q602) (List.mem_cons_of_mem _ q7) (sd_nr rfl) (by decide +kernel) rfl rfl (fun ad31 L31 M31 hA31 hl31 hu31 hy31 hq31 e31 => ?_)
  replace hw := hw M31 e31
  clear e31
  replace hlo : L31 0 = sd_O 0 [some (some 1), some (some 25), some (some 30), some (some 35), some (some 40), some (some 41), some (some 42), none, none, none, none, none] := (hu31.2 0 (by omega)).trans hlo
  replace hs2 : isC 54 L31 dA := hs2.cg (by omega) (fun k h1 h2 => hu31.2 k (by omega))
  replace hs5 : isS 54 L31 dA 25 := hs5.cg (by omega) (fun k h1 h2 => hu31.2 k (by omega))
  replace hs8 : isS 54 L31 dA 30 := hs8.cg (by omega) (fun k h1 h2 => hu31.2 k (by omega))
  replace hs11 : isS 54 L31 dA 35 := hs11.cg (by omega) (fun k h1 h2 => hu31.2 k (by omega))
  replace hy15 : L31 41 = (sd_P (dA 6) 3 (fun _ => none)) := (hu31.2 41 (by omega)).trans hy15
  replace hy17 : L31 42 = sd_O 4 [none, none, none, none] := (hu31.2 42 (by omega)).trans hy17
  replace ht18 : isT 54 L31 42 := ⟨Nat.lt_of_lt_of_le ht18.1 (by omega), (hu31.2 42 (by omega)).trans ht18.2⟩
  replace hfS : ∀ j, j < 2 → isS 54 L31 dA (43 + 5 * j) := fun j hj => (hfS j hj).cg (by omega) (fun k h1 h2 => hu31.2 k (by omega))
  replace hy30 : L31 40 = (sd_P (dA 5) 8 (va_up (va_up (fun _ => none) 0 (some 43)) 1 (some 48))) := (hu31.2 40 (by omega)).trans hy30
  refine x_dup d_D_init_117 rfl ?_
  refine x_callIg (As := []) (t := 53) (rest := [.ref 53, .int 2, .ref 40]) (rc := 58) (rs := 3265) (na := 0) (host := "SettingsDesk") (c_S_init (o := 53) hA31 hT hl31 hy31 hw) (sd_goodB q603) ⟨_, rfl⟩ (List.mem_cons_of_mem _ q7) (List.mem_cons_of_mem _ q604) (Or.inl (List.mem_cons_of_mem _ q624)) ⟨rfl, by decide, by decide, by decide +kernel⟩ ⟨rfl, rfl, rfl, rfl⟩ ⟨by decide, by decide⟩ d_D_init_118 rfl rfl (Nat.le_of_ble_eq_true rfl) (fun _ _ h => h) (fun v M32 H32 hq9 hF9 => ?_)
  obtain ⟨ad32, L32, hq32, hA32, hl32, hk32, hs32, hH32⟩ := hF9
  refine ⟨hq9.1, 58, ad32, L32, hH32, sd_l_ext hq32 (List.forall_mem_cons.mpr ⟨sd_bel_i, List.forall_mem_cons.mpr ⟨(sd_bel_r (by omega)), fun _ h => absurd h List.not_mem_nil⟩⟩), sd_map_ext hq32 (List.forall_mem_cons.mpr ⟨(sd_bel_r (by omega)), List.forall_mem_cons.mpr ⟨sd_bel_i, List.forall_mem_cons.mpr ⟨(sd_bel_r (by omega)), fun _ h => absurd h List.not_mem_nil⟩⟩⟩), ?_⟩
  have hw := hq9.2
  clear hq9
  clear hH32
  replace hlo : L32 0 = sd_O 0 [some (some 1), some (some 25), some (some 30), some (some 35), some (some 40), some (some 41), some (some 42), none, none, none, none, none] := (hk32 0 (by omega)).trans hlo
  replace hs2 : isC 58 L32 dA := hs2.cg (by omega) (fun k h1 h2 => hk32 k (by omega))
  replace hs5 : isS 58 L32 dA 25 := hs5.cg (by omega) (fun k h1 h2 => hk32 k (by omega))
  replace hs8 : isS 58 L32 dA 30 := hs8.cg (by omega) (fun k h1 h2 => hk32 k (by omega))
  replace hs11 : isS 58 L32 dA 35 := hs11.cg (by omega) (fun k h1 h2 => hk32 k (by omega))
  replace hy15 : L32 41 = (sd_P (dA 6) 3 (fun _ => none)) := (hk32 41 (by omega)).trans hy15
  replace hy17 : L32 42 = sd_O 4 [none, none, none, none] := (hk32 42 (by omega)).trans hy17
  replace ht18 : isT 58 L32 42 := ⟨Nat.lt_of_lt_of_le ht18.1 (by omega), (hk32 42 (by omega)).trans ht18.2⟩
  replace hfS : ∀ j, j < 2 → isS 58 L32 dA (43 + 5 * j) := fun j hj => (hfS j hj).cg (by omega) (fun k h1 h2 => hk32 k (by omega))
  replace hy30 : L32 40 = (sd_P (dA 5) 8 (va_up (va_up (fun _ => none) 0 (some 43)) 1 (some 48))) := (hk32 40 (by omega)).trans hy30
  replace hfS : ∀ j, j < 3 → isS 58 L32 dA (43 + 5 * j) := fun j hj => by
    by_cases h9 : j = 2
    · subst h9; exact hs32
    · exact hfS j (by omega)
  refine x_aast (t0 := 5) (u := 53) hA32 d_D_init_121 (by omega) hy30 (by omega) (hfS 2 (by decide)).2.1 rfl rfl (vp_in_nI (n := 2) (N := 8) (by decide) (by decide)) ?_
  obtain ⟨L33, hL33⟩ : ∃ z, z = va_up L32 40 (sd_P (dA 5) 8 (va_up (va_up (va_up (fun _ => none) 0 (some 43)) 1 (some 48)) 2 (some 53))) := ⟨_, rfl⟩
  show sdW l (sdE0 sc) Y_D_init D (sd_tys dA) b _ _ (va_up L32 40 (sd_P (dA 5) 8 (va_up (va_up (va_up (fun _ => none) 0 (some 43)) 1 (some 48)) 2 (some 53)))) ad _ _ _ _ _ _ _ _ _
  rw [← hL33]
  have hn33 : ∀ k, k ≠ 40 → L33 k = L32 k := fun k h => by rw [hL33]; exact va_up_ne _ _ h
  have hy33 : L33 40 = (sd_P (dA 5) 8 (va_up (va_up (va_up (fun _ => none) 0 (some 43)) 1 (some 48)) 2 (some 53))) := by rw [hL33]; exact va_up_self _ _ _
  have hl33 : sd_loc 58 L33 := by rw [hL33]; exact sd_loc_at hl32 (sd_P_loc (sd_Pl_up (sd_Pl_up (sd_Pl_up sd_Pl_none (by omega)) (by omega)) (by omega)))
  clear hL33
  replace hlo : L33 0 = sd_O 0 [some (some 1), some (some 25), some (some 30), some (some 35), some (some 40), some (some 41), some (some 42), none, none, none, none, none] := (hn33 0 (by omega)).trans hlo
  replace hs2 : isC 58 L33 dA := hs2.cg (by omega) (fun k h1 h2 => hn33 k (by omega))
  replace hs5 : isS 58 L33 dA 25 := hs5.cg (by omega) (fun k h1 h2 => hn33 k (by omega))
  replace hs8 : isS 58 L33 dA 30 := hs8.cg (by omega) (fun k h1 h2 => hn33 k (by omega))
  replace hs11 : isS 58 L33 dA 35 := hs11.cg (by omega) (fun k h1 h2 => hn33 k (by omega))
  replace hy15 : L33 41 = (sd_P (dA 6) 3 (fun _ => none)) := (hn33 41 (by omega)).trans hy15
  replace hy17 : L33 42 = sd_O 4 [none, none, none, none] := (hn33 42 (by omega)).trans hy17
  replace ht18 : isT 58 L33 42 := ⟨Nat.lt_of_lt_of_le ht18.1 (by omega), (hn33 42 (by omega)).trans ht18.2⟩
  replace hfS : ∀ j, j < 3 → isS 58 L33 dA (43 + 5 * j) := fun j hj => (hfS j hj).cg (by omega) (fun k h1 h2 => hn33 k (by omega))
  refine x_iinc 1 0 [(1, .int 3), (0, .ref 0)] d_D_init_122 rfl (by decide) (by decide) rfl ?_
  refine x_goto 103 d_D_init_125 rfl ?_
  refine x_iload_n 1 0 d_D_init_103 rfl rfl ?_
  refine x_bipush (v := 8) d_D_init_104 (by decide) ?_
  refine x_icmp_ge 128 d_D_init_106 rfl (fun hc => absurd hc (by decide)) (fun _ => ?_)
  refine x_aload_n 0 1 d_D_init_109 rfl rfl ?_
  refine x_getr 4 40 d_D_init_110 (by omega) hlo rfl rfl (by decide) lay_D (List.mem_cons_of_mem _ q254) rfl ?_
  refine x_iload_n 1 0 d_D_init_113 rfl rfl ?_
  refine x_new (rc := 57) (rs := 3261) (n := 58) [some none, some none, some none, some none] hA32 hl33 (List.forall_mem_cons.mpr ⟨sd_bel_i, List.forall_mem_cons.mpr ⟨(sd_bel_r (by omega)), fun _ h => absurd h List.not_mem_nil⟩⟩) (List.forall_mem_cons.mpr ⟨sd_bel_i, List.forall_mem_cons.mpr ⟨(sd_bel_r (by omega)), fun _ h => absurd h List.not_mem_nil⟩⟩) d_D_init_114 (ci := 2) (N := 4) (C := "SettingsDesk$Settings") (T := T_S) rfl ty_S ty_S_ok lay_S (List.mem_cons_of_mem _ q623) (List.mem_cons_of_mem _ q602) (List.mem_cons_of_mem _ q7) (sd_nr rfl) (by decide +kernel) rfl rfl (fun ad34 L34 M34 hA34 hl34 hu34 hy34 hq34 e34 => ?_)
  replace hw := hw M34 e34
  clear e34
  replace hlo : L34 0 = sd_O 0 [some (some 1), some (some 25), some (some 30), some (some 35), some (some 40), some (some 41), some (some 42), none, none, none, none, none] := (hu34.2 0 (by omega)).trans hlo
  replace hs2 : isC 59 L34 dA := hs2.cg (by omega) (fun k h1 h2 => hu34.2 k (by omega))
  replace hs5 : isS 59 L34 dA 25 := hs5.cg (by omega) (fun k h1 h2 => hu34.2 k (by omega))
  replace hs8 : isS 59 L34 dA 30 := hs8.cg (by omega) (fun k h1 h2 => hu34.2 k (by omega))
  replace hs11 : isS 59 L34 dA 35 := hs11.cg (by omega) (fun k h1 h2 => hu34.2 k (by omega))
  replace hy15 : L34 41 = (sd_P (dA 6) 3 (fun _ => none)) := (hu34.2 41 (by omega)).trans hy15
  replace hy17 : L34 42 = sd_O 4 [none, none, none, none] := (hu34.2 42 (by omega)).trans hy17
  replace ht18 : isT 59 L34 42 := ⟨Nat.lt_of_lt_of_le ht18.1 (by omega), (hu34.2 42 (by omega)).trans ht18.2⟩
  replace hfS : ∀ j, j < 3 → isS 59 L34 dA (43 + 5 * j) := fun j hj => (hfS j hj).cg (by omega) (fun k h1 h2 => hu34.2 k (by omega))
  replace hy33 : L34 40 = (sd_P (dA 5) 8 (va_up (va_up (va_up (fun _ => none) 0 (some 43)) 1 (some 48)) 2 (some 53))) := (hu34.2 40 (by omega)).trans hy33
  refine x_dup d_D_init_117 rfl ?_
  refine x_callIg (As := []) (t := 58) (rest := [.ref 58, .int 3, .ref 40]) (rc := 53) (rs := 2969) (na := 0) (host := "SettingsDesk") (c_S_init (o := 58) hA34 hT hl34 hy34 hw) (sd_goodB q603) ⟨_, rfl⟩ (List.mem_cons_of_mem _ q7) (List.mem_cons_of_mem _ q604) (Or.inl (List.mem_cons_of_mem _ q624)) ⟨rfl, by decide, by decide, by decide +kernel⟩ ⟨rfl, rfl, rfl, rfl⟩ ⟨by decide, by decide⟩ d_D_init_118 rfl rfl (Nat.le_of_ble_eq_true rfl) (fun _ _ h => h) (fun v M35 H35 hq9 hF9 => ?_)
  obtain ⟨ad35, L35, hq35, hA35, hl35, hk35, hs35, hH35⟩ := hF9
  refine ⟨hq9.1, 63, ad35, L35, hH35, sd_l_ext hq35 (List.forall_mem_cons.mpr ⟨sd_bel_i, List.forall_mem_cons.mpr ⟨(sd_bel_r (by omega)), fun _ h => absurd h List.not_mem_nil⟩⟩), sd_map_ext hq35 (List.forall_mem_cons.mpr ⟨(sd_bel_r (by omega)), List.forall_mem_cons.mpr ⟨sd_bel_i, List.forall_mem_cons.mpr ⟨(sd_bel_r (by omega)), fun _ h => absurd h List.not_mem_nil⟩⟩⟩), ?_⟩
  have hw := hq9.2
  clear hq9
  clear hH35
  replace hlo : L35 0 = sd_O 0 [some (some 1), some (some 25), some (some 30), some (some 35), some (some 40), some (some 41), some (some 42), none, none, none, none, none] := (hk35 0 (by omega)).trans hlo
  replace hs2 : isC 63 L35 dA := hs2.cg (by omega) (fun k h1 h2 => hk35 k (by omega))
  replace hs5 : isS 63 L35 dA 25 := hs5.cg (by omega) (fun k h1 h2 => hk35 k (by omega))
  replace hs8 : isS 63 L35 dA 30 := hs8.cg (by omega) (fun k h1 h2 => hk35 k (by omega))
  replace hs11 : isS 63 L35 dA 35 := hs11.cg (by omega) (fun k h1 h2 => hk35 k (by omega))
  replace hy15 : L35 41 = (sd_P (dA 6) 3 (fun _ => none)) := (hk35 41 (by omega)).trans hy15
  replace hy17 : L35 42 = sd_O 4 [none, none, none, none] := (hk35 42 (by omega)).trans hy17
  replace ht18 : isT 63 L35 42 := ⟨Nat.lt_of_lt_of_le ht18.1 (by omega), (hk35 42 (by omega)).trans ht18.2⟩
  replace hfS : ∀ j, j < 3 → isS 63 L35 dA (43 + 5 * j) := fun j hj => (hfS j hj).cg (by omega) (fun k h1 h2 => hk35 k (by omega))
  replace hy33 : L35 40 = (sd_P (dA 5) 8 (va_up (va_up (va_up (fun _ => none) 0 (some 43)) 1 (some 48)) 2 (some 53))) := (hk35 40 (by omega)).trans hy33
  replace hfS : ∀ j, j < 4 → isS 63 L35 dA (43 + 5 * j) := fun j hj => by
    by_cases h9 : j = 3
    · subst h9; exact hs35
    · exact hfS j (by omega)
  refine x_aast (t0 := 5) (u := 58) hA35 d_D_init_121 (by omega) hy33 (by omega) (hfS 3 (by decide)).2.1 rfl rfl (vp_in_nI (n := 3) (N := 8) (by decide) (by decide)) ?_
  obtain ⟨L36, hL36⟩ : ∃ z, z = va_up L35 40 (sd_P (dA 5) 8 (va_up (va_up (va_up (va_up (fun _ => none) 0 (some 43)) 1 (some 48)) 2 (some 53)) 3 (some 58))) := ⟨_, rfl⟩
  show sdW l (sdE0 sc) Y_D_init D (sd_tys dA) b _ _ (va_up L35 40 (sd_P (dA 5) 8 (va_up (va_up (va_up (va_up (fun _ => none) 0 (some 43)) 1 (some 48)) 2 (some 53)) 3 (some 58)))) ad _ _ _ _ _ _ _ _ _
  rw [← hL36]
  have hn36 : ∀ k, k ≠ 40 → L36 k = L35 k := fun k h => by rw [hL36]; exact va_up_ne _ _ h
  have hy36 : L36 40 = (sd_P (dA 5) 8 (va_up (va_up (va_up (va_up (fun _ => none) 0 (some 43)) 1 (some 48)) 2 (some 53)) 3 (some 58))) := by rw [hL36]; exact va_up_self _ _ _
  have hl36 : sd_loc 63 L36 := by rw [hL36]; exact sd_loc_at hl35 (sd_P_loc (sd_Pl_up (sd_Pl_up (sd_Pl_up (sd_Pl_up sd_Pl_none (by omega)) (by omega)) (by omega)) (by omega)))
  clear hL36
  replace hlo : L36 0 = sd_O 0 [some (some 1), some (some 25), some (some 30), some (some 35), some (some 40), some (some 41), some (some 42), none, none, none, none, none] := (hn36 0 (by omega)).trans hlo
  replace hs2 : isC 63 L36 dA := hs2.cg (by omega) (fun k h1 h2 => hn36 k (by omega))
  replace hs5 : isS 63 L36 dA 25 := hs5.cg (by omega) (fun k h1 h2 => hn36 k (by omega))
  replace hs8 : isS 63 L36 dA 30 := hs8.cg (by omega) (fun k h1 h2 => hn36 k (by omega))
  replace hs11 : isS 63 L36 dA 35 := hs11.cg (by omega) (fun k h1 h2 => hn36 k (by omega))
  replace hy15 : L36 41 = (sd_P (dA 6) 3 (fun _ => none)) := (hn36 41 (by omega)).trans hy15
  replace hy17 : L36 42 = sd_O 4 [none, none, none, none] := (hn36 42 (by omega)).trans hy17
  replace ht18 : isT 63 L36 42 := ⟨Nat.lt_of_lt_of_le ht18.1 (by omega), (hn36 42 (by omega)).trans ht18.2⟩
  replace hfS : ∀ j, j < 4 → isS 63 L36 dA (43 + 5 * j) := fun j hj => (hfS j hj).cg (by omega) (fun k h1 h2 => hn36 k (by omega))
  refine x_iinc 1 0 [(1, .int 4), (0, .ref 0)] d_D_init_122 rfl (by decide) (by decide) rfl ?_
  refine x_goto 103 d_D_init_125 rfl ?_
  refine x_iload_n 1 0 d_D_init_103 rfl rfl ?_
  refine x_bipush (v := 8) d_D_init_104 (by decide) ?_
  refine x_icmp_ge 128 d_D_init_106 rfl (fun hc => absurd hc (by decide)) (fun _ => ?_)
  refine x_aload_n 0 1 d_D_init_109 rfl rfl ?_
  refine x_getr 4 40 d_D_init_110 (by omega) hlo rfl rfl (by decide) lay_D (List.mem_cons_of_mem _ q254) rfl ?_
  refine x_iload_n 1 0 d_D_init_113 rfl rfl ?_
  refine x_new (rc := 52) (rs := 2965) (n := 63) [some none, some none, some none, some none] hA35 hl36 (List.forall_mem_cons.mpr ⟨sd_bel_i, List.forall_mem_cons.mpr ⟨(sd_bel_r (by omega)), fun _ h => absurd h List.not_mem_nil⟩⟩) (List.forall_mem_cons.mpr ⟨sd_bel_i, List.forall_mem_cons.mpr ⟨(sd_bel_r (by omega)), fun _ h => absurd h List.not_mem_nil⟩⟩) d_D_init_114 (ci := 2) (N := 4) (C := "SettingsDesk$Settings") (T := T_S) rfl ty_S ty_S_ok lay_S (List.mem_cons_of_mem _ q623) (List.mem_cons_of_mem _ q602) (List.mem_cons_of_mem _ q7) (sd_nr rfl) (by decide +kernel) rfl rfl (fun ad37 L37 M37 hA37 hl37 hu37 hy37 hq37 e37 => ?_)
  replace hw := hw M37 e37
  clear e37
  replace hlo : L37 0 = sd_O 0 [some (some 1), some (some 25), some (some 30), some (some 35), some (some 40), some (some 41), some (some 42), none, none, none, none, none] := (hu37.2 0 (by omega)).trans hlo
  replace hs2 : isC 64 L37 dA := hs2.cg (by omega) (fun k h1 h2 => hu37.2 k (by omega))
  replace hs5 : isS 64 L37 dA 25 := hs5.cg (by omega) (fun k h1 h2 => hu37.2 k (by omega))
  replace hs8 : isS 64 L37 dA 30 := hs8.cg (by omega) (fun k h1 h2 => hu37.2 k (by omega))
  replace hs11 : isS 64 L37 dA 35 := hs11.cg (by omega) (fun k h1 h2 => hu37.2 k (by omega))
  replace hy15 : L37 41 = (sd_P (dA 6) 3 (fun _ => none)) := (hu37.2 41 (by omega)).trans hy15
  replace hy17 : L37 42 = sd_O 4 [none, none, none, none] := (hu37.2 42 (by omega)).trans hy17
  replace ht18 : isT 64 L37 42 := ⟨Nat.lt_of_lt_of_le ht18.1 (by omega), (hu37.2 42 (by omega)).trans ht18.2⟩
  replace hfS : ∀ j, j < 4 → isS 64 L37 dA (43 + 5 * j) := fun j hj => (hfS j hj).cg (by omega) (fun k h1 h2 => hu37.2 k (by omega))
  replace hy36 : L37 40 = (sd_P (dA 5) 8 (va_up (va_up (va_up (va_up (fun _ => none) 0 (some 43)) 1 (some 48)) 2 (some 53)) 3 (some 58))) := (hu37.2 40 (by omega)).trans hy36
  refine x_dup d_D_init_117 rfl ?_
  refine x_callIg (As := []) (t := 63) (rest := [.ref 63, .int 4, .ref 40]) (rc := 48) (rs := 2673) (na := 0) (host := "SettingsDesk") (c_S_init (o := 63) hA37 hT hl37 hy37 hw) (sd_goodB q603) ⟨_, rfl⟩ (List.mem_cons_of_mem _ q7) (List.mem_cons_of_mem _ q604) (Or.inl (List.mem_cons_of_mem _ q624)) ⟨rfl, by decide, by decide, by decide +kernel⟩ ⟨rfl, rfl, rfl, rfl⟩ ⟨by decide, by decide⟩ d_D_init_118 rfl rfl (Nat.le_of_ble_eq_true rfl) (fun _ _ h => h) (fun v M38 H38 hq9 hF9 => ?_)
  obtain ⟨ad38, L38, hq38, hA38, hl38, hk38, hs38, hH38⟩ := hF9
  refine ⟨hq9.1, 68, ad38, L38, hH38, sd_l_ext hq38 (List.forall_mem_cons.mpr ⟨sd_bel_i, List.forall_mem_cons.mpr ⟨(sd_bel_r (by omega)), fun _ h => absurd h List.not_mem_nil⟩⟩), sd_map_ext hq38 (List.forall_mem_cons.mpr ⟨(sd_bel_r (by omega)), List.forall_mem_cons.mpr ⟨sd_bel_i, List.forall_mem_cons.mpr ⟨(sd_bel_r (by omega)), fun _ h => absurd h List.not_mem_nil⟩⟩⟩), ?_⟩
  have hw := hq9.2
  clear hq9
  clear hH38
  replace hlo : L38 0 = sd_O 0 [some (some 1), some (some 25), some (some 30), some (some 35), some (some 40), some (some 41), some (some 42), none, none, none, none, none] := (hk38 0 (by omega)).trans hlo
  replace hs2 : isC 68 L38 dA := hs2.cg (by omega) (fun k h1 h2 => hk38 k (by omega))
  replace hs5 : isS 68 L38 dA 25 := hs5.cg (by omega) (fun k h1 h2 => hk38 k (by omega))
  replace hs8 : isS 68 L38 dA 30 := hs8.cg (by omega) (fun k h1 h2 => hk38 k (by omega))
  replace hs11 : isS 68 L38 dA 35 := hs11.cg (by omega) (fun k h1 h2 => hk38 k (by omega))
  replace hy15 : L38 41 = (sd_P (dA 6) 3 (fun _ => none)) := (hk38 41 (by omega)).trans hy15
  replace hy17 : L38 42 = sd_O 4 [none, none, none, none] := (hk38 42 (by omega)).trans hy17
  replace ht18 : isT 68 L38 42 := ⟨Nat.lt_of_lt_of_le ht18.1 (by omega), (hk38 42 (by omega)).trans ht18.2⟩
  replace hfS : ∀ j, j < 4 → isS 68 L38 dA (43 + 5 * j) := fun j hj => (hfS j hj).cg (by omega) (fun k h1 h2 => hk38 k (by omega))
  replace hy36 : L38 40 = (sd_P (dA 5) 8 (va_up (va_up (va_up (va_up (fun _ => none) 0 (some 43)) 1 (some 48)) 2 (some 53)) 3 (some 58))) := (hk38 40 (by omega)).trans hy36
  replace hfS : ∀ j, j < 5 → isS 68 L38 dA (43 + 5 * j) := fun j hj => by
    by_cases h9 : j = 4
    · subst h9; exact hs38
    · exact hfS j (by omega)
  refine x_aast (t0 := 5) (u := 63) hA38 d_D_init_121 (by omega) hy36 (by omega) (hfS 4 (by decide)).2.1 rfl rfl (vp_in_nI (n := 4) (N := 8) (by decide) (by decide)) ?_
  obtain ⟨L39, hL39⟩ : ∃ z, z = va_up L38 40 (sd_P (dA 5) 8 (va_up (va_up (va_up (va_up (va_up (fun _ => none) 0 (some 43)) 1 (some 48)) 2 (some 53)) 3 (some 58)) 4 (some 63))) := ⟨_, rfl⟩
  show sdW l (sdE0 sc) Y_D_init D (sd_tys dA) b _ _ (va_up L38 40 (sd_P (dA 5) 8 (va_up (va_up (va_up (va_up (va_up (fun _ => none) 0 (some 43)) 1 (some 48)) 2 (some 53)) 3 (some 58)) 4 (some 63)))) ad _ _ _ _ _ _ _ _ _
  rw [← hL39]
  have hn39 : ∀ k, k ≠ 40 → L39 k = L38 k := fun k h => by rw [hL39]; exact va_up_ne _ _ h
  have hy39 : L39 40 = (sd_P (dA 5) 8 (va_up (va_up (va_up (va_up (va_up (fun _ => none) 0 (some 43)) 1 (some 48)) 2 (some 53)) 3 (some 58)) 4 (some 63))) := by rw [hL39]; exact va_up_self _ _ _
  have hl39 : sd_loc 68 L39 := by rw [hL39]; exact sd_loc_at hl38 (sd_P_loc (sd_Pl_up (sd_Pl_up (sd_Pl_up (sd_Pl_up (sd_Pl_up sd_Pl_none (by omega)) (by omega)) (by omega)) (by omega)) (by omega)))
  clear hL39
  replace hlo : L39 0 = sd_O 0 [some (some 1), some (some 25), some (some 30), some (some 35), some (some 40), some (some 41), some (some 42), none, none, none, none, none] := (hn39 0 (by omega)).trans hlo
  replace hs2 : isC 68 L39 dA := hs2.cg (by omega) (fun k h1 h2 => hn39 k (by omega))
  replace hs5 : isS 68 L39 dA 25 := hs5.cg (by omega) (fun k h1 h2 => hn39 k (by omega))
  replace hs8 : isS 68 L39 dA 30 := hs8.cg (by omega) (fun k h1 h2 => hn39 k (by omega))
  replace hs11 : isS 68 L39 dA 35 := hs11.cg (by omega) (fun k h1 h2 => hn39 k (by omega))
  replace hy15 : L39 41 = (sd_P (dA 6) 3 (fun _ => none)) := (hn39 41 (by omega)).trans hy15
  replace hy17 : L39 42 = sd_O 4 [none, none, none, none] := (hn39 42 (by omega)).trans hy17
  replace ht18 : isT 68 L39 42 := ⟨Nat.lt_of_lt_of_le ht18.1 (by omega), (hn39 42 (by omega)).trans ht18.2⟩
  replace hfS : ∀ j, j < 5 → isS 68 L39 dA (43 + 5 * j) := fun j hj => (hfS j hj).cg (by omega) (fun k h1 h2 => hn39 k (by omega))
  refine x_iinc 1 0 [(1, .int 5), (0, .ref 0)] d_D_init_122 rfl (by decide) (by decide) rfl ?_
  refine x_goto 103 d_D_init_125 rfl ?_
  refine x_iload_n 1 0 d_D_init_103 rfl rfl ?_
  refine x_bipush (v := 8) d_D_init_104 (by decide) ?_
  refine x_icmp_ge 128 d_D_init_106 rfl (fun hc => absurd hc (by decide)) (fun _ => ?_)
  refine x_aload_n 0 1 d_D_init_109 rfl rfl ?_
  refine x_getr 4 40 d_D_init_110 (by omega) hlo rfl rfl (by decide) lay_D (List.mem_cons_of_mem _ q254) rfl ?_
  refine x_iload_n 1 0 d_D_init_113 rfl rfl ?_
  refine x_new (rc := 47) (rs := 2669) (n := 68) [some none, some none, some none, some none] hA38 hl39 (List.forall_mem_cons.mpr ⟨sd_bel_i, List.forall_mem_cons.mpr ⟨(sd_bel_r (by omega)), fun _ h => absurd h List.not_mem_nil⟩⟩) (List.forall_mem_cons.mpr ⟨sd_bel_i, List.forall_mem_cons.mpr ⟨(sd_bel_r (by omega)), fun _ h => absurd h List.not_mem_nil⟩⟩) d_D_init_114 (ci := 2) (N := 4) (C := "SettingsDesk$Settings") (T := T_S) rfl ty_S ty_S_ok lay_S (List.mem_cons_of_mem _ q623) (List.mem_cons_of_mem _ q602) (List.mem_cons_of_mem _ q7) (sd_nr rfl) (by decide +kernel) rfl rfl (fun ad40 L40 M40 hA40 hl40 hu40 hy40 hq40 e40 => ?_)
  replace hw := hw M40 e40
  clear e40
  replace hlo : L40 0 = sd_O 0 [some (some 1), some (some 25), some (some 30), some (some 35), some (some 40), some (some 41), some (some 42), none, none, none, none, none] := (hu40.2 0 (by omega)).trans hlo
  replace hs2 : isC 69 L40 dA := hs2.cg (by omega) (fun k h1 h2 => hu40.2 k (by omega))
  replace hs5 : isS 69 L40 dA 25 := hs5.cg (by omega) (fun k h1 h2 => hu40.2 k (by omega))
  replace hs8 : isS 69 L40 dA 30 := hs8.cg (by omega) (fun k h1 h2 => hu40.2 k (by omega))
  replace hs11 : isS 69 L40 dA 35 := hs11.cg (by omega) (fun k h1 h2 => hu40.2 k (by omega))
  replace hy15 : L40 41 = (sd_P (dA 6) 3 (fun _ => none)) := (hu40.2 41 (by omega)).trans hy15
  replace hy17 : L40 42 = sd_O 4 [none, none, none, none] := (hu40.2 42 (by omega)).trans hy17
  replace ht18 : isT 69 L40 42 := ⟨Nat.lt_of_lt_of_le ht18.1 (by omega), (hu40.2 42 (by omega)).trans ht18.2⟩
  replace hfS : ∀ j, j < 5 → isS 69 L40 dA (43 + 5 * j) := fun j hj => (hfS j hj).cg (by omega) (fun k h1 h2 => hu40.2 k (by omega))
  replace hy39 : L40 40 = (sd_P (dA 5) 8 (va_up (va_up (va_up (va_up (va_up (fun _ => none) 0 (some 43)) 1 (some 48)) 2 (some 53)) 3 (some 58)) 4 (some 63))) := (hu40.2 40 (by omega)).trans hy39
  refine x_dup d_D_init_117 rfl ?_
  refine x_callIg (As := []) (t := 68) (rest := [.ref 68, .int 5, .ref 40]) (rc := 43) (rs := 2377) (na := 0) (host := "SettingsDesk") (c_S_init (o := 68) hA40 hT hl40 hy40 hw) (sd_goodB q603) ⟨_, rfl⟩ (List.mem_cons_of_mem _ q7) (List.mem_cons_of_mem _ q604) (Or.inl (List.mem_cons_of_mem _ q624)) ⟨rfl, by decide, by decide, by decide +kernel⟩ ⟨rfl, rfl, rfl, rfl⟩ ⟨by decide, by decide⟩ d_D_init_118 rfl rfl (Nat.le_of_ble_eq_true rfl) (fun _ _ h => h) (fun v M41 H41 hq9 hF9 => ?_)
  obtain ⟨ad41, L41, hq41, hA41, hl41, hk41, hs41, hH41⟩ := hF9
  refine ⟨hq9.1, 73, ad41, L41, hH41, sd_l_ext hq41 (List.forall_mem_cons.mpr ⟨sd_bel_i, List.forall_mem_cons.mpr ⟨(sd_bel_r (by omega)), fun _ h => absurd h List.not_mem_nil⟩⟩), sd_map_ext hq41 (List.forall_mem_cons.mpr ⟨(sd_bel_r (by omega)), List.forall_mem_cons.mpr ⟨sd_bel_i, List.forall_mem_cons.mpr ⟨(sd_bel_r (by omega)), fun _ h => absurd h List.not_mem_nil⟩⟩⟩), ?_⟩
  have hw := hq9.2
  clear hq9
  clear hH41
  replace hlo : L41 0 = sd_O 0 [some (some 1), some (some 25), some (some 30), some (some 35), some (some 40), some (some 41), some (some 42), none, none, none, none, none] := (hk41 0 (by omega)).trans hlo
  replace hs2 : isC 73 L41 dA := hs2.cg (by omega) (fun k h1 h2 => hk41 k (by omega))
  replace hs5 : isS 73 L41 dA 25 := hs5.cg (by omega) (fun k h1 h2 => hk41 k (by omega))
  replace hs8 : isS 73 L41 dA 30 := hs8.cg (by omega) (fun k h1 h2 => hk41 k (by omega))
  replace hs11 : isS 73 L41 dA 35 := hs11.cg (by omega) (fun k h1 h2 => hk41 k (by omega))
  replace hy15 : L41 41 = (sd_P (dA 6) 3 (fun _ => none)) := (hk41 41 (by omega)).trans hy15
  replace hy17 : L41 42 = sd_O 4 [none, none, none, none] := (hk41 42 (by omega)).trans hy17
  replace ht18 : isT 73 L41 42 := ⟨Nat.lt_of_lt_of_le ht18.1 (by omega), (hk41 42 (by omega)).trans ht18.2⟩
  replace hfS : ∀ j, j < 5 → isS 73 L41 dA (43 + 5 * j) := fun j hj => (hfS j hj).cg (by omega) (fun k h1 h2 => hk41 k (by omega))
  replace hy39 : L41 40 = (sd_P (dA 5) 8 (va_up (va_up (va_up (va_up (va_up (fun _ => none) 0 (some 43)) 1 (some 48)) 2 (some 53)) 3 (some 58)) 4 (some 63))) := (hk41 40 (by omega)).trans hy39
  replace hfS : ∀ j, j < 6 → isS 73 L41 dA (43 + 5 * j) := fun j hj => by
    by_cases h9 : j = 5
    · subst h9; exact hs41
    · exact hfS j (by omega)
  refine x_aast (t0 := 5) (u := 68) hA41 d_D_init_121 (by omega) hy39 (by omega) (hfS 5 (by decide)).2.1 rfl rfl (vp_in_nI (n := 5) (N := 8) (by decide) (by decide)) ?_
  obtain ⟨L42, hL42⟩ : ∃ z, z = va_up L41 40 (sd_P (dA 5) 8 (va_up (va_up (va_up (va_up (va_up (va_up (fun _ => none) 0 (some 43)) 1 (some 48)) 2 (some 53)) 3 (some 58)) 4 (some 63)) 5 (some 68))) := ⟨_, rfl⟩
  show sdW l (sdE0 sc) Y_D_init D (sd_tys dA) b _ _ (va_up L41 40 (sd_P (dA 5) 8 (va_up (va_up (va_up (va_up (va_up (va_up (fun _ => none) 0 (some 43)) 1 (some 48)) 2 (some 53)) 3 (some 58)) 4 (some 63)) 5 (some 68)))) ad _ _ _ _ _ _ _ _ _
  rw [← hL42]
  have hn42 : ∀ k, k ≠ 40 → L42 k = L41 k := fun k h => by rw [hL42]; exact va_up_ne _ _ h
  have hy42 : L42 40 = (sd_P (dA 5) 8 (va_up (va_up (va_up (va_up (va_up (va_up (fun _ => none) 0 (some 43)) 1 (some 48)) 2 (some 53)) 3 (some 58)) 4 (some 63)) 5 (some 68))) := by rw [hL42]; exact va_up_self _ _ _
  have hl42 : sd_loc 73 L42 := by rw [hL42]; exact sd_loc_at hl41 (sd_P_loc (sd_Pl_up (sd_Pl_up (sd_Pl_up (sd_Pl_up (sd_Pl_up (sd_Pl_up sd_Pl_none (by omega)) (by omega)) (by omega)) (by omega)) (by omega)) (by omega)))
  clear hL42
  replace hlo : L42 0 = sd_O 0 [some (some 1), some (some 25), some (some 30), some (some 35), some (some 40), some (some 41), some (some 42), none, none, none, none, none] := (hn42 0 (by omega)).trans hlo
  replace hs2 : isC 73 L42 dA := hs2.cg (by omega) (fun k h1 h2 => hn42 k (by omega))
  replace hs5 : isS 73 L42 dA 25 := hs5.cg (by omega) (fun k h1 h2 => hn42 k (by omega))
  replace hs8 : isS 73 L42 dA 30 := hs8.cg (by omega) (fun k h1 h2 => hn42 k (by omega))
  replace hs11 : isS 73 L42 dA 35 := hs11.cg (by omega) (fun k h1 h2 => hn42 k (by omega))
  replace hy15 : L42 41 = (sd_P (dA 6) 3 (fun _ => none)) := (hn42 41 (by omega)).trans hy15
  replace hy17 : L42 42 = sd_O 4 [none, none, none, none] := (hn42 42 (by omega)).trans hy17
  replace ht18 : isT 73 L42 42 := ⟨Nat.lt_of_lt_of_le ht18.1 (by omega), (hn42 42 (by omega)).trans ht18.2⟩
  replace hfS : ∀ j, j < 6 → isS 73 L42 dA (43 + 5 * j) := fun j hj => (hfS j hj).cg (by omega) (fun k h1 h2 => hn42 k (by omega))
  refine x_iinc 1 0 [(1, .int 6), (0, .ref 0)] d_D_init_122 rfl (by decide) (by decide) rfl ?_
  refine x_goto 103 d_D_init_125 rfl ?_
  refine x_iload_n 1 0 d_D_init_103 rfl rfl ?_
  refine x_bipush (v := 8) d_D_init_104 (by decide) ?_
  refine x_icmp_ge 128 d_D_init_106 rfl (fun hc => absurd hc (by decide)) (fun _ => ?_)
  refine x_aload_n 0 1 d_D_init_109 rfl rfl ?_
  refine x_getr 4 40 d_D_init_110 (by omega) hlo rfl rfl (by decide) lay_D (List.mem_cons_of_mem _ q254) rfl ?_
  refine x_iload_n 1 0 d_D_init_113 rfl rfl ?_
  refine x_new (rc := 42) (rs := 2373) (n := 73) [some none, some none, some none, some none] hA41 hl42 (List.forall_mem_cons.mpr ⟨sd_bel_i, List.forall_mem_cons.mpr ⟨(sd_bel_r (by omega)), fun _ h => absurd h List.not_mem_nil⟩⟩) (List.forall_mem_cons.mpr ⟨sd_bel_i, List.forall_mem_cons.mpr ⟨(sd_bel_r (by omega)), fun _ h => absurd h List.not_mem_nil⟩⟩) d_D_init_114 (ci := 2) (N := 4) (C := "SettingsDesk$Settings") (T := T_S) rfl ty_S ty_S_ok lay_S (List.mem_cons_of_mem _ q623) (List.mem_cons_of_mem _ q602) (List.mem_cons_of_mem _ q7) (sd_nr rfl) (by decide +kernel) rfl rfl (fun ad43 L43 M43 hA43 hl43 hu43 hy43 hq43 e43 => ?_)
  replace hw := hw M43 e43
  clear e43
  replace hlo : L43 0 = sd_O 0 [some (some 1), some (some 25), some (some 30), some (some 35), some (some 40), some (some 41), some (some 42), none, none, none, none, none] := (hu43.2 0 (by omega)).trans hlo
  replace hs2 : isC 74 L43 dA := hs2.cg (by omega) (fun k h1 h2 => hu43.2 k (by omega))
  replace hs5 : isS 74 L43 dA 25 := hs5.cg (by omega) (fun k h1 h2 => hu43.2 k (by omega))
  replace hs8 : isS 74 L43 dA 30 := hs8.cg (by omega) (fun k h1 h2 => hu43.2 k (by omega))
  replace hs11 : isS 74 L43 dA 35 := hs11.cg (by omega) (fun k h1 h2 => hu43.2 k (by omega))
  replace hy15 : L43 41 = (sd_P (dA 6) 3 (fun _ => none)) := (hu43.2 41 (by omega)).trans hy15
  replace hy17 : L43 42 = sd_O 4 [none, none, none, none] := (hu43.2 42 (by omega)).trans hy17
  replace ht18 : isT 74 L43 42 := ⟨Nat.lt_of_lt_of_le ht18.1 (by omega), (hu43.2 42 (by omega)).trans ht18.2⟩
  replace hfS : ∀ j, j < 6 → isS 74 L43 dA (43 + 5 * j) := fun j hj => (hfS j hj).cg (by omega) (fun k h1 h2 => hu43.2 k (by omega))
  replace hy42 : L43 40 = (sd_P (dA 5) 8 (va_up (va_up (va_up (va_up (va_up (va_up (fun _ => none) 0 (some 43)) 1 (some 48)) 2 (some 53)) 3 (some 58)) 4 (some 63)) 5 (some 68))) := (hu43.2 40 (by omega)).trans hy42
  refine x_dup d_D_init_117 rfl ?_
  refine x_callIg (As := []) (t := 73) (rest := [.ref 73, .int 6, .ref 40]) (rc := 38) (rs := 2081) (na := 0) (host := "SettingsDesk") (c_S_init (o := 73) hA43 hT hl43 hy43 hw) (sd_goodB q603) ⟨_, rfl⟩ (List.mem_cons_of_mem _ q7) (List.mem_cons_of_mem _ q604) (Or.inl (List.mem_cons_of_mem _ q624)) ⟨rfl, by decide, by decide, by decide +kernel⟩ ⟨rfl, rfl, rfl, rfl⟩ ⟨by decide, by decide⟩ d_D_init_118 rfl rfl (Nat.le_of_ble_eq_true rfl) (fun _ _ h => h) (fun v M44 H44 hq9 hF9 => ?_)
  obtain ⟨ad44, L44, hq44, hA44, hl44, hk44, hs44, hH44⟩ := hF9
  refine ⟨hq9.1, 78, ad44, L44, hH44, sd_l_ext hq44 (List.forall_mem_cons.mpr ⟨sd_bel_i, List.forall_mem_cons.mpr ⟨(sd_bel_r (by omega)), fun _ h => absurd h List.not_mem_nil⟩⟩), sd_map_ext hq44 (List.forall_mem_cons.mpr ⟨(sd_bel_r (by omega)), List.forall_mem_cons.mpr ⟨sd_bel_i, List.forall_mem_cons.mpr ⟨(sd_bel_r (by omega)), fun _ h => absurd h List.not_mem_nil⟩⟩⟩), ?_⟩
  have hw := hq9.2
  clear hq9
  clear hH44
  replace hlo : L44 0 = sd_O 0 [some (some 1), some (some 25), some (some 30), some (some 35), some (some 40), some (some 41), some (some 42), none, none, none, none, none] := (hk44 0 (by omega)).trans hlo
  replace hs2 : isC 78 L44 dA := hs2.cg (by omega) (fun k h1 h2 => hk44 k (by omega))
  replace hs5 : isS 78 L44 dA 25 := hs5.cg (by omega) (fun k h1 h2 => hk44 k (by omega))
  replace hs8 : isS 78 L44 dA 30 := hs8.cg (by omega) (fun k h1 h2 => hk44 k (by omega))
  replace hs11 : isS 78 L44 dA 35 := hs11.cg (by omega) (fun k h1 h2 => hk44 k (by omega))
  replace hy15 : L44 41 = (sd_P (dA 6) 3 (fun _ => none)) := (hk44 41 (by omega)).trans hy15
  replace hy17 : L44 42 = sd_O 4 [none, none, none, none] := (hk44 42 (by omega)).trans hy17
  replace ht18 : isT 78 L44 42 := ⟨Nat.lt_of_lt_of_le ht18.1 (by omega), (hk44 42 (by omega)).trans ht18.2⟩
  replace hfS : ∀ j, j < 6 → isS 78 L44 dA (43 + 5 * j) := fun j hj => (hfS j hj).cg (by omega) (fun k h1 h2 => hk44 k (by omega))
  replace hy42 : L44 40 = (sd_P (dA 5) 8 (va_up (va_up (va_up (va_up (va_up (va_up (fun _ => none) 0 (some 43)) 1 (some 48)) 2 (some 53)) 3 (some 58)) 4 (some 63)) 5 (some 68))) := (hk44 40 (by omega)).trans hy42
  replace hfS : ∀ j, j < 7 → isS 78 L44 dA (43 + 5 * j) := fun j hj => by
    by_cases h9 : j = 6
    · subst h9; exact hs44
    · exact hfS j (by omega)
  refine x_aast (t0 := 5) (u := 73) hA44 d_D_init_121 (by omega) hy42 (by omega) (hfS 6 (by decide)).2.1 rfl rfl (vp_in_nI (n := 6) (N := 8) (by decide) (by decide)) ?_
  obtain ⟨L45, hL45⟩ : ∃ z, z = va_up L44 40 (sd_P (dA 5) 8 (va_up (va_up (va_up (va_up (va_up (va_up (va_up (fun _ => none) 0 (some 43)) 1 (some 48)) 2 (some 53)) 3 (some 58)) 4 (some 63)) 5 (some 68)) 6 (some 73))) := ⟨_, rfl⟩
  show sdW l (sdE0 sc) Y_D_init D (sd_tys dA) b _ _ (va_up L44 40 (sd_P (dA 5) 8 (va_up (va_up (va_up (va_up (va_up (va_up (va_up (fun _ => none) 0 (some 43)) 1 (some 48)) 2 (some 53)) 3 (some 58)) 4 (some 63)) 5 (some 68)) 6 (some 73)))) ad _ _ _ _ _ _ _ _ _
  rw [← hL45]
  have hn45 : ∀ k, k ≠ 40 → L45 k = L44 k := fun k h => by rw [hL45]; exact va_up_ne _ _ h
  have hy45 : L45 40 = (sd_P (dA 5) 8 (va_up (va_up (va_up (va_up (va_up (va_up (va_up (fun _ => none) 0 (some 43)) 1 (some 48)) 2 (some 53)) 3 (some 58)) 4 (some 63)) 5 (some 68)) 6 (some 73))) := by rw [hL45]; exact va_up_self _ _ _
  have hl45 : sd_loc 78 L45 := by rw [hL45]; exact sd_loc_at hl44 (sd_P_loc (sd_Pl_up (sd_Pl_up (sd_Pl_up (sd_Pl_up (sd_Pl_up (sd_Pl_up (sd_Pl_up sd_Pl_none (by omega)) (by omega)) (by omega)) (by omega)) (by omega)) (by omega)) (by omega)))
  clear hL45
  replace hlo : L45 0 = sd_O 0 [some (some 1), some (some 25), some (some 30), some (some 35), some (some 40), some (some 41), some (some 42), none, none, none, none, none] := (hn45 0 (by omega)).trans hlo
  replace hs2 : isC 78 L45 dA := hs2.cg (by omega) (fun k h1 h2 => hn45 k (by omega))
  replace hs5 : isS 78 L45 dA 25 := hs5.cg (by omega) (fun k h1 h2 => hn45 k (by omega))
  replace hs8 : isS 78 L45 dA 30 := hs8.cg (by omega) (fun k h1 h2 => hn45 k (by omega))
  replace hs11 : isS 78 L45 dA 35 := hs11.cg (by omega) (fun k h1 h2 => hn45 k (by omega))
  replace hy15 : L45 41 = (sd_P (dA 6) 3 (fun _ => none)) := (hn45 41 (by omega)).trans hy15
  replace hy17 : L45 42 = sd_O 4 [none, none, none, none] := (hn45 42 (by omega)).trans hy17
  replace ht18 : isT 78 L45 42 := ⟨Nat.lt_of_lt_of_le ht18.1 (by omega), (hn45 42 (by omega)).trans ht18.2⟩
  replace hfS : ∀ j, j < 7 → isS 78 L45 dA (43 + 5 * j) := fun j hj => (hfS j hj).cg (by omega) (fun k h1 h2 => hn45 k (by omega))
  refine x_iinc 1 0 [(1, .int 7), (0, .ref 0)] d_D_init_122 rfl (by decide) (by decide) rfl ?_
  refine x_goto 103 d_D_init_125 rfl ?_
  refine x_iload_n 1 0 d_D_init_103 rfl rfl ?_
  refine x_bipush (v := 8) d_D_init_104 (by decide) ?_
  refine x_icmp_ge 128 d_D_init_106 rfl (fun hc => absurd hc (by decide)) (fun _ => ?_)
  refine x_aload_n 0 1 d_D_init_109 rfl rfl ?_
  refine x_getr 4 40 d_D_init_110 (by omega) hlo rfl rfl (by decide) lay_D (List.mem_cons_of_mem _ q254) rfl ?_
  refine x_iload_n 1 0 d_D_init_113 rfl rfl ?_
  refine x_new (rc := 37) (rs := 2077) (n := 78) [some none, some none, some none, some none] hA44 hl45 (List.forall_mem_cons.mpr ⟨sd_bel_i, List.forall_mem_cons.mpr ⟨(sd_bel_r (by omega)), fun _ h => absurd h List.not_mem_nil⟩⟩) (List.forall_mem_cons.mpr ⟨sd_bel_i, List.forall_mem_cons.mpr ⟨(sd_bel_r (by omega)), fun _ h => absurd h List.not_mem_nil⟩⟩) d_D_init_114 (ci := 2) (N := 4) (C := "SettingsDesk$Settings") (T := T_S) rfl ty_S ty_S_ok lay_S (List.mem_cons_of_mem _ q623) (List.mem_cons_of_mem _ q602) (List.mem_cons_of_mem _ q7) (sd_nr rfl) (by decide +kernel) rfl rfl (fun ad46 L46 M46 hA46 hl46 hu46 hy46 hq46 e46 => ?_)
  replace hw := hw M46 e46
  clear e46
  replace hlo : L46 0 = sd_O 0 [some (some 1), some (some 25), some (some 30), some (some 35), some (some 40), some (some 41), some (some 42), none, none, none, none, none] := (hu46.2 0 (by omega)).trans hlo
  replace hs2 : isC 79 L46 dA := hs2.cg (by omega) (fun k h1 h2 => hu46.2 k (by omega))
  replace hs5 : isS 79 L46 dA 25 := hs5.cg (by omega) (fun k h1 h2 => hu46.2 k (by omega))
  replace hs8 : isS 79 L46 dA 30 := hs8.cg (by omega) (fun k h1 h2 => hu46.2 k (by omega))
  replace hs11 : isS 79 L46 dA 35 := hs11.cg (by omega) (fun k h1 h2 => hu46.2 k (by omega))
  replace hy15 : L46 41 = (sd_P (dA 6) 3 (fun _ => none)) := (hu46.2 41 (by omega)).trans hy15
  replace hy17 : L46 42 = sd_O 4 [none, none, none, none] := (hu46.2 42 (by omega)).trans hy17
  replace ht18 : isT 79 L46 42 := ⟨Nat.lt_of_lt_of_le ht18.1 (by omega), (hu46.2 42 (by omega)).trans ht18.2⟩
  replace hfS : ∀ j, j < 7 → isS 79 L46 dA (43 + 5 * j) := fun j hj => (hfS j hj).cg (by omega) (fun k h1 h2 => hu46.2 k (by omega))
  replace hy45 : L46 40 = (sd_P (dA 5) 8 (va_up (va_up (va_up (va_up (va_up (va_up (va_up (fun _ => none) 0 (some 43)) 1 (some 48)) 2 (some 53)) 3 (some 58)) 4 (some 63)) 5 (some 68)) 6 (some 73))) := (hu46.2 40 (by omega)).trans hy45
  refine x_dup d_D_init_117 rfl ?_
  refine x_callIg (As := []) (t := 78) (rest := [.ref 78, .int 7, .ref 40]) (rc := 33) (rs := 1785) (na := 0) (host := "SettingsDesk") (c_S_init (o := 78) hA46 hT hl46 hy46 hw) (sd_goodB q603) ⟨_, rfl⟩ (List.mem_cons_of_mem _ q7) (List.mem_cons_of_mem _ q604) (Or.inl (List.mem_cons_of_mem _ q624)) ⟨rfl, by decide, by decide, by decide +kernel⟩ ⟨rfl, rfl, rfl, rfl⟩ ⟨by decide, by decide⟩ d_D_init_118 rfl rfl (Nat.le_of_ble_eq_true rfl) (fun _ _ h => h) (fun v M47 H47 hq9 hF9 => ?_)
  obtain ⟨ad47, L47, hq47, hA47, hl47, hk47, hs47, hH47⟩ := hF9
  refine ⟨hq9.1, 83, ad47, L47, hH47, sd_l_ext hq47 (List.forall_mem_cons.mpr ⟨sd_bel_i, List.forall_mem_cons.mpr ⟨(sd_bel_r (by omega)), fun _ h => absurd h List.not_mem_nil⟩⟩), sd_map_ext hq47 (List.forall_mem_cons.mpr ⟨(sd_bel_r (by omega)), List.forall_mem_cons.mpr ⟨sd_bel_i, List.forall_mem_cons.mpr ⟨(sd_bel_r (by omega)), fun _ h => absurd h List.not_mem_nil⟩⟩⟩), ?_⟩
  have hw := hq9.2
  clear hq9
  clear hH47
  replace hlo : L47 0 = sd_O 0 [some (some 1), some (some 25), some (some 30), some (some 35), some (some 40), some (some 41), some (some 42), none, none, none, none, none] := (hk47 0 (by omega)).trans hlo
  replace hs2 : isC 83 L47 dA := hs2.cg (by omega) (fun k h1 h2 => hk47 k (by omega))
  replace hs5 : isS 83 L47 dA 25 := hs5.cg (by omega) (fun k h1 h2 => hk47 k (by omega))
  replace hs8 : isS 83 L47 dA 30 := hs8.cg (by omega) (fun k h1 h2 => hk47 k (by omega))
  replace hs11 : isS 83 L47 dA 35 := hs11.cg (by omega) (fun k h1 h2 => hk47 k (by omega))
  replace hy15 : L47 41 = (sd_P (dA 6) 3 (fun _ => none)) := (hk47 41 (by omega)).trans hy15
  replace hy17 : L47 42 = sd_O 4 [none, none, none, none] := (hk47 42 (by omega)).trans hy17
  replace ht18 : isT 83 L47 42 := ⟨Nat.lt_of_lt_of_le ht18.1 (by omega), (hk47 42 (by omega)).trans ht18.2⟩
  replace hfS : ∀ j, j < 7 → isS 83 L47 dA (43 + 5 * j) := fun j hj => (hfS j hj).cg (by omega) (fun k h1 h2 => hk47 k (by omega))
  replace hy45 : L47 40 = (sd_P (dA 5) 8 (va_up (va_up (va_up (va_up (va_up (va_up (va_up (fun _ => none) 0 (some 43)) 1 (some 48)) 2 (some 53)) 3 (some 58)) 4 (some 63)) 5 (some 68)) 6 (some 73))) := (hk47 40 (by omega)).trans hy45
  replace hfS : ∀ j, j < 8 → isS 83 L47 dA (43 + 5 * j) := fun j hj => by
    by_cases h9 : j = 7
    · subst h9; exact hs47
    · exact hfS j (by omega)
  refine x_aast (t0 := 5) (u := 78) hA47 d_D_init_121 (by omega) hy45 (by omega) (hfS 7 (by decide)).2.1 rfl rfl (vp_in_nI (n := 7) (N := 8) (by decide) (by decide)) ?_
  obtain ⟨L48, hL48⟩ : ∃ z, z = va_up L47 40 (sd_P (dA 5) 8 (va_up (va_up (va_up (va_up (va_up (va_up (va_up (va_up (fun _ => none) 0 (some 43)) 1 (some 48)) 2 (some 53)) 3 (some 58)) 4 (some 63)) 5 (some 68)) 6 (some 73)) 7 (some 78))) := ⟨_, rfl⟩
  show sdW l (sdE0 sc) Y_D_init D (sd_tys dA) b _ _ (va_up L47 40 (sd_P (dA 5) 8 (va_up (va_up (va_up (va_up (va_up (va_up (va_up (va_up (fun _ => none) 0 (some 43)) 1 (some 48)) 2 (some 53)) 3 (some 58)) 4 (some 63)) 5 (some 68)) 6 (some 73)) 7 (some 78)))) ad _ _ _ _ _ _ _ _ _
  rw [← hL48]
  have hn48 : ∀ k, k ≠ 40 → L48 k = L47 k := fun k h => by rw [hL48]; exact va_up_ne _ _ h
  have hy48 : L48 40 = (sd_P (dA 5) 8 (va_up (va_up (va_up (va_up (va_up (va_up (va_up (va_up (fun _ => none) 0 (some 43)) 1 (some 48)) 2 (some 53)) 3 (some 58)) 4 (some 63)) 5 (some 68)) 6 (some 73)) 7 (some 78))) := by rw [hL48]; exact va_up_self _ _ _
  have hl48 : sd_loc 83 L48 := by rw [hL48]; exact sd_loc_at hl47 (sd_P_loc (sd_Pl_up (sd_Pl_up (sd_Pl_up (sd_Pl_up (sd_Pl_up (sd_Pl_up (sd_Pl_up (sd_Pl_up sd_Pl_none (by omega)) (by omega)) (by omega)) (by omega)) (by omega)) (by omega)) (by omega)) (by omega)))
  clear hL48
  replace hlo : L48 0 = sd_O 0 [some (some 1), some (some 25), some (some 30), some (some 35), some (some 40), some (some 41), some (some 42), none, none, none, none, none] := (hn48 0 (by omega)).trans hlo
  replace hs2 : isC 83 L48 dA := hs2.cg (by omega) (fun k h1 h2 => hn48 k (by omega))
  replace hs5 : isS 83 L48 dA 25 := hs5.cg (by omega) (fun k h1 h2 => hn48 k (by omega))
  replace hs8 : isS 83 L48 dA 30 := hs8.cg (by omega) (fun k h1 h2 => hn48 k (by omega))
  replace hs11 : isS 83 L48 dA 35 := hs11.cg (by omega) (fun k h1 h2 => hn48 k (by omega))
  replace hy15 : L48 41 = (sd_P (dA 6) 3 (fun _ => none)) := (hn48 41 (by omega)).trans hy15
  replace hy17 : L48 42 = sd_O 4 [none, none, none, none] := (hn48 42 (by omega)).trans hy17
  replace ht18 : isT 83 L48 42 := ⟨Nat.lt_of_lt_of_le ht18.1 (by omega), (hn48 42 (by omega)).trans ht18.2⟩
  replace hfS : ∀ j, j < 8 → isS 83 L48 dA (43 + 5 * j) := fun j hj => (hfS j hj).cg (by omega) (fun k h1 h2 => hn48 k (by omega))
  refine x_iinc 1 0 [(1, .int 8), (0, .ref 0)] d_D_init_122 rfl (by decide) (by decide) rfl ?_
  refine x_goto 103 d_D_init_125 rfl ?_
  refine x_iload_n 1 0 d_D_init_103 rfl rfl ?_
  refine x_bipush (v := 8) d_D_init_104 (by decide) ?_
  refine x_icmp_ge 128 d_D_init_106 rfl (fun _ => ?_) (fun hc => absurd (by decide) hc)
  refine x_iconst (v := 0) d_D_init_128 (by decide) ?_
  refine x_istore_n 1 [(1, .int 0), (0, .ref 0)] d_D_init_129 rfl (by decide) rfl ?_
  refine x_iload_n 1 0 d_D_init_130 rfl rfl ?_
  refine x_iconst (v := 3) d_D_init_131 (by decide) ?_
  refine x_icmp_ge 154 d_D_init_132 rfl (fun hc => absurd hc (by decide)) (fun _ => ?_)
  refine x_aload_n 0 1 d_D_init_135 rfl rfl ?_
  refine x_getr 5 41 d_D_init_136 (by omega) hlo rfl rfl (by decide) lay_D (List.mem_cons_of_mem _ q268) rfl ?_
  refine x_iload_n 1 0 d_D_init_139 rfl rfl ?_
  refine x_new (rc := 32) (rs := 1782) (n := 83) [none, some none, some none] hA47 hl48 (List.forall_mem_cons.mpr ⟨sd_bel_i, List.forall_mem_cons.mpr ⟨(sd_bel_r (by omega)), fun _ h => absurd h List.not_mem_nil⟩⟩) (List.forall_mem_cons.mpr ⟨sd_bel_i, List.forall_mem_cons.mpr ⟨(sd_bel_r (by omega)), fun _ h => absurd h List.not_mem_nil⟩⟩) d_D_init_140 (ci := 3) (N := 3) (C := "SettingsDesk$Session") (T := T_N) rfl ty_N ty_N_ok lay_N (List.mem_cons_of_mem _ q625) (List.mem_cons_of_mem _ q626) (List.mem_cons_of_mem _ q354) (sd_nr rfl) (by decide +kernel) rfl rfl (fun ad49 L49 M49 hA49 hl49 hu49 hy49 hq49 e49 => ?_)
  replace hw := hw M49 e49
  clear e49
  replace hlo : L49 0 = sd_O 0 [some (some 1), some (some 25), some (some 30), some (some 35), some (some 40), some (some 41), some (some 42), none, none, none, none, none] := (hu49.2 0 (by omega)).trans hlo
  replace hs2 : isC 84 L49 dA := hs2.cg (by omega) (fun k h1 h2 => hu49.2 k (by omega))
  replace hs5 : isS 84 L49 dA 25 := hs5.cg (by omega) (fun k h1 h2 => hu49.2 k (by omega))
  replace hs8 : isS 84 L49 dA 30 := hs8.cg (by omega) (fun k h1 h2 => hu49.2 k (by omega))
  replace hs11 : isS 84 L49 dA 35 := hs11.cg (by omega) (fun k h1 h2 => hu49.2 k (by omega))
  replace hy15 : L49 41 = (sd_P (dA 6) 3 (fun _ => none)) := (hu49.2 41 (by omega)).trans hy15
  replace hy17 : L49 42 = sd_O 4 [none, none, none, none] := (hu49.2 42 (by omega)).trans hy17
  replace ht18 : isT 84 L49 42 := ⟨Nat.lt_of_lt_of_le ht18.1 (by omega), (hu49.2 42 (by omega)).trans ht18.2⟩
  replace hfS : ∀ j, j < 8 → isS 84 L49 dA (43 + 5 * j) := fun j hj => (hfS j hj).cg (by omega) (fun k h1 h2 => hu49.2 k (by omega))
  replace hy48 : L49 40 = (sd_P (dA 5) 8 (va_up (va_up (va_up (va_up (va_up (va_up (va_up (va_up (fun _ => none) 0 (some 43)) 1 (some 48)) 2 (some 53)) 3 (some 58)) 4 (some 63)) 5 (some 68)) 6 (some 73)) 7 (some 78))) := (hu49.2 40 (by omega)).trans hy48
  refine x_dup d_D_init_143 rfl ?_
  refine x_callIg (As := []) (t := 83) (rest := [.ref 83, .int 0, .ref 41]) (rc := 22) (rs := 1190) (na := 0) (host := "SettingsDesk") (c_N_init (o := 83) hA49 hT hl49 hy49 hw) (sd_goodB q627) ⟨_, rfl⟩ (List.mem_cons_of_mem _ q354) (List.mem_cons_of_mem _ q628) (Or.inr (List.mem_of_getElem? (i := 7) rfl)) ⟨rfl, by decide, by decide, by decide +kernel⟩ ⟨rfl, rfl, rfl, rfl⟩ ⟨by decide, by decide⟩ d_D_init_144 rfl rfl (Nat.le_of_ble_eq_true rfl) (fun _ _ h => h) (fun v M50 H50 hq9 hF9 => ?_)
  obtain ⟨ad50, L50, hq50, hA50, hl50, hk50, hs50, hH50⟩ := hF9
  refine ⟨hq9.1, 94, ad50, L50, hH50, sd_l_ext hq50 (List.forall_mem_cons.mpr ⟨sd_bel_i, List.forall_mem_cons.mpr ⟨(sd_bel_r (by omega)), fun _ h => absurd h List.not_mem_nil⟩⟩), sd_map_ext hq50 (List.forall_mem_cons.mpr ⟨(sd_bel_r (by omega)), List.forall_mem_cons.mpr ⟨sd_bel_i, List.forall_mem_cons.mpr ⟨(sd_bel_r (by omega)), fun _ h => absurd h List.not_mem_nil⟩⟩⟩), ?_⟩
  have hw := hq9.2
  clear hq9
  clear hH50
  replace hlo : L50 0 = sd_O 0 [some (some 1), some (some 25), some (some 30), some (some 35), some (some 40), some (some 41), some (some 42), none, none, none, none, none] := (hk50 0 (by omega)).trans hlo
  replace hs2 : isC 94 L50 dA := hs2.cg (by omega) (fun k h1 h2 => hk50 k (by omega))
  replace hs5 : isS 94 L50 dA 25 := hs5.cg (by omega) (fun k h1 h2 => hk50 k (by omega))
  replace hs8 : isS 94 L50 dA 30 := hs8.cg (by omega) (fun k h1 h2 => hk50 k (by omega))
  replace hs11 : isS 94 L50 dA 35 := hs11.cg (by omega) (fun k h1 h2 => hk50 k (by omega))
  replace hy15 : L50 41 = (sd_P (dA 6) 3 (fun _ => none)) := (hk50 41 (by omega)).trans hy15
  replace hy17 : L50 42 = sd_O 4 [none, none, none, none] := (hk50 42 (by omega)).trans hy17
  replace ht18 : isT 94 L50 42 := ⟨Nat.lt_of_lt_of_le ht18.1 (by omega), (hk50 42 (by omega)).trans ht18.2⟩
  replace hfS : ∀ j, j < 8 → isS 94 L50 dA (43 + 5 * j) := fun j hj => (hfS j hj).cg (by omega) (fun k h1 h2 => hk50 k (by omega))
  replace hy48 : L50 40 = (sd_P (dA 5) 8 (va_up (va_up (va_up (va_up (va_up (va_up (va_up (va_up (fun _ => none) 0 (some 43)) 1 (some 48)) 2 (some 53)) 3 (some 58)) 4 (some 63)) 5 (some 68)) 6 (some 73)) 7 (some 78))) := (hk50 40 (by omega)).trans hy48
  have hfN : ∀ j, j < 1 → isN 94 L50 dA (83 + 11 * j) := fun j hj => by
    have h9 : j = 0 := by omega
    subst h9; exact hs50
  refine x_aast (t0 := 6) (u := 83) hA50 d_D_init_147 (by omega) hy15 (by omega) (hfN 0 (by decide)).2.1 rfl rfl (vp_in_nI (n := 0) (N := 3) (by decide) (by decide)) ?_
  obtain ⟨L51, hL51⟩ : ∃ z, z = va_up L50 41 (sd_P (dA 6) 3 (va_up (fun _ => none) 0 (some 83))) := ⟨_, rfl⟩
  show sdW l (sdE0 sc) Y_D_init D (sd_tys dA) b _ _ (va_up L50 41 (sd_P (dA 6) 3 (va_up (fun _ => none) 0 (some 83)))) ad _ _ _ _ _ _ _ _ _
  rw [← hL51]
  have hn51 : ∀ k, k ≠ 41 → L51 k = L50 k := fun k h => by rw [hL51]; exact va_up_ne _ _ h
  have hy51 : L51 41 = (sd_P (dA 6) 3 (va_up (fun _ => none) 0 (some 83))) := by rw [hL51]; exact va_up_self _ _ _
  have hl51 : sd_loc 94 L51 := by rw [hL51]; exact sd_loc_at hl50 (sd_P_loc (sd_Pl_up sd_Pl_none (by omega)))
  clear hL51
  replace hlo : L51 0 = sd_O 0 [some (some 1), some (some 25), some (some 30), some (some 35), some (some 40), some (some 41), some (some 42), none, none, none, none, none] := (hn51 0 (by omega)).trans hlo
  replace hs2 : isC 94 L51 dA := hs2.cg (by omega) (fun k h1 h2 => hn51 k (by omega))
  replace hs5 : isS 94 L51 dA 25 := hs5.cg (by omega) (fun k h1 h2 => hn51 k (by omega))
  replace hs8 : isS 94 L51 dA 30 := hs8.cg (by omega) (fun k h1 h2 => hn51 k (by omega))
  replace hs11 : isS 94 L51 dA 35 := hs11.cg (by omega) (fun k h1 h2 => hn51 k (by omega))
  replace hy17 : L51 42 = sd_O 4 [none, none, none, none] := (hn51 42 (by omega)).trans hy17
  replace ht18 : isT 94 L51 42 := ⟨Nat.lt_of_lt_of_le ht18.1 (by omega), (hn51 42 (by omega)).trans ht18.2⟩
  replace hfS : ∀ j, j < 8 → isS 94 L51 dA (43 + 5 * j) := fun j hj => (hfS j hj).cg (by omega) (fun k h1 h2 => hn51 k (by omega))
  replace hy48 : L51 40 = (sd_P (dA 5) 8 (va_up (va_up (va_up (va_up (va_up (va_up (va_up (va_up (fun _ => none) 0 (some 43)) 1 (some 48)) 2 (some 53)) 3 (some 58)) 4 (some 63)) 5 (some 68)) 6 (some 73)) 7 (some 78))) := (hn51 40 (by omega)).trans hy48
  replace hfN : ∀ j, j < 1 → isN 94 L51 dA (83 + 11 * j) := fun j hj => (hfN j hj).cg (by omega) (fun k h1 h2 => hn51 k (by omega))
  refine x_iinc 1 0 [(1, .int 1), (0, .ref 0)] d_D_init_148 rfl (by decide) (by decide) rfl ?_
  refine x_goto 130 d_D_init_151 rfl ?_
  refine x_iload_n 1 0 d_D_init_130 rfl rfl ?_
  refine x_iconst (v := 3) d_D_init_131 (by decide) ?_
  refine x_icmp_ge 154 d_D_init_132 rfl (fun hc => absurd hc (by decide)) (fun _ => ?_)
  refine x_aload_n 0 1 d_D_init_135 rfl rfl ?_
  refine x_getr 5 41 d_D_init_136 (by omega) hlo rfl rfl (by decide) lay_D (List.mem_cons_of_mem _ q268) rfl ?_
  refine x_iload_n 1 0 d_D_init_139 rfl rfl ?_
  refine x_new (rc := 21) (rs := 1187) (n := 94) [none, some none, some none] hA50 hl51 (List.forall_mem_cons.mpr ⟨sd_bel_i, List.forall_mem_cons.mpr ⟨(sd_bel_r (by omega)), fun _ h => absurd h List.not_mem_nil⟩⟩) (List.forall_mem_cons.mpr ⟨sd_bel_i, List.forall_mem_cons.mpr ⟨(sd_bel_r (by omega)), fun _ h => absurd h List.not_mem_nil⟩⟩) d_D_init_140 (ci := 3) (N := 3) (C := "SettingsDesk$Session") (T := T_N) rfl ty_N ty_N_ok lay_N (List.mem_cons_of_mem _ q625) (List.mem_cons_of_mem _ q626) (List.mem_cons_of_mem _ q354) (sd_nr rfl) (by decide +kernel) rfl rfl (fun ad52 L52 M52 hA52 hl52 hu52 hy52 hq52 e52 => ?_)
  replace hw := hw M52 e52
  clear e52
  replace hlo : L52 0 = sd_O 0 [some (some 1), some (some 25), some (some 30), some (some 35), some (some 40), some (some 41), some (some 42), none, none, none, none, none] := (hu52.2 0 (by omega)).trans hlo
  replace hs2 : isC 95 L52 dA := hs2.cg (by omega) (fun k h1 h2 => hu52.2 k (by omega))
  replace hs5 : isS 95 L52 dA 25 := hs5.cg (by omega) (fun k h1 h2 => hu52.2 k (by omega))
  replace hs8 : isS 95 L52 dA 30 := hs8.cg (by omega) (fun k h1 h2 => hu52.2 k (by omega))
  replace hs11 : isS 95 L52 dA 35 := hs11.cg (by omega) (fun k h1 h2 => hu52.2 k (by omega))
  replace hy17 : L52 42 = sd_O 4 [none, none, none, none] := (hu52.2 42 (by omega)).trans hy17
  replace ht18 : isT 95 L52 42 := ⟨Nat.lt_of_lt_of_le ht18.1 (by omega), (hu52.2 42 (by omega)).trans ht18.2⟩
  replace hfS : ∀ j, j < 8 → isS 95 L52 dA (43 + 5 * j) := fun j hj => (hfS j hj).cg (by omega) (fun k h1 h2 => hu52.2 k (by omega))
  replace hy48 : L52 40 = (sd_P (dA 5) 8 (va_up (va_up (va_up (va_up (va_up (va_up (va_up (va_up (fun _ => none) 0 (some 43)) 1 (some 48)) 2 (some 53)) 3 (some 58)) 4 (some 63)) 5 (some 68)) 6 (some 73)) 7 (some 78))) := (hu52.2 40 (by omega)).trans hy48
  replace hfN : ∀ j, j < 1 → isN 95 L52 dA (83 + 11 * j) := fun j hj => (hfN j hj).cg (by omega) (fun k h1 h2 => hu52.2 k (by omega))
  replace hy51 : L52 41 = (sd_P (dA 6) 3 (va_up (fun _ => none) 0 (some 83))) := (hu52.2 41 (by omega)).trans hy51
  refine x_dup d_D_init_143 rfl ?_
  refine x_callIg (As := []) (t := 94) (rest := [.ref 94, .int 1, .ref 41]) (rc := 11) (rs := 595) (na := 0) (host := "SettingsDesk") (c_N_init (o := 94) hA52 hT hl52 hy52 hw) (sd_goodB q627) ⟨_, rfl⟩ (List.mem_cons_of_mem _ q354) (List.mem_cons_of_mem _ q628) (Or.inr (List.mem_of_getElem? (i := 7) rfl)) ⟨rfl, by decide, by decide, by decide +kernel⟩ ⟨rfl, rfl, rfl, rfl⟩ ⟨by decide, by decide⟩ d_D_init_144 rfl rfl (Nat.le_of_ble_eq_true rfl) (fun _ _ h => h) (fun v M53 H53 hq9 hF9 => ?_)
  obtain ⟨ad53, L53, hq53, hA53, hl53, hk53, hs53, hH53⟩ := hF9
  refine ⟨hq9.1, 105, ad53, L53, hH53, sd_l_ext hq53 (List.forall_mem_cons.mpr ⟨sd_bel_i, List.forall_mem_cons.mpr ⟨(sd_bel_r (by omega)), fun _ h => absurd h List.not_mem_nil⟩⟩), sd_map_ext hq53 (List.forall_mem_cons.mpr ⟨(sd_bel_r (by omega)), List.forall_mem_cons.mpr ⟨sd_bel_i, List.forall_mem_cons.mpr ⟨(sd_bel_r (by omega)), fun _ h => absurd h List.not_mem_nil⟩⟩⟩), ?_⟩
  have hw := hq9.2
  clear hq9
  clear hH53
  replace hlo : L53 0 = sd_O 0 [some (some 1), some (some 25), some (some 30), some (some 35), some (some 40), some (some 41), some (some 42), none, none, none, none, none] := (hk53 0 (by omega)).trans hlo
  replace hs2 : isC 105 L53 dA := hs2.cg (by omega) (fun k h1 h2 => hk53 k (by omega))
  replace hs5 : isS 105 L53 dA 25 := hs5.cg (by omega) (fun k h1 h2 => hk53 k (by omega))
  replace hs8 : isS 105 L53 dA 30 := hs8.cg (by omega) (fun k h1 h2 => hk53 k (by omega))
  replace hs11 : isS 105 L53 dA 35 := hs11.cg (by omega) (fun k h1 h2 => hk53 k (by omega))
  replace hy17 : L53 42 = sd_O 4 [none, none, none, none] := (hk53 42 (by omega)).trans hy17
  replace ht18 : isT 105 L53 42 := ⟨Nat.lt_of_lt_of_le ht18.1 (by omega), (hk53 42 (by omega)).trans ht18.2⟩
  replace hfS : ∀ j, j < 8 → isS 105 L53 dA (43 + 5 * j) := fun j hj => (hfS j hj).cg (by omega) (fun k h1 h2 => hk53 k (by omega))
  replace hy48 : L53 40 = (sd_P (dA 5) 8 (va_up (va_up (va_up (va_up (va_up (va_up (va_up (va_up (fun _ => none) 0 (some 43)) 1 (some 48)) 2 (some 53)) 3 (some 58)) 4 (some 63)) 5 (some 68)) 6 (some 73)) 7 (some 78))) := (hk53 40 (by omega)).trans hy48
  replace hfN : ∀ j, j < 1 → isN 105 L53 dA (83 + 11 * j) := fun j hj => (hfN j hj).cg (by omega) (fun k h1 h2 => hk53 k (by omega))
  replace hy51 : L53 41 = (sd_P (dA 6) 3 (va_up (fun _ => none) 0 (some 83))) := (hk53 41 (by omega)).trans hy51
  replace hfN : ∀ j, j < 2 → isN 105 L53 dA (83 + 11 * j) := fun j hj => by
    by_cases h9 : j = 1
    · subst h9; exact hs53
    · exact hfN j (by omega)
  refine x_aast (t0 := 6) (u := 94) hA53 d_D_init_147 (by omega) hy51 (by omega) (hfN 1 (by decide)).2.1 rfl rfl (vp_in_nI (n := 1) (N := 3) (by decide) (by decide)) ?_
  obtain ⟨L54, hL54⟩ : ∃ z, z = va_up L53 41 (sd_P (dA 6) 3 (va_up (va_up (fun _ => none) 0 (some 83)) 1 (some 94))) := ⟨_, rfl⟩
  show sdW l (sdE0 sc) Y_D_init D (sd_tys dA) b _ _ (va_up L53 41 (sd_P (dA 6) 3 (va_up (va_up (fun _ => none) 0 (some 83)) 1 (some 94)))) ad _ _ _ _ _ _ _ _ _
  rw [← hL54]
  have hn54 : ∀ k, k ≠ 41 → L54 k = L53 k := fun k h => by rw [hL54]; exact va_up_ne _ _ h
  have hy54 : L54 41 = (sd_P (dA 6) 3 (va_up (va_up (fun _ => none) 0 (some 83)) 1 (some 94))) := by rw [hL54]; exact va_up_self _ _ _
  have hl54 : sd_loc 105 L54 := by rw [hL54]; exact sd_loc_at hl53 (sd_P_loc (sd_Pl_up (sd_Pl_up sd_Pl_none (by omega)) (by omega)))
  clear hL54
  replace hlo : L54 0 = sd_O 0 [some (some 1), some (some 25), some (some 30), some (some 35), some (some 40), some (some 41), some (some 42), none, none, none, none, none] := (hn54 0 (by omega)).trans hlo
  replace hs2 : isC 105 L54 dA := hs2.cg (by omega) (fun k h1 h2 => hn54 k (by omega))
  replace hs5 : isS 105 L54 dA 25 := hs5.cg (by omega) (fun k h1 h2 => hn54 k (by omega))
  replace hs8 : isS 105 L54 dA 30 := hs8.cg (by omega) (fun k h1 h2 => hn54 k (by omega))
  replace hs11 : isS 105 L54 dA 35 := hs11.cg (by omega) (fun k h1 h2 => hn54 k (by omega))
  replace hy17 : L54 42 = sd_O 4 [none, none, none, none] := (hn54 42 (by omega)).trans hy17
  replace ht18 : isT 105 L54 42 := ⟨Nat.lt_of_lt_of_le ht18.1 (by omega), (hn54 42 (by omega)).trans ht18.2⟩
  replace hfS : ∀ j, j < 8 → isS 105 L54 dA (43 + 5 * j) := fun j hj => (hfS j hj).cg (by omega) (fun k h1 h2 => hn54 k (by omega))
  replace hy48 : L54 40 = (sd_P (dA 5) 8 (va_up (va_up (va_up (va_up (va_up (va_up (va_up (va_up (fun _ => none) 0 (some 43)) 1 (some 48)) 2 (some 53)) 3 (some 58)) 4 (some 63)) 5 (some 68)) 6 (some 73)) 7 (some 78))) := (hn54 40 (by omega)).trans hy48
  replace hfN : ∀ j, j < 2 → isN 105 L54 dA (83 + 11 * j) := fun j hj => (hfN j hj).cg (by omega) (fun k h1 h2 => hn54 k (by omega))
  refine x_iinc 1 0 [(1, .int 2), (0, .ref 0)] d_D_init_148 rfl (by decide) (by decide) rfl ?_
  refine x_goto 130 d_D_init_151 rfl ?_
  refine x_iload_n 1 0 d_D_init_130 rfl rfl ?_
  refine x_iconst (v := 3) d_D_init_131 (by decide) ?_
  refine x_icmp_ge 154 d_D_init_132 rfl (fun hc => absurd hc (by decide)) (fun _ => ?_)
  refine x_aload_n 0 1 d_D_init_135 rfl rfl ?_
  refine x_getr 5 41 d_D_init_136 (by omega) hlo rfl rfl (by decide) lay_D (List.mem_cons_of_mem _ q268) rfl ?_
  refine x_iload_n 1 0 d_D_init_139 rfl rfl ?_
  refine x_new (rc := 10) (rs := 592) (n := 105) [none, some none, some none] hA53 hl54 (List.forall_mem_cons.mpr ⟨sd_bel_i, List.forall_mem_cons.mpr ⟨(sd_bel_r (by omega)), fun _ h => absurd h List.not_mem_nil⟩⟩) (List.forall_mem_cons.mpr ⟨sd_bel_i, List.forall_mem_cons.mpr ⟨(sd_bel_r (by omega)), fun _ h => absurd h List.not_mem_nil⟩⟩) d_D_init_140 (ci := 3) (N := 3) (C := "SettingsDesk$Session") (T := T_N) rfl ty_N ty_N_ok lay_N (List.mem_cons_of_mem _ q625) (List.mem_cons_of_mem _ q626) (List.mem_cons_of_mem _ q354) (sd_nr rfl) (by decide +kernel) rfl rfl (fun ad55 L55 M55 hA55 hl55 hu55 hy55 hq55 e55 => ?_)
  replace hw := hw M55 e55
  clear e55
  replace hlo : L55 0 = sd_O 0 [some (some 1), some (some 25), some (some 30), some (some 35), some (some 40), some (some 41), some (some 42), none, none, none, none, none] := (hu55.2 0 (by omega)).trans hlo
  replace hs2 : isC 106 L55 dA := hs2.cg (by omega) (fun k h1 h2 => hu55.2 k (by omega))
  replace hs5 : isS 106 L55 dA 25 := hs5.cg (by omega) (fun k h1 h2 => hu55.2 k (by omega))
  replace hs8 : isS 106 L55 dA 30 := hs8.cg (by omega) (fun k h1 h2 => hu55.2 k (by omega))
  replace hs11 : isS 106 L55 dA 35 := hs11.cg (by omega) (fun k h1 h2 => hu55.2 k (by omega))
  replace hy17 : L55 42 = sd_O 4 [none, none, none, none] := (hu55.2 42 (by omega)).trans hy17
  replace ht18 : isT 106 L55 42 := ⟨Nat.lt_of_lt_of_le ht18.1 (by omega), (hu55.2 42 (by omega)).trans ht18.2⟩
  replace hfS : ∀ j, j < 8 → isS 106 L55 dA (43 + 5 * j) := fun j hj => (hfS j hj).cg (by omega) (fun k h1 h2 => hu55.2 k (by omega))
  replace hy48 : L55 40 = (sd_P (dA 5) 8 (va_up (va_up (va_up (va_up (va_up (va_up (va_up (va_up (fun _ => none) 0 (some 43)) 1 (some 48)) 2 (some 53)) 3 (some 58)) 4 (some 63)) 5 (some 68)) 6 (some 73)) 7 (some 78))) := (hu55.2 40 (by omega)).trans hy48
  replace hfN : ∀ j, j < 2 → isN 106 L55 dA (83 + 11 * j) := fun j hj => (hfN j hj).cg (by omega) (fun k h1 h2 => hu55.2 k (by omega))
  replace hy54 : L55 41 = (sd_P (dA 6) 3 (va_up (va_up (fun _ => none) 0 (some 83)) 1 (some 94))) := (hu55.2 41 (by omega)).trans hy54
  refine x_dup d_D_init_143 rfl ?_
  refine x_callIg (As := []) (t := 105) (rest := [.ref 105, .int 2, .ref 41]) (rc := 0) (rs := 0) (na := 0) (host := "SettingsDesk") (c_N_init (o := 105) hA55 hT hl55 hy55 hw) (sd_goodB q627) ⟨_, rfl⟩ (List.mem_cons_of_mem _ q354) (List.mem_cons_of_mem _ q628) (Or.inr (List.mem_of_getElem? (i := 7) rfl)) ⟨rfl, by decide, by decide, by decide +kernel⟩ ⟨rfl, rfl, rfl, rfl⟩ ⟨by decide, by decide⟩ d_D_init_144 rfl rfl (Nat.le_of_ble_eq_true rfl) (fun _ _ h => h) (fun v M56 H56 hq9 hF9 => ?_)
  obtain ⟨ad56, L56, hq56, hA56, hl56, hk56, hs56, hH56⟩ := hF9
  refine ⟨hq9.1, 116, ad56, L56, hH56, sd_l_ext hq56 (List.forall_mem_cons.mpr ⟨sd_bel_i, List.forall_mem_cons.mpr ⟨(sd_bel_r (by omega)), fun _ h => absurd h List.not_mem_nil⟩⟩), sd_map_ext hq56 (List.forall_mem_cons.mpr ⟨(sd_bel_r (by omega)), List.forall_mem_cons.mpr ⟨sd_bel_i, List.forall_mem_cons.mpr ⟨(sd_bel_r (by omega)), fun _ h => absurd h List.not_mem_nil⟩⟩⟩), ?_⟩
  have hw := hq9.2
  clear hq9
  clear hH56
  replace hlo : L56 0 = sd_O 0 [some (some 1), some (some 25), some (some 30), some (some 35), some (some 40), some (some 41), some (some 42), none, none, none, none, none] := (hk56 0 (by omega)).trans hlo
  replace hs2 : isC 116 L56 dA := hs2.cg (by omega) (fun k h1 h2 => hk56 k (by omega))
  replace hs5 : isS 116 L56 dA 25 := hs5.cg (by omega) (fun k h1 h2 => hk56 k (by omega))
  replace hs8 : isS 116 L56 dA 30 := hs8.cg (by omega) (fun k h1 h2 => hk56 k (by omega))
  replace hs11 : isS 116 L56 dA 35 := hs11.cg (by omega) (fun k h1 h2 => hk56 k (by omega))
  replace hy17 : L56 42 = sd_O 4 [none, none, none, none] := (hk56 42 (by omega)).trans hy17
  replace ht18 : isT 116 L56 42 := ⟨Nat.lt_of_lt_of_le ht18.1 (by omega), (hk56 42 (by omega)).trans ht18.2⟩
  replace hfS : ∀ j, j < 8 → isS 116 L56 dA (43 + 5 * j) := fun j hj => (hfS j hj).cg (by omega) (fun k h1 h2 => hk56 k (by omega))
  replace hy48 : L56 40 = (sd_P (dA 5) 8 (va_up (va_up (va_up (va_up (va_up (va_up (va_up (va_up (fun _ => none) 0 (some 43)) 1 (some 48)) 2 (some 53)) 3 (some 58)) 4 (some 63)) 5 (some 68)) 6 (some 73)) 7 (some 78))) := (hk56 40 (by omega)).trans hy48
  replace hfN : ∀ j, j < 2 → isN 116 L56 dA (83 + 11 * j) := fun j hj => (hfN j hj).cg (by omega) (fun k h1 h2 => hk56 k (by omega))
  replace hy54 : L56 41 = (sd_P (dA 6) 3 (va_up (va_up (fun _ => none) 0 (some 83)) 1 (some 94))) := (hk56 41 (by omega)).trans hy54
  replace hfN : ∀ j, j < 3 → isN 116 L56 dA (83 + 11 * j) := fun j hj => by
    by_cases h9 : j = 2
    · subst h9; exact hs56
    · exact hfN j (by omega)
  refine x_aast (t0 := 6) (u := 105) hA56 d_D_init_147 (by omega) hy54 (by omega) (hfN 2 (by decide)).2.1 rfl rfl (vp_in_nI (n := 2) (N := 3) (by decide) (by decide)) ?_
  obtain ⟨L57, hL57⟩ : ∃ z, z = va_up L56 41 (sd_P (dA 6) 3 (va_up (va_up (va_up (fun _ => none) 0 (some 83)) 1 (some 94)) 2 (some 105))) := ⟨_, rfl⟩
  show sdW l (sdE0 sc) Y_D_init D (sd_tys dA) b _ _ (va_up L56 41 (sd_P (dA 6) 3 (va_up (va_up (va_up (fun _ => none) 0 (some 83)) 1 (some 94)) 2 (some 105)))) ad _ _ _ _ _ _ _ _ _
  rw [← hL57]
  have hn57 : ∀ k, k ≠ 41 → L57 k = L56 k := fun k h => by rw [hL57]; exact va_up_ne _ _ h
  have hy57 : L57 41 = (sd_P (dA 6) 3 (va_up (va_up (va_up (fun _ => none) 0 (some 83)) 1 (some 94)) 2 (some 105))) := by rw [hL57]; exact va_up_self _ _ _
  have hl57 : sd_loc 116 L57 := by rw [hL57]; exact sd_loc_at hl56 (sd_P_loc (sd_Pl_up (sd_Pl_up (sd_Pl_up sd_Pl_none (by omega)) (by omega)) (by omega)))
  clear hL57
  replace hlo : L57 0 = sd_O 0 [some (some 1), some (some 25), some (some 30), some (some 35), some (some 40), some (some 41), some (some 42), none, none, none, none, none] := (hn57 0 (by omega)).trans hlo
  replace hs2 : isC 116 L57 dA := hs2.cg (by omega) (fun k h1 h2 => hn57 k (by omega))
  replace hs5 : isS 116 L57 dA 25 := hs5.cg (by omega) (fun k h1 h2 => hn57 k (by omega))
  replace hs8 : isS 116 L57 dA 30 := hs8.cg (by omega) (fun k h1 h2 => hn57 k (by omega))
  replace hs11 : isS 116 L57 dA 35 := hs11.cg (by omega) (fun k h1 h2 => hn57 k (by omega))
  replace hy17 : L57 42 = sd_O 4 [none, none, none, none] := (hn57 42 (by omega)).trans hy17
  replace ht18 : isT 116 L57 42 := ⟨Nat.lt_of_lt_of_le ht18.1 (by omega), (hn57 42 (by omega)).trans ht18.2⟩
  replace hfS : ∀ j, j < 8 → isS 116 L57 dA (43 + 5 * j) := fun j hj => (hfS j hj).cg (by omega) (fun k h1 h2 => hn57 k (by omega))
  replace hy48 : L57 40 = (sd_P (dA 5) 8 (va_up (va_up (va_up (va_up (va_up (va_up (va_up (va_up (fun _ => none) 0 (some 43)) 1 (some 48)) 2 (some 53)) 3 (some 58)) 4 (some 63)) 5 (some 68)) 6 (some 73)) 7 (some 78))) := (hn57 40 (by omega)).trans hy48
  replace hfN : ∀ j, j < 3 → isN 116 L57 dA (83 + 11 * j) := fun j hj => (hfN j hj).cg (by omega) (fun k h1 h2 => hn57 k (by omega))
  refine x_iinc 1 0 [(1, .int 3), (0, .ref 0)] d_D_init_148 rfl (by decide) (by decide) rfl ?_
  refine x_goto 130 d_D_init_151 rfl ?_
  refine x_iload_n 1 0 d_D_init_130 rfl rfl ?_
  refine x_iconst (v := 3) d_D_init_131 (by decide) ?_
  refine x_icmp_ge 154 d_D_init_132 rfl (fun _ => ?_) (fun hc => absurd (by decide) hc)
  obtain ⟨L58, hL58⟩ : ∃ z, z = (va_up (va_up L57 40 (sd_Q (dA 5) 8 (fun j => 43 + 5 * j))) 41 (sd_Q (dA 6) 3 (fun j => 83 + 11 * j))) := ⟨_, rfl⟩
  have hn58 : ∀ k, k ≠ 40 → k ≠ 41 → L58 k = L57 k := fun k h h2 => by rw [hL58, va_up_ne _ _ h2, va_up_ne _ _ h]
  have hz1 : L58 40 = (sd_Q (dA 5) 8 (fun j => 43 + 5 * j)) := by rw [hL58, va_up_ne _ _ (by decide), va_up_self]
  have hz2 : L58 41 = (sd_Q (dA 6) 3 (fun j => 83 + 11 * j)) := by rw [hL58, va_up_self]
  have hl58 : sd_loc 116 L58 := by rw [hL58]; exact sd_loc_at (sd_loc_at hl57 (sd_Q_loc (fun j hj => by omega))) (sd_Q_loc (fun j hj => by omega))
  have hH58 : ∀ (M : sdM) (H : Heap), sd_H D (sdE0 sc).1 116 ad56 L57 M H → sd_H D (sdE0 sc).1 116 ad56 L58 M H := fun M H h => by
    rw [hL58]
    refine sd_H_at (sd_H_at h (fun _ hv => ?_)) (fun _ hv => ?_)
    · rw [hy48] at hv; exact sd_full (by decide) hv
    · rw [va_up_ne _ _ (by decide), hy57] at hv; exact sd_full (by decide) hv
  clear hL58
  replace hlo : L58 0 = sd_O 0 [some (some 1), some (some 25), some (some 30), some (some 35), some (some 40), some (some 41), some (some 42), none, none, none, none, none] := (hn58 0 (by omega) (by omega)).trans hlo
  replace hs2 : isC 116 L58 dA := hs2.cg (by omega) (fun k h1 h2 => hn58 k (by omega) (by omega))
  replace hs5 : isS 116 L58 dA 25 := hs5.cg (by omega) (fun k h1 h2 => hn58 k (by omega) (by omega))
  replace hs8 : isS 116 L58 dA 30 := hs8.cg (by omega) (fun k h1 h2 => hn58 k (by omega) (by omega))
  replace hs11 : isS 116 L58 dA 35 := hs11.cg (by omega) (fun k h1 h2 => hn58 k (by omega) (by omega))
  replace hy17 : L58 42 = sd_O 4 [none, none, none, none] := (hn58 42 (by omega) (by omega)).trans hy17
  replace ht18 : isT 116 L58 42 := ⟨Nat.lt_of_lt_of_le ht18.1 (by omega), (hn58 42 (by omega) (by omega)).trans ht18.2⟩
  replace hfS : ∀ j, j < 8 → isS 116 L58 dA (43 + 5 * j) := fun j hj => (hfS j hj).cg (by omega) (fun k h1 h2 => hn58 k (by omega) (by omega))
  replace hfN : ∀ j, j < 3 → isN 116 L58 dA (83 + 11 * j) := fun j hj => (hfN j hj).cg (by omega) (fun k h1 h2 => hn58 k (by omega) (by omega))
  exact x_vret d_D_init_154 rfl (fun H h => ⟨ad56, L58, (fun k hk => ((hq56 k (by omega)).trans ((hq55 k (by omega)).trans ((hq53 k (by omega)).trans ((hq52 k (by omega)).trans ((hq50 k (by omega)).trans ((hq49 k (by omega)).trans ((hq47 k (by omega)).trans ((hq46 k (by omega)).trans ((hq44 k (by omega)).trans ((hq43 k (by omega)).trans ((hq41 k (by omega)).trans ((hq40 k (by omega)).trans ((hq38 k (by omega)).trans ((hq37 k (by omega)).trans ((hq35 k (by omega)).trans ((hq34 k (by omega)).trans ((hq32 k (by omega)).trans ((hq31 k (by omega)).trans ((hq29 k (by omega)).trans ((hq28 k (by omega)).trans ((hq26 k (by omega)).trans ((hq25 k (by omega)).trans ((hq17 k (by omega)).trans ((hq15 k (by omega)).trans ((hq13 k (by omega)).trans ((hq11 k (by omega)).trans ((hq10 k (by omega)).trans ((hq8 k (by omega)).trans ((hq7 k (by omega)).trans ((hq5 k (by omega)).trans ((hq4 k (by omega)).trans ((hq2 k (by omega)).trans (hq1 k (by omega))))))))))))))))))))))))))))))))))), hA56, hl58, ⟨by omega, hlo, hs2, hs5, hs8, hs11, ⟨by omega, hz1⟩, ⟨by omega, hz2⟩, ht18, hfS, hfN⟩, hH58 _ H h⟩) ⟨rfl, hw⟩
end
theorem q629 : (.methodLink "SettingsDeskModel" 1 ⟨"java/lang/Object", "<init>", "()V"⟩ : Cond) ∈ sdB0 := sd_tb4 158 rfl rfl
theorem q630 : (.arrayClass .boolean : Cond) ∈ sdB0 := sd_tb5 25 rfl rfl
abbrev y_O_init : MethodName := ⟨"SettingsDeskModel", "<init>", "()V"⟩
theorem d_O_init_0 : decode prog_12_method_1_code 0 = .ok (.aload_n 0, 1) := by decide +kernel
theorem d_O_init_1 : decode prog_12_method_1_code 1 = .ok (.invokespecial 1, 3) := by decide +kernel
theorem d_O_init_4 : decode prog_12_method_1_code 4 = .ok (.aload_n 0, 1) := by decide +kernel
theorem d_O_init_5 : decode prog_12_method_1_code 5 = .ok (.iconst 1, 1) := by decide +kernel
theorem d_O_init_6 : decode prog_12_method_1_code 6 = .ok (.putfield 7, 3) := by decide +kernel
theorem d_O_init_9 : decode prog_12_method_1_code 9 = .ok (.aload_n 0, 1) := by decide +kernel
theorem d_O_init_10 : decode prog_12_method_1_code 10 = .ok (.iconst 4, 1) := by decide +kernel
theorem d_O_init_11 : decode prog_12_method_1_code 11 = .ok (.newarray .int, 2) := by decide +kernel
theorem d_O_init_13 : decode prog_12_method_1_code 13 = .ok (.putfield 13, 3) := by decide +kernel
theorem d_O_init_16 : decode prog_12_method_1_code 16 = .ok (.aload_n 0, 1) := by decide +kernel
theorem d_O_init_17 : decode prog_12_method_1_code 17 = .ok (.bipush (16), 2) := by decide +kernel
theorem d_O_init_19 : decode prog_12_method_1_code 19 = .ok (.newarray .boolean, 2) := by decide +kernel
theorem d_O_init_21 : decode prog_12_method_1_code 21 = .ok (.putfield 17, 3) := by decide +kernel
theorem d_O_init_24 : decode prog_12_method_1_code 24 = .ok (.aload_n 0, 1) := by decide +kernel
theorem d_O_init_25 : decode prog_12_method_1_code 25 = .ok (.bipush (16), 2) := by decide +kernel
theorem d_O_init_27 : decode prog_12_method_1_code 27 = .ok (.newarray .int, 2) := by decide +kernel
theorem d_O_init_29 : decode prog_12_method_1_code 29 = .ok (.putfield 21, 3) := by decide +kernel
theorem d_O_init_32 : decode prog_12_method_1_code 32 = .ok (.aload_n 0, 1) := by decide +kernel
theorem d_O_init_33 : decode prog_12_method_1_code 33 = .ok (.bipush (16), 2) := by decide +kernel
theorem d_O_init_35 : decode prog_12_method_1_code 35 = .ok (.newarray .int, 2) := by decide +kernel
theorem d_O_init_37 : decode prog_12_method_1_code 37 = .ok (.putfield 24, 3) := by decide +kernel
theorem d_O_init_40 : decode prog_12_method_1_code 40 = .ok (.aload_n 0, 1) := by decide +kernel
theorem d_O_init_41 : decode prog_12_method_1_code 41 = .ok (.bipush (16), 2) := by decide +kernel
theorem d_O_init_43 : decode prog_12_method_1_code 43 = .ok (.newarray .int, 2) := by decide +kernel
theorem d_O_init_45 : decode prog_12_method_1_code 45 = .ok (.putfield 27, 3) := by decide +kernel
theorem d_O_init_48 : decode prog_12_method_1_code 48 = .ok (.aload_n 0, 1) := by decide +kernel
theorem d_O_init_49 : decode prog_12_method_1_code 49 = .ok (.bipush (16), 2) := by decide +kernel
theorem d_O_init_51 : decode prog_12_method_1_code 51 = .ok (.newarray .boolean, 2) := by decide +kernel
theorem d_O_init_53 : decode prog_12_method_1_code 53 = .ok (.putfield 30, 3) := by decide +kernel
theorem d_O_init_56 : decode prog_12_method_1_code 56 = .ok (.aload_n 0, 1) := by decide +kernel
theorem d_O_init_57 : decode prog_12_method_1_code 57 = .ok (.bipush (16), 2) := by decide +kernel
theorem d_O_init_59 : decode prog_12_method_1_code 59 = .ok (.newarray .int, 2) := by decide +kernel
theorem d_O_init_61 : decode prog_12_method_1_code 61 = .ok (.putfield 33, 3) := by decide +kernel
theorem d_O_init_64 : decode prog_12_method_1_code 64 = .ok (.aload_n 0, 1) := by decide +kernel
theorem d_O_init_65 : decode prog_12_method_1_code 65 = .ok (.iconst 4, 1) := by decide +kernel
theorem d_O_init_66 : decode prog_12_method_1_code 66 = .ok (.newarray .int, 2) := by decide +kernel
theorem d_O_init_68 : decode prog_12_method_1_code 68 = .ok (.putfield 36, 3) := by decide +kernel
theorem d_O_init_71 : decode prog_12_method_1_code 71 = .ok (.aload_n 0, 1) := by decide +kernel
theorem d_O_init_72 : decode prog_12_method_1_code 72 = .ok (.iconst 4, 1) := by decide +kernel
theorem d_O_init_73 : decode prog_12_method_1_code 73 = .ok (.newarray .int, 2) := by decide +kernel
theorem d_O_init_75 : decode prog_12_method_1_code 75 = .ok (.putfield 39, 3) := by decide +kernel
theorem d_O_init_78 : decode prog_12_method_1_code 78 = .ok (.aload_n 0, 1) := by decide +kernel
theorem d_O_init_79 : decode prog_12_method_1_code 79 = .ok (.iconst 4, 1) := by decide +kernel
theorem d_O_init_80 : decode prog_12_method_1_code 80 = .ok (.newarray .int, 2) := by decide +kernel
theorem d_O_init_82 : decode prog_12_method_1_code 82 = .ok (.putfield 42, 3) := by decide +kernel
theorem d_O_init_85 : decode prog_12_method_1_code 85 = .ok (.aload_n 0, 1) := by decide +kernel
theorem d_O_init_86 : decode prog_12_method_1_code 86 = .ok (.iconst 4, 1) := by decide +kernel
theorem d_O_init_87 : decode prog_12_method_1_code 87 = .ok (.newarray .int, 2) := by decide +kernel
theorem d_O_init_89 : decode prog_12_method_1_code 89 = .ok (.putfield 45, 3) := by decide +kernel
theorem d_O_init_92 : decode prog_12_method_1_code 92 = .ok (.aload_n 0, 1) := by decide +kernel
theorem d_O_init_93 : decode prog_12_method_1_code 93 = .ok (.iconst 4, 1) := by decide +kernel
theorem d_O_init_94 : decode prog_12_method_1_code 94 = .ok (.newarray .boolean, 2) := by decide +kernel
theorem d_O_init_96 : decode prog_12_method_1_code 96 = .ok (.putfield 48, 3) := by decide +kernel
theorem d_O_init_99 : decode prog_12_method_1_code 99 = .ok (.aload_n 0, 1) := by decide +kernel
theorem d_O_init_100 : decode prog_12_method_1_code 100 = .ok (.bipush (68), 2) := by decide +kernel
theorem d_O_init_102 : decode prog_12_method_1_code 102 = .ok (.newarray .int, 2) := by decide +kernel
theorem d_O_init_104 : decode prog_12_method_1_code 104 = .ok (.putfield 51, 3) := by decide +kernel
theorem d_O_init_107 : decode prog_12_method_1_code 107 = .ok (.aload_n 0, 1) := by decide +kernel
theorem d_O_init_108 : decode prog_12_method_1_code 108 = .ok (.sipush (816), 3) := by decide +kernel
theorem d_O_init_111 : decode prog_12_method_1_code 111 = .ok (.newarray .int, 2) := by decide +kernel
theorem d_O_init_113 : decode prog_12_method_1_code 113 = .ok (.putfield 54, 3) := by decide +kernel
theorem d_O_init_116 : decode prog_12_method_1_code 116 = .ok (.aload_n 0, 1) := by decide +kernel
theorem d_O_init_117 : decode prog_12_method_1_code 117 = .ok (.sipush (816), 3) := by decide +kernel
theorem d_O_init_120 : decode prog_12_method_1_code 120 = .ok (.newarray .int, 2) := by decide +kernel
theorem d_O_init_122 : decode prog_12_method_1_code 122 = .ok (.putfield 57, 3) := by decide +kernel
theorem d_O_init_125 : decode prog_12_method_1_code 125 = .ok (.aload_n 0, 1) := by decide +kernel
theorem d_O_init_126 : decode prog_12_method_1_code 126 = .ok (.sipush (3264), 3) := by decide +kernel
theorem d_O_init_129 : decode prog_12_method_1_code 129 = .ok (.newarray .int, 2) := by decide +kernel
theorem d_O_init_131 : decode prog_12_method_1_code 131 = .ok (.putfield 60, 3) := by decide +kernel
theorem d_O_init_134 : decode prog_12_method_1_code 134 = .ok (.aload_n 0, 1) := by decide +kernel
theorem d_O_init_135 : decode prog_12_method_1_code 135 = .ok (.iconst 3, 1) := by decide +kernel
theorem d_O_init_136 : decode prog_12_method_1_code 136 = .ok (.newarray .boolean, 2) := by decide +kernel
theorem d_O_init_138 : decode prog_12_method_1_code 138 = .ok (.putfield 63, 3) := by decide +kernel
theorem d_O_init_141 : decode prog_12_method_1_code 141 = .ok (.aload_n 0, 1) := by decide +kernel
theorem d_O_init_142 : decode prog_12_method_1_code 142 = .ok (.iconst (-1), 1) := by decide +kernel
theorem d_O_init_143 : decode prog_12_method_1_code 143 = .ok (.putfield 66, 3) := by decide +kernel
theorem d_O_init_146 : decode prog_12_method_1_code 146 = .ok (.iconst 0, 1) := by decide +kernel
theorem d_O_init_147 : decode prog_12_method_1_code 147 = .ok (.istore_n 1, 1) := by decide +kernel
theorem d_O_init_148 : decode prog_12_method_1_code 148 = .ok (.iload_n 1, 1) := by decide +kernel
theorem d_O_init_149 : decode prog_12_method_1_code 149 = .ok (.bipush (17), 2) := by decide +kernel
theorem d_O_init_151 : decode prog_12_method_1_code 151 = .ok (.if_icmp .ge (18), 3) := by decide +kernel
theorem d_O_init_154 : decode prog_12_method_1_code 154 = .ok (.aload_n 0, 1) := by decide +kernel
theorem d_O_init_155 : decode prog_12_method_1_code 155 = .ok (.getfield 51, 3) := by decide +kernel
theorem d_O_init_158 : decode prog_12_method_1_code 158 = .ok (.iconst 4, 1) := by decide +kernel
theorem d_O_init_159 : decode prog_12_method_1_code 159 = .ok (.iload_n 1, 1) := by decide +kernel
theorem d_O_init_160 : decode prog_12_method_1_code 160 = .ok (.imul, 1) := by decide +kernel
theorem d_O_init_161 : decode prog_12_method_1_code 161 = .ok (.iconst 1, 1) := by decide +kernel
theorem d_O_init_162 : decode prog_12_method_1_code 162 = .ok (.iastore, 1) := by decide +kernel
theorem d_O_init_163 : decode prog_12_method_1_code 163 = .ok (.iinc 1 (1), 3) := by decide +kernel
theorem d_O_init_166 : decode prog_12_method_1_code 166 = .ok (.goto (-18), 3) := by decide +kernel
theorem d_O_init_169 : decode prog_12_method_1_code 169 = .ok (.return_, 1) := by decide +kernel
def Y_O_init : sdY := ("SettingsDeskModel", prog_12_method_1_code, 2, none, .code y_O_init prog_12_method_1_code 2 none :: sdB0, { frames := 1, cells := 17, slots := 5087, locals := 12 }, 17, 5087, [])
section
variable {l : Launch} {D : va_G} {dA : Nat → ClassId} {b n : Nat} {ad : Nat → Nat} {L : Nat → sdL} {sc : Option (Nat × Nat × (Nat → Int32))}
def w_O_init (M : sdM) (Q : sdM → Prop) : Prop := ∀ M1 : sdM, M1 = sd_s M 116 2 (1 : Int32) → ∀ M2 : sdM, M2 = va_up M1 117 (fun _ => 0) → ∀ M4 : sdM, M4 = va_up M2 118 (fun _ => 0) → ∀ M6 : sdM, M6 = va_up M4 119 (fun _ => 0) → ∀ M8 : sdM, M8 = va_up M6 120 (fun _ => 0) → ∀ M10 : sdM, M10 = va_up M8 121 (fun _ => 0) → ∀ M12 : sdM, M12 = va_up M10 122 (fun _ => 0) → ∀ M14 : sdM, M14 = va_up M12 123 (fun _ => 0) → ∀ M16 : sdM, M16 = va_up M14 124 (fun _ => 0) → ∀ M18 : sdM, M18 = va_up M16 125 (fun _ => 0) → ∀ M20 : sdM, M20 = va_up M18 126 (fun _ => 0) → ∀ M22 : sdM, M22 = va_up M20 127 (fun _ => 0) → ∀ M24 : sdM, M24 = va_up M22 128 (fun _ => 0) → ∀ M26 : sdM, M26 = va_up M24 129 (fun _ => 0) → ∀ M28 : sdM, M28 = va_up M26 130 (fun _ => 0) → ∀ M30 : sdM, M30 = va_up M28 131 (fun _ => 0) → ∀ M32 : sdM, M32 = va_up M30 132 (fun _ => 0) → ∀ M34 : sdM, M34 = va_up M32 133 (fun _ => 0) → ∀ M36 : sdM, M36 = sd_s M34 116 23 (-1 : Int32) → ∀ M37 : sdM, M37 = sd_s M36 129 0 (1 : Int32) → ∀ M38 : sdM, M38 = sd_s M37 129 4 (1 : Int32) → ∀ M39 : sdM, M39 = sd_s M38 129 8 (1 : Int32) → ∀ M40 : sdM, M40 = sd_s M39 129 12 (1 : Int32) → ∀ M41 : sdM, M41 = sd_s M40 129 16 (1 : Int32) → ∀ M42 : sdM, M42 = sd_s M41 129 20 (1 : Int32) → ∀ M43 : sdM, M43 = sd_s M42 129 24 (1 : Int32) → ∀ M44 : sdM, M44 = sd_s M43 129 28 (1 : Int32) → ∀ M45 : sdM, M45 = sd_s M44 129 32 (1 : Int32) → ∀ M46 : sdM, M46 = sd_s M45 129 36 (1 : Int32) → ∀ M47 : sdM, M47 = sd_s M46 129 40 (1 : Int32) → ∀ M48 : sdM, M48 = sd_s M47 129 44 (1 : Int32) → ∀ M49 : sdM, M49 = sd_s M48 129 48 (1 : Int32) → ∀ M50 : sdM, M50 = sd_s M49 129 52 (1 : Int32) → ∀ M51 : sdM, M51 = sd_s M50 129 56 (1 : Int32) → ∀ M52 : sdM, M52 = sd_s M51 129 60 (1 : Int32) → ∀ M53 : sdM, M53 = sd_s M52 129 64 (1 : Int32) → Q M53
set_option maxHeartbeats 4000000 in
set_option maxRecDepth 100000 in
theorem c_O_init (hA : sd_ad b 117 ad) (hT : l.stackTraces = false) (hloc : sd_loc 117 L) (hlo : L 116 = sd_O 10 [none, none, none, some none, some none, some none, some none, some none, some none, some none, none, some none, some none, some none, some none, some none, some none, some none, some none, some none, none, none, some none, none, none, none, none, none, none, none, none, none, none, none, none]) {Q : sdM → Prop} {M : sdM} (hw : w_O_init M Q) : sd_CnF l (sdE0 sc) y_O_init Y_O_init.2.2.2.2.1 Y_O_init.2.2.2.2.2.1 17 5087 D (sd_tys dA) b 117 ad L M [.ref 116] (fun M' H => ∃ (ad2 : Nat → Nat) (L2 : Nat → sdL), (∀ k, k < 117 → ad2 k = ad k) ∧ sd_ad b 134 ad2 ∧ sd_loc 134 L2 ∧ (∀ k, k < 116 → L2 k = L k) ∧ isO 134 L2 dA ∧ sd_H D (sdE0 sc).1 134 ad2 L2 M' H) (sd_qv Q) sd_xf := by
  refine sd_enterF (Y := Y_O_init) rfl rfl rfl rfl (Nat.le_of_ble_eq_true rfl) ?_
  show sdW l (sdE0 sc) Y_O_init D (sd_tys dA) b 117 ad L ad _ _ _ 0 [(0, .ref 116)] [] M 17 5087
  unfold w_O_init at hw
  refine x_aload_n 0 0 d_O_init_0 rfl rfl ?_
  refine x_objInit d_O_init_1 (List.mem_cons_of_mem _ q629) (List.mem_cons_of_mem _ q64) (List.mem_cons_of_mem _ q65) (by decide) (Nat.le_of_ble_eq_true rfl) ?_
  refine x_aload_n 0 0 d_O_init_4 rfl rfl ?_
  refine x_iconst (v := 1) d_O_init_5 (by decide) ?_
  refine x_puti 2 (ty := .int) hA d_O_init_6 (by omega) hlo rfl rfl (by decide) lay_O (List.mem_cons_of_mem _ q449) rfl ty_O ty_O_ok nm_O rfl (by decide +kernel) rfl rfl (fun M1 e1 => ?_)
  replace hw := hw M1 e1
  clear e1
  refine x_aload_n 0 0 d_O_init_9 rfl rfl ?_
  refine x_iconst (v := 4) d_O_init_10 (by decide) ?_
  refine x_newI (rc := 16) (rs := 5083) (n := 117) (t0 := 0) (len := 4) hA hloc (List.forall_mem_cons.mpr ⟨(sd_bel_r (by omega)), fun _ h => absurd h List.not_mem_nil⟩) (List.forall_mem_cons.mpr ⟨(sd_bel_r (by omega)), fun _ h => absurd h List.not_mem_nil⟩) d_O_init_11 rfl (by decide) (List.mem_cons_of_mem _ q598) rfl (by decide) (by decide) (by decide) rfl rfl (fun ad2 M2 hA2 hl2 hu2 hq2 e2 => ?_)
  replace hw := hw M2 e2
  clear e2
  have hy2 : va_up L 117 (sd_I (dA 0) 4) 117 = (sd_I (dA 0) 4) := va_up_self _ _ _
  generalize va_up L 117 (sd_I (dA 0) 4) = L2 at hl2 hu2 hy2 ⊢
  replace hlo : L2 116 = sd_O 10 [none, none, none, some none, some none, some none, some none, some none, some none, some none, none, some none, some none, some none, some none, some none, some none, some none, some none, some none, none, none, some none, none, none, none, none, none, none, none, none, none, none, none, none] := (hu2.2 116 (by omega)).trans hlo
  refine x_putr 3 117 (ty := .array .int) hA2 (fun _ _ _ _ _ _ h => h.2.2.2.2 y_O_init _ _ _ _ rfl) d_O_init_13 (by omega) hlo (Nat.le_of_ble_eq_true rfl) rfl (by decide) lay_O (List.mem_cons_of_mem _ q450) rfl ty_O ty_O_ok nm_O rfl rfl (by decide +kernel) rfl rfl ?_
  obtain ⟨L3, hL3⟩ : ∃ z, z = va_up L2 116 (sd_O 10 [none, none, none, some (some 117), some none, some none, some none, some none, some none, some none, none, some none, some none, some none, some none, some none, some none, some none, some none, some none, none, none, some none, none, none, none, none, none, none, none, none, none, none, none, none]) := ⟨_, rfl⟩
  show sdW l (sdE0 sc) Y_O_init D (sd_tys dA) b _ _ (va_up L2 116 (sd_O 10 [none, none, none, some (some 117), some none, some none, some none, some none, some none, some none, none, some none, some none, some none, some none, some none, some none, some none, some none, some none, none, none, some none, none, none, none, none, none, none, none, none, none, none, none, none])) ad _ _ _ _ _ _ _ _ _
  rw [← hL3]
  have hn3 : ∀ k, k ≠ 116 → L3 k = L2 k := fun k h => by rw [hL3]; exact va_up_ne _ _ h
  have hl3 : sd_loc 118 L3 := by rw [hL3]; exact sd_loc_at hl2 (fun a a2 f e => by show (Sum.inr (10, sd_fv a f 0 [none, none, none, some (some 117), some none, some none, some none, some none, some none, some none, none, some none, some none, some none, some none, some none, some none, some none, some none, some none, none, none, some none, none, none, none, none, none, none, none, none, none, none, none, none]) : va_E) = Sum.inr (10, sd_fv a2 f 0 [none, none, none, some (some 117), some none, some none, some none, some none, some none, some none, none, some none, some none, some none, some none, some none, some none, some none, some none, some none, none, none, some none, none, none, none, none, none, none, none, none, none, none, none, none]); simp only [sd_fv, sd_fx]; rw [e 117 (by omega)])
  replace hlo : L3 116 = sd_O 10 [none, none, none, some (some 117), some none, some none, some none, some none, some none, some none, none, some none, some none, some none, some none, some none, some none, some none, some none, some none, none, none, some none, none, none, none, none, none, none, none, none, none, none, none, none] := by rw [hL3]; exact va_up_self _ _ _
  clear hL3
  replace hy2 : L3 117 = (sd_I (dA 0) 4) := (hn3 117 (by omega)).trans hy2
  refine x_aload_n 0 0 d_O_init_16 rfl rfl ?_
  refine x_bipush (v := 16) d_O_init_17 (by decide) ?_
  refine x_newI (rc := 15) (rs := 5067) (n := 118) (t0 := 1) (len := 16) hA2 hl3 (List.forall_mem_cons.mpr ⟨(sd_bel_r (by omega)), fun _ h => absurd h List.not_mem_nil⟩) (List.forall_mem_cons.mpr ⟨(sd_bel_r (by omega)), fun _ h => absurd h List.not_mem_nil⟩) d_O_init_19 rfl (by decide) (List.mem_cons_of_mem _ q630) rfl (by decide) (by decide) (by decide) rfl rfl (fun ad4 M4 hA4 hl4 hu4 hq4 e4 => ?_)
  replace hw := hw M4 e4
  clear e4
  have hy4 : va_up L3 118 (sd_I (dA 1) 16) 118 = (sd_I (dA 1) 16) := va_up_self _ _ _
  generalize va_up L3 118 (sd_I (dA 1) 16) = L4 at hl4 hu4 hy4 ⊢
  replace hlo : L4 116 = sd_O 10 [none, none, none, some (some 117), some none, some none, some none, some none, some none, some none, none, some none, some none, some none, some none, some none, some none, some none, some none, some none, none, none, some none, none, none, none, none, none, none, none, none, none, none, none, none] := (hu4.2 116 (by omega)).trans hlo
  replace hy2 : L4 117 = (sd_I (dA 0) 4) := (hu4.2 117 (by omega)).trans hy2
  refine x_putr 4 118 (ty := .array .boolean) hA4 (fun _ _ _ _ _ _ h => h.2.2.2.2 y_O_init _ _ _ _ rfl) d_O_init_21 (by omega) hlo (Nat.le_of_ble_eq_true rfl) rfl (by decide) lay_O (List.mem_cons_of_mem _ q451) rfl ty_O ty_O_ok nm_O rfl rfl (by decide +kernel) rfl rfl ?_
  obtain ⟨L5, hL5⟩ : ∃ z, z = va_up L4 116 (sd_O 10 [none, none, none, some (some 117), some (some 118), some none, some none, some none, some none, some none, none, some none, some none, some none, some none, some none, some none, some none, some none, some none, none, none, some none, none, none, none, none, none, none, none, none, none, none, none, none]) := ⟨_, rfl⟩
  show sdW l (sdE0 sc) Y_O_init D (sd_tys dA) b _ _ (va_up L4 116 (sd_O 10 [none, none, none, some (some 117), some (some 118), some none, some none, some none, some none, some none, none, some none, some none, some none, some none, some none, some none, some none, some none, some none, none, none, some none, none, none, none, none, none, none, none, none, none, none, none, none])) ad _ _ _ _ _ _ _ _ _
  rw [← hL5]
  have hn5 : ∀ k, k ≠ 116 → L5 k = L4 k := fun k h => by rw [hL5]; exact va_up_ne _ _ h
  have hl5 : sd_loc 119 L5 := by rw [hL5]; exact sd_loc_at hl4 (fun a a2 f e => by show (Sum.inr (10, sd_fv a f 0 [none, none, none, some (some 117), some (some 118), some none, some none, some none, some none, some none, none, some none, some none, some none, some none, some none, some none, some none, some none, some none, none, none, some none, none, none, none, none, none, none, none, none, none, none, none, none]) : va_E) = Sum.inr (10, sd_fv a2 f 0 [none, none, none, some (some 117), some (some 118), some none, some none, some none, some none, some none, none, some none, some none, some none, some none, some none, some none, some none, some none, some none, none, none, some none, none, none, none, none, none, none, none, none, none, none, none, none]); simp only [sd_fv, sd_fx]; rw [e 117 (by omega), e 118 (by omega)])
  replace hlo : L5 116 = sd_O 10 [none, none, none, some (some 117), some (some 118), some none, some none, some none, some none, some none, none, some none, some none, some none, some none, some none, some none, some none, some none, some none, none, none, some none, none, none, none, none, none, none, none, none, none, none, none, none] := by rw [hL5]; exact va_up_self _ _ _
  clear hL5
  replace hy2 : L5 117 = (sd_I (dA 0) 4) := (hn5 117 (by omega)).trans hy2
  replace hy4 : L5 118 = (sd_I (dA 1) 16) := (hn5 118 (by omega)).trans hy4
  refine x_aload_n 0 0 d_O_init_24 rfl rfl ?_
  refine x_bipush (v := 16) d_O_init_25 (by decide) ?_
  refine x_newI (rc := 14) (rs := 5051) (n := 119) (t0 := 0) (len := 16) hA4 hl5 (List.forall_mem_cons.mpr ⟨(sd_bel_r (by omega)), fun _ h => absurd h List.not_mem_nil⟩) (List.forall_mem_cons.mpr ⟨(sd_bel_r (by omega)), fun _ h => absurd h List.not_mem_nil⟩) d_O_init_27 rfl (by decide) (List.mem_cons_of_mem _ q598) rfl (by decide) (by decide) (by decide) rfl rfl (fun ad6 M6 hA6 hl6 hu6 hq6 e6 => ?_)
  replace hw := hw M6 e6
  clear e6
  have hy6 : va_up L5 119 (sd_I (dA 0) 16) 119 = (sd_I (dA 0) 16) := va_up_self _ _ _
  generalize va_up L5 119 (sd_I (dA 0) 16) = L6 at hl6 hu6 hy6 ⊢
  replace hlo : L6 116 = sd_O 10 [none, none, none, some (some 117), some (some 118), some none, some none, some none, some none, some none, none, some none, some none, some none, some none, some none, some none, some none, some none, some none, none, none, some none, none, none, none, none, none, none, none, none, none, none, none, none] := (hu6.2 116 (by omega)).trans hlo
  replace hy2 : L6 117 = (sd_I (dA 0) 4) := (hu6.2 117 (by omega)).trans hy2
  replace hy4 : L6 118 = (sd_I (dA 1) 16) := (hu6.2 118 (by omega)).trans hy4
  refine x_putr 5 119 (ty := .array .int) hA6 (fun _ _ _ _ _ _ h => h.2.2.2.2 y_O_init _ _ _ _ rfl) d_O_init_29 (by omega) hlo (Nat.le_of_ble_eq_true rfl) rfl (by decide) lay_O (List.mem_cons_of_mem _ q452) rfl ty_O ty_O_ok nm_O rfl rfl (by decide +kernel) rfl rfl ?_
  obtain ⟨L7, hL7⟩ : ∃ z, z = va_up L6 116 (sd_O 10 [none, none, none, some (some 117), some (some 118), some (some 119), some none, some none, some none, some none, none, some none, some none, some none, some none, some none, some none, some none, some none, some none, none, none, some none, none, none, none, none, none, none, none, none, none, none, none, none]) := ⟨_, rfl⟩
  show sdW l (sdE0 sc) Y_O_init D (sd_tys dA) b _ _ (va_up L6 116 (sd_O 10 [none, none, none, some (some 117), some (some 118), some (some 119), some none, some none, some none, some none, none, some none, some none, some none, some none, some none, some none, some none, some none, some none, none, none, some none, none, none, none, none, none, none, none, none, none, none, none, none])) ad _ _ _ _ _ _ _ _ _
  rw [← hL7]
  have hn7 : ∀ k, k ≠ 116 → L7 k = L6 k := fun k h => by rw [hL7]; exact va_up_ne _ _ h
  have hl7 : sd_loc 120 L7 := by rw [hL7]; exact sd_loc_at hl6 (fun a a2 f e => by show (Sum.inr (10, sd_fv a f 0 [none, none, none, some (some 117), some (some 118), some (some 119), some none, some none, some none, some none, none, some none, some none, some none, some none, some none, some none, some none, some none, some none, none, none, some none, none, none, none, none, none, none, none, none, none, none, none, none]) : va_E) = Sum.inr (10, sd_fv a2 f 0 [none, none, none, some (some 117), some (some 118), some (some 119), some none, some none, some none, some none, none, some none, some none, some none, some none, some none, some none, some none, some none, some none, none, none, some none, none, none, none, none, none, none, none, none, none, none, none, none]); simp only [sd_fv, sd_fx]; rw [e 117 (by omega), e 118 (by omega), e 119 (by omega)])
  replace hlo : L7 116 = sd_O 10 [none, none, none, some (some 117), some (some 118), some (some 119), some none, some none, some none, some none, none, some none, some none, some none, some none, some none, some none, some none, some none, some none, none, none, some none, none, none, none, none, none, none, none, none, none, none, none, none] := by rw [hL7]; exact va_up_self _ _ _
  clear hL7
  replace hy2 : L7 117 = (sd_I (dA 0) 4) := (hn7 117 (by omega)).trans hy2
  replace hy4 : L7 118 = (sd_I (dA 1) 16) := (hn7 118 (by omega)).trans hy4
  replace hy6 : L7 119 = (sd_I (dA 0) 16) := (hn7 119 (by omega)).trans hy6
  refine x_aload_n 0 0 d_O_init_32 rfl rfl ?_
  refine x_bipush (v := 16) d_O_init_33 (by decide) ?_
  refine x_newI (rc := 13) (rs := 5035) (n := 120) (t0 := 0) (len := 16) hA6 hl7 (List.forall_mem_cons.mpr ⟨(sd_bel_r (by omega)), fun _ h => absurd h List.not_mem_nil⟩) (List.forall_mem_cons.mpr ⟨(sd_bel_r (by omega)), fun _ h => absurd h List.not_mem_nil⟩) d_O_init_35 rfl (by decide) (List.mem_cons_of_mem _ q598) rfl (by decide) (by decide) (by decide) rfl rfl (fun ad8 M8 hA8 hl8 hu8 hq8 e8 => ?_)
  replace hw := hw M8 e8
  clear e8
  have hy8 : va_up L7 120 (sd_I (dA 0) 16) 120 = (sd_I (dA 0) 16) := va_up_self _ _ _
  generalize va_up L7 120 (sd_I (dA 0) 16) = L8 at hl8 hu8 hy8 ⊢
  replace hlo : L8 116 = sd_O 10 [none, none, none, some (some 117), some (some 118), some (some 119), some none, some none, some none, some none, none, some none, some none, some none, some none, some none, some none, some none, some none, some none, none, none, some none, none, none, none, none, none, none, none, none, none, none, none, none] := (hu8.2 116 (by omega)).trans hlo
  replace hy2 : L8 117 = (sd_I (dA 0) 4) := (hu8.2 117 (by omega)).trans hy2
  replace hy4 : L8 118 = (sd_I (dA 1) 16) := (hu8.2 118 (by omega)).trans hy4
  replace hy6 : L8 119 = (sd_I (dA 0) 16) := (hu8.2 119 (by omega)).trans hy6
  refine x_putr 6 120 (ty := .array .int) hA8 (fun _ _ _ _ _ _ h => h.2.2.2.2 y_O_init _ _ _ _ rfl) d_O_init_37 (by omega) hlo (Nat.le_of_ble_eq_true rfl) rfl (by decide) lay_O (List.mem_cons_of_mem _ q453) rfl ty_O ty_O_ok nm_O rfl rfl (by decide +kernel) rfl rfl ?_
  obtain ⟨L9, hL9⟩ : ∃ z, z = va_up L8 116 (sd_O 10 [none, none, none, some (some 117), some (some 118), some (some 119), some (some 120), some none, some none, some none, none, some none, some none, some none, some none, some none, some none, some none, some none, some none, none, none, some none, none, none, none, none, none, none, none, none, none, none, none, none]) := ⟨_, rfl⟩
  show sdW l (sdE0 sc) Y_O_init D (sd_tys dA) b _ _ (va_up L8 116 (sd_O 10 [none, none, none, some (some 117), some (some 118), some (some 119), some (some 120), some none, some none, some none, none, some none, some none, some none, some none, some none, some none, some none, some none, some none, none, none, some none, none, none, none, none, none, none, none, none, none, none, none, none])) ad _ _ _ _ _ _ _ _ _
  rw [← hL9]
  have hn9 : ∀ k, k ≠ 116 → L9 k = L8 k := fun k h => by rw [hL9]; exact va_up_ne _ _ h
  have hl9 : sd_loc 121 L9 := by rw [hL9]; exact sd_loc_at hl8 (fun a a2 f e => by show (Sum.inr (10, sd_fv a f 0 [none, none, none, some (some 117), some (some 118), some (some 119), some (some 120), some none, some none, some none, none, some none, some none, some none, some none, some none, some none, some none, some none, some none, none, none, some none, none, none, none, none, none, none, none, none, none, none, none, none]) : va_E) = Sum.inr (10, sd_fv a2 f 0 [none, none, none, some (some 117), some (some 118), some (some 119), some (some 120), some none, some none, some none, none, some none, some none, some none, some none, some none, some none, some none, some none, some none, none, none, some none, none, none, none, none, none, none, none, none, none, none, none, none]); simp only [sd_fv, sd_fx]; rw [e 117 (by omega), e 118 (by omega), e 119 (by omega), e 120 (by omega)])
  replace hlo : L9 116 = sd_O 10 [none, none, none, some (some 117), some (some 118), some (some 119), some (some 120), some none, some none, some none, none, some none, some none, some none, some none, some none, some none, some none, some none, some none, none, none, some none, none, none, none, none, none, none, none, none, none, none, none, none] := by rw [hL9]; exact va_up_self _ _ _
  clear hL9
  replace hy2 : L9 117 = (sd_I (dA 0) 4) := (hn9 117 (by omega)).trans hy2
  replace hy4 : L9 118 = (sd_I (dA 1) 16) := (hn9 118 (by omega)).trans hy4
  replace hy6 : L9 119 = (sd_I (dA 0) 16) := (hn9 119 (by omega)).trans hy6
  replace hy8 : L9 120 = (sd_I (dA 0) 16) := (hn9 120 (by omega)).trans hy8
  refine x_aload_n 0 0 d_O_init_40 rfl rfl ?_
  refine x_bipush (v := 16) d_O_init_41 (by decide) ?_
  refine x_newI (rc := 12) (rs := 5019) (n := 121) (t0 := 0) (len := 16) hA8 hl9 (List.forall_mem_cons.mpr ⟨(sd_bel_r (by omega)), fun _ h => absurd h List.not_mem_nil⟩) (List.forall_mem_cons.mpr ⟨(sd_bel_r (by omega)), fun _ h => absurd h List.not_mem_nil⟩) d_O_init_43 rfl (by decide) (List.mem_cons_of_mem _ q598) rfl (by decide) (by decide) (by decide) rfl rfl (fun ad10 M10 hA10 hl10 hu10 hq10 e10 => ?_)
  replace hw := hw M10 e10
  clear e10
  have hy10 : va_up L9 121 (sd_I (dA 0) 16) 121 = (sd_I (dA 0) 16) := va_up_self _ _ _
  generalize va_up L9 121 (sd_I (dA 0) 16) = L10 at hl10 hu10 hy10 ⊢
  replace hlo : L10 116 = sd_O 10 [none, none, none, some (some 117), some (some 118), some (some 119), some (some 120), some none, some none, some none, none, some none, some none, some none, some none, some none, some none, some none, some none, some none, none, none, some none, none, none, none, none, none, none, none, none, none, none, none, none] := (hu10.2 116 (by omega)).trans hlo
  replace hy2 : L10 117 = (sd_I (dA 0) 4) := (hu10.2 117 (by omega)).trans hy2
  replace hy4 : L10 118 = (sd_I (dA 1) 16) := (hu10.2 118 (by omega)).trans hy4
  replace hy6 : L10 119 = (sd_I (dA 0) 16) := (hu10.2 119 (by omega)).trans hy6
  replace hy8 : L10 120 = (sd_I (dA 0) 16) := (hu10.2 120 (by omega)).trans hy8
  refine x_putr 7 121 (ty := .array .int) hA10 (fun _ _ _ _ _ _ h => h.2.2.2.2 y_O_init _ _ _ _ rfl) d_O_init_45 (by omega) hlo (Nat.le_of_ble_eq_true rfl) rfl (by decide) lay_O (List.mem_cons_of_mem _ q454) rfl ty_O ty_O_ok nm_O rfl rfl (by decide +kernel) rfl rfl ?_
  obtain ⟨L11, hL11⟩ : ∃ z, z = va_up L10 116 (sd_O 10 [none, none, none, some (some 117), some (some 118), some (some 119), some (some 120), some (some 121), some none, some none, none, some none, some none, some none, some none, some none, some none, some none, some none, some none, none, none, some none, none, none, none, none, none, none, none, none, none, none, none, none]) := ⟨_, rfl⟩
  show sdW l (sdE0 sc) Y_O_init D (sd_tys dA) b _ _ (va_up L10 116 (sd_O 10 [none, none, none, some (some 117), some (some 118), some (some 119), some (some 120), some (some 121), some none, some none, none, some none, some none, some none, some none, some none, some none, some none, some none, some none, none, none, some none, none, none, none, none, none, none, none, none, none, none, none, none])) ad _ _ _ _ _ _ _ _ _
  rw [← hL11]
  have hn11 : ∀ k, k ≠ 116 → L11 k = L10 k := fun k h => by rw [hL11]; exact va_up_ne _ _ h
  have hl11 : sd_loc 122 L11 := by rw [hL11]; exact sd_loc_at hl10 (fun a a2 f e => by show (Sum.inr (10, sd_fv a f 0 [none, none, none, some (some 117), some (some 118), some (some 119), some (some 120), some (some 121), some none, some none, none, some none, some none, some none, some none, some none, some none, some none, some none, some none, none, none, some none, none, none, none, none, none, none, none, none, none, none, none, none]) : va_E) = Sum.inr (10, sd_fv a2 f 0 [none, none, none, some (some 117), some (some 118), some (some 119), some (some 120), some (some 121), some none, some none, none, some none, some none, some none, some none, some none, some none, some none, some none, some none, none, none, some none, none, none, none, none, none, none, none, none, none, none, none, none]); simp only [sd_fv, sd_fx]; rw [e 117 (by omega), e 118 (by omega), e 119 (by omega), e 120 (by omega), e 121 (by omega)])
  replace hlo : L11 116 = sd_O 10 [none, none, none, some (some 117), some (some 118), some (some 119), some (some 120), some (some 121), some none, some none, none, some none, some none, some none, some none, some none, some none, some none, some none, some none, none, none, some none, none, none, none, none, none, none, none, none, none, none, none, none] := by rw [hL11]; exact va_up_self _ _ _
  clear hL11
  replace hy2 : L11 117 = (sd_I (dA 0) 4) := (hn11 117 (by omega)).trans hy2
  replace hy4 : L11 118 = (sd_I (dA 1) 16) := (hn11 118 (by omega)).trans hy4
  replace hy6 : L11 119 = (sd_I (dA 0) 16) := (hn11 119 (by omega)).trans hy6
  replace hy8 : L11 120 = (sd_I (dA 0) 16) := (hn11 120 (by omega)).trans hy8
  replace hy10 : L11 121 = (sd_I (dA 0) 16) := (hn11 121 (by omega)).trans hy10
  refine x_aload_n 0 0 d_O_init_48 rfl rfl ?_
  refine x_bipush (v := 16) d_O_init_49 (by decide) ?_
  refine x_newI (rc := 11) (rs := 5003) (n := 122) (t0 := 1) (len := 16) hA10 hl11 (List.forall_mem_cons.mpr ⟨(sd_bel_r (by omega)), fun _ h => absurd h List.not_mem_nil⟩) (List.forall_mem_cons.mpr ⟨(sd_bel_r (by omega)), fun _ h => absurd h List.not_mem_nil⟩) d_O_init_51 rfl (by decide) (List.mem_cons_of_mem _ q630) rfl (by decide) (by decide) (by decide) rfl rfl (fun ad12 M12 hA12 hl12 hu12 hq12 e12 => ?_)
  replace hw := hw M12 e12
  clear e12
  have hy12 : va_up L11 122 (sd_I (dA 1) 16) 122 = (sd_I (dA 1) 16) := va_up_self _ _ _
  generalize va_up L11 122 (sd_I (dA 1) 16) = L12 at hl12 hu12 hy12 ⊢
  replace hlo : L12 116 = sd_O 10 [none, none, none, some (some 117), some (some 118), some (some 119), some (some 120), some (some 121), some none, some none, none, some none, some none, some none, some none, some none, some none, some none, some none, some none, none, none, some none, none, none, none, none, none, none, none, none, none, none, none, none] := (hu12.2 116 (by omega)).trans hlo
  replace hy2 : L12 117 = (sd_I (dA 0) 4) := (hu12.2 117 (by omega)).trans hy2
  replace hy4 : L12 118 = (sd_I (dA 1) 16) := (hu12.2 118 (by omega)).trans hy4
  replace hy6 : L12 119 = (sd_I (dA 0) 16) := (hu12.2 119 (by omega)).trans hy6
  replace hy8 : L12 120 = (sd_I (dA 0) 16) := (hu12.2 120 (by omega)).trans hy8
  replace hy10 : L12 121 = (sd_I (dA 0) 16) := (hu12.2 121 (by omega)).trans hy10
  refine x_putr 8 122 (ty := .array .boolean) hA12 (fun _ _ _ _ _ _ h => h.2.2.2.2 y_O_init _ _ _ _ rfl) d_O_init_53 (by omega) hlo (Nat.le_of_ble_eq_true rfl) rfl (by decide) lay_O (List.mem_cons_of_mem _ q460) rfl ty_O ty_O_ok nm_O rfl rfl (by decide +kernel) rfl rfl ?_
  obtain ⟨L13, hL13⟩ : ∃ z, z = va_up L12 116 (sd_O 10 [none, none, none, some (some 117), some (some 118), some (some 119), some (some 120), some (some 121), some (some 122), some none, none, some none, some none, some none, some none, some none, some none, some none, some none, some none, none, none, some none, none, none, none, none, none, none, none, none, none, none, none, none]) := ⟨_, rfl⟩
  show sdW l (sdE0 sc) Y_O_init D (sd_tys dA) b _ _ (va_up L12 116 (sd_O 10 [none, none, none, some (some 117), some (some 118), some (some 119), some (some 120), some (some 121), some (some 122), some none, none, some none, some none, some none, some none, some none, some none, some none, some none, some none, none, none, some none, none, none, none, none, none, none, none, none, none, none, none, none])) ad _ _ _ _ _ _ _ _ _
  rw [← hL13]
  have hn13 : ∀ k, k ≠ 116 → L13 k = L12 k := fun k h => by rw [hL13]; exact va_up_ne _ _ h
  have hl13 : sd_loc 123 L13 := by rw [hL13]; exact sd_loc_at hl12 (fun a a2 f e => by show (Sum.inr (10, sd_fv a f 0 [none, none, none, some (some 117), some (some 118), some (some 119), some (some 120), some (some 121), some (some 122), some none, none, some none, some none, some none, some none, some none, some none, some none, some none, some none, none, none, some none, none, none, none, none, none, none, none, none, none, none, none, none]) : va_E) = Sum.inr (10, sd_fv a2 f 0 [none, none, none, some (some 117), some (some 118), some (some 119), some (some 120), some (some 121), some (some 122), some none, none, some none, some none, some none, some none, some none, some none, some none, some none, some none, none, none, some none, none, none, none, none, none, none, none, none, none, none, none, none]); simp only [sd_fv, sd_fx]; rw [e 117 (by omega), e 118 (by omega), e 119 (by omega), e 120 (by omega), e 121 (by omega), e 122 (by omega)])
  replace hlo : L13 116 = sd_O 10 [none, none, none, some (some 117), some (some 118), some (some 119), some (some 120), some (some 121), some (some 122), some none, none, some none, some none, some none, some none, some none, some none, some none, some none, some none, none, none, some none, none, none, none, none, none, none, none, none, none, none, none, none] := by rw [hL13]; exact va_up_self _ _ _
  clear hL13
  replace hy2 : L13 117 = (sd_I (dA 0) 4) := (hn13 117 (by omega)).trans hy2
  replace hy4 : L13 118 = (sd_I (dA 1) 16) := (hn13 118 (by omega)).trans hy4
  replace hy6 : L13 119 = (sd_I (dA 0) 16) := (hn13 119 (by omega)).trans hy6
  replace hy8 : L13 120 = (sd_I (dA 0) 16) := (hn13 120 (by omega)).trans hy8
  replace hy10 : L13 121 = (sd_I (dA 0) 16) := (hn13 121 (by omega)).trans hy10
  replace hy12 : L13 122 = (sd_I (dA 1) 16) := (hn13 122 (by omega)).trans hy12
  refine x_aload_n 0 0 d_O_init_56 rfl rfl ?_
  refine x_bipush (v := 16) d_O_init_57 (by decide) ?_
  refine x_newI (rc := 10) (rs := 4987) (n := 123) (t0 := 0) (len := 16) hA12 hl13 (List.forall_mem_cons.mpr ⟨(sd_bel_r (by omega)), fun _ h => absurd h List.not_mem_nil⟩) (List.forall_mem_cons.mpr ⟨(sd_bel_r (by omega)), fun _ h => absurd h List.not_mem_nil⟩) d_O_init_59 rfl (by decide) (List.mem_cons_of_mem _ q598) rfl (by decide) (by decide) (by decide) rfl rfl (fun ad14 M14 hA14 hl14 hu14 hq14 e14 => ?_)
  replace hw := hw M14 e14
  clear e14
  have hy14 : va_up L13 123 (sd_I (dA 0) 16) 123 = (sd_I (dA 0) 16) := va_up_self _ _ _
  generalize va_up L13 123 (sd_I (dA 0) 16) = L14 at hl14 hu14 hy14 ⊢
  replace hlo : L14 116 = sd_O 10 [none, none, none, some (some 117), some (some 118), some (some 119), some (some 120), some (some 121), some (some 122), some none, none, some none, some none, some none, some none, some none, some none, some none, some none, some none, none, none, some none, none, none, none, none, none, none, none, none, none, none, none, none] := (hu14.2 116 (by omega)).trans hlo
  replace hy2 : L14 117 = (sd_I (dA 0) 4) := (hu14.2 117 (by omega)).trans hy2
  replace hy4 : L14 118 = (sd_I (dA 1) 16) := (hu14.2 118 (by omega)).trans hy4
  replace hy6 : L14 119 = (sd_I (dA 0) 16) := (hu14.2 119 (by omega)).trans hy6
  replace hy8 : L14 120 = (sd_I (dA 0) 16) := (hu14.2 120 (by omega)).trans hy8
  replace hy10 : L14 121 = (sd_I (dA 0) 16) := (hu14.2 121 (by omega)).trans hy10
  replace hy12 : L14 122 = (sd_I (dA 1) 16) := (hu14.2 122 (by omega)).trans hy12
  refine x_putr 9 123 (ty := .array .int) hA14 (fun _ _ _ _ _ _ h => h.2.2.2.2 y_O_init _ _ _ _ rfl) d_O_init_61 (by omega) hlo (Nat.le_of_ble_eq_true rfl) rfl (by decide) lay_O (List.mem_cons_of_mem _ q461) rfl ty_O ty_O_ok nm_O rfl rfl (by decide +kernel) rfl rfl ?_
  obtain ⟨L15, hL15⟩ : ∃ z, z = va_up L14 116 (sd_O 10 [none, none, none, some (some 117), some (some 118), some (some 119), some (some 120), some (some 121), some (some 122), some (some 123), none, some none, some none, some none, some none, some none, some none, some none, some none, some none, none, none, some none, none, none, none, none, none, none, none, none, none, none, none, none]) := ⟨_, rfl⟩
  show sdW l (sdE0 sc) Y_O_init D (sd_tys dA) b _ _ (va_up L14 116 (sd_O 10 [none, none, none, some (some 117), some (some 118), some (some 119), some (some 120), some (some 121), some (some 122), some (some 123), none, some none, some none, some none, some none, some none, some none, some none, some none, some none, none, none, some none, none, none, none, none, none, none, none, none, none, none, none, none])) ad _ _ _ _ _ _ _ _ _
  rw [← hL15]
  have hn15 : ∀ k, k ≠ 116 → L15 k = L14 k := fun k h => by rw [hL15]; exact va_up_ne _ _ h
  have hl15 : sd_loc 124 L15 := by rw [hL15]; exact sd_loc_at hl14 (fun a a2 f e => by show (Sum.inr (10, sd_fv a f 0 [none, none, none, some (some 117), some (some 118), some (some 119), some (some 120), some (some 121), some (some 122), some (some 123), none, some none, some none, some none, some none, some none, some none, some none, some none, some none, none, none, some none, none, none, none, none, none, none, none, none, none, none, none, none]) : va_E) = Sum.inr (10, sd_fv a2 f 0 [none, none, none, some (some 117), some (some 118), some (some 119), some (some 120), some (some 121), some (some 122), some (some 123), none, some none, some none, some none, some none, some none, some none, some none, some none, some none, none, none, some none, none, none, none, none, none, none, none, none, none, none, none, none]); simp only [sd_fv, sd_fx]; rw [e 117 (by omega), e 118 (by omega), e 119 (by omega), e 120 (by omega), e 121 (by omega), e 122 (by omega), e 123 (by omega)])
  replace hlo : L15 116 = sd_O 10 [none, none, none, some (some 117), some (some 118), some (some 119), some (some 120), some (some 121), some (some 122), some (some 123), none, some none, some none, some none, some none, some none, some none, some none, some none, some none, none, none, some none, none, none, none, none, none, none, none, none, none, none, none, none] := by rw [hL15]; exact va_up_self _ _ _
  clear hL15
  replace hy2 : L15 117 = (sd_I (dA 0) 4) := (hn15 117 (by omega)).trans hy2
  replace hy4 : L15 118 = (sd_I (dA 1) 16) := (hn15 118 (by omega)).trans hy4
  replace hy6 : L15 119 = (sd_I (dA 0) 16) := (hn15 119 (by omega)).trans hy6
  replace hy8 : L15 120 = (sd_I (dA 0) 16) := (hn15 120 (by omega)).trans hy8
  replace hy10 : L15 121 = (sd_I (dA 0) 16) := (hn15 121 (by omega)).trans hy10
  replace hy12 : L15 122 = (sd_I (dA 1) 16) := (hn15 122 (by omega)).trans hy12
  replace hy14 : L15 123 = (sd_I (dA 0) 16) := (hn15 123 (by omega)).trans hy14
  refine x_aload_n 0 0 d_O_init_64 rfl rfl ?_
  refine x_iconst (v := 4) d_O_init_65 (by decide) ?_
  refine x_newI (rc := 9) (rs := 4983) (n := 124) (t0 := 0) (len := 4) hA14 hl15 (List.forall_mem_cons.mpr ⟨(sd_bel_r (by omega)), fun _ h => absurd h List.not_mem_nil⟩) (List.forall_mem_cons.mpr ⟨(sd_bel_r (by omega)), fun _ h => absurd h List.not_mem_nil⟩) d_O_init_66 rfl (by decide) (List.mem_cons_of_mem _ q598) rfl (by decide) (by decide) (by decide) rfl rfl (fun ad16 M16 hA16 hl16 hu16 hq16 e16 => ?_)
  replace hw := hw M16 e16
  clear e16
  have hy16 : va_up L15 124 (sd_I (dA 0) 4) 124 = (sd_I (dA 0) 4) := va_up_self _ _ _
  generalize va_up L15 124 (sd_I (dA 0) 4) = L16 at hl16 hu16 hy16 ⊢
  replace hlo : L16 116 = sd_O 10 [none, none, none, some (some 117), some (some 118), some (some 119), some (some 120), some (some 121), some (some 122), some (some 123), none, some none, some none, some none, some none, some none, some none, some none, some none, some none, none, none, some none, none, none, none, none, none, none, none, none, none, none, none, none] := (hu16.2 116 (by omega)).trans hlo
  replace hy2 : L16 117 = (sd_I (dA 0) 4) := (hu16.2 117 (by omega)).trans hy2
  replace hy4 : L16 118 = (sd_I (dA 1) 16) := (hu16.2 118 (by omega)).trans hy4
  replace hy6 : L16 119 = (sd_I (dA 0) 16) := (hu16.2 119 (by omega)).trans hy6
  replace hy8 : L16 120 = (sd_I (dA 0) 16) := (hu16.2 120 (by omega)).trans hy8
  replace hy10 : L16 121 = (sd_I (dA 0) 16) := (hu16.2 121 (by omega)).trans hy10
  replace hy12 : L16 122 = (sd_I (dA 1) 16) := (hu16.2 122 (by omega)).trans hy12
  replace hy14 : L16 123 = (sd_I (dA 0) 16) := (hu16.2 123 (by omega)).trans hy14
  refine x_putr 11 124 (ty := .array .int) hA16 (fun _ _ _ _ _ _ h => h.2.2.2.2 y_O_init _ _ _ _ rfl) d_O_init_68 (by omega) hlo (Nat.le_of_ble_eq_true rfl) rfl (by decide) lay_O (List.mem_cons_of_mem _ q467) rfl ty_O ty_O_ok nm_O rfl rfl (by decide +kernel) rfl rfl ?_
  obtain ⟨L17, hL17⟩ : ∃ z, z = va_up L16 116 (sd_O 10 [none, none, none, some (some 117), some (some 118), some (some 119), some (some 120), some (some 121), some (some 122), some (some 123), none, some (some 124), some none, some none, some none, some none, some none, some none, some none, some none, none, none, some none, none, none, none, none, none, none, none, none, none, none, none, none]) := ⟨_, rfl⟩
  show sdW l (sdE0 sc) Y_O_init D (sd_tys dA) b _ _ (va_up L16 116 (sd_O 10 [none, none, none, some (some 117), some (some 118), some (some 119), some (some 120), some (some 121), some (some 122), some (some 123), none, some (some 124), some none, some none, some none, some none, some none, some none, some none, some none, none, none, some none, none, none, none, none, none, none, none, none, none, none, none, none])) ad _ _ _ _ _ _ _ _ _
  rw [← hL17]
  have hn17 : ∀ k, k ≠ 116 → L17 k = L16 k := fun k h => by rw [hL17]; exact va_up_ne _ _ h
  have hl17 : sd_loc 125 L17 := by rw [hL17]; exact sd_loc_at hl16 (fun a a2 f e => by show (Sum.inr (10, sd_fv a f 0 [none, none, none, some (some 117), some (some 118), some (some 119), some (some 120), some (some 121), some (some 122), some (some 123), none, some (some 124), some none, some none, some none, some none, some none, some none, some none, some none, none, none, some none, none, none, none, none, none, none, none, none, none, none, none, none]) : va_E) = Sum.inr (10, sd_fv a2 f 0 [none, none, none, some (some 117), some (some 118), some (some 119), some (some 120), some (some 121), some (some 122), some (some 123), none, some (some 124), some none, some none, some none, some none, some none, some none, some none, some none, none, none, some none, none, none, none, none, none, none, none, none, none, none, none, none]); simp only [sd_fv, sd_fx]; rw [e 117 (by omega), e 118 (by omega), e 119 (by omega), e 120 (by omega), e 121 (by omega), e 122 (by omega), e 123 (by omega), e 124 (by omega)])
  replace hlo : L17 116 = sd_O 10 [none, none, none, some (some 117), some (some 118), some (some 119), some (some 120), some (some 121), some (some 122), some (some 123), none, some (some 124), some none, some none, some none, some none, some none, some none, some none, some none, none, none, some none, none, none, none, none, none, none, none, none, none, none, none, none] := by rw [hL17]; exact va_up_self _ _ _
  clear hL17
  replace hy2 : L17 117 = (sd_I (dA 0) 4) := (hn17 117 (by omega)).trans hy2
  replace hy4 : L17 118 = (sd_I (dA 1) 16) := (hn17 118 (by omega)).trans hy4
  replace hy6 : L17 119 = (sd_I (dA 0) 16) := (hn17 119 (by omega)).trans hy6
  replace hy8 : L17 120 = (sd_I (dA 0) 16) := (hn17 120 (by omega)).trans hy8
  replace hy10 : L17 121 = (sd_I (dA 0) 16) := (hn17 121 (by omega)).trans hy10
  replace hy12 : L17 122 = (sd_I (dA 1) 16) := (hn17 122 (by omega)).trans hy12
  replace hy14 : L17 123 = (sd_I (dA 0) 16) := (hn17 123 (by omega)).trans hy14
  replace hy16 : L17 124 = (sd_I (dA 0) 4) := (hn17 124 (by omega)).trans hy16
  refine x_aload_n 0 0 d_O_init_71 rfl rfl ?_
  refine x_iconst (v := 4) d_O_init_72 (by decide) ?_
  refine x_newI (rc := 8) (rs := 4979) (n := 125) (t0 := 0) (len := 4) hA16 hl17 (List.forall_mem_cons.mpr ⟨(sd_bel_r (by omega)), fun _ h => absurd h List.not_mem_nil⟩) (List.forall_mem_cons.mpr ⟨(sd_bel_r (by omega)), fun _ h => absurd h List.not_mem_nil⟩) d_O_init_73 rfl (by decide) (List.mem_cons_of_mem _ q598) rfl (by decide) (by decide) (by decide) rfl rfl (fun ad18 M18 hA18 hl18 hu18 hq18 e18 => ?_)
  replace hw := hw M18 e18
  clear e18
  have hy18 : va_up L17 125 (sd_I (dA 0) 4) 125 = (sd_I (dA 0) 4) := va_up_self _ _ _
  generalize va_up L17 125 (sd_I (dA 0) 4) = L18 at hl18 hu18 hy18 ⊢
  replace hlo : L18 116 = sd_O 10 [none, none, none, some (some 117), some (some 118), some (some 119), some (some 120), some (some 121), some (some 122), some (some 123), none, some (some 124), some none, some none, some none, some none, some none, some none, some none, some none, none, none, some none, none, none, none, none, none, none, none, none, none, none, none, none] := (hu18.2 116 (by omega)).trans hlo
  replace hy2 : L18 117 = (sd_I (dA 0) 4) := (hu18.2 117 (by omega)).trans hy2
  replace hy4 : L18 118 = (sd_I (dA 1) 16) := (hu18.2 118 (by omega)).trans hy4
  replace hy6 : L18 119 = (sd_I (dA 0) 16) := (hu18.2 119 (by omega)).trans hy6
  replace hy8 : L18 120 = (sd_I (dA 0) 16) := (hu18.2 120 (by omega)).trans hy8
  replace hy10 : L18 121 = (sd_I (dA 0) 16) := (hu18.2 121 (by omega)).trans hy10
  replace hy12 : L18 122 = (sd_I (dA 1) 16) := (hu18.2 122 (by omega)).trans hy12
  replace hy14 : L18 123 = (sd_I (dA 0) 16) := (hu18.2 123 (by omega)).trans hy14
  replace hy16 : L18 124 = (sd_I (dA 0) 4) := (hu18.2 124 (by omega)).trans hy16
  refine x_putr 12 125 (ty := .array .int) hA18 (fun _ _ _ _ _ _ h => h.2.2.2.2 y_O_init _ _ _ _ rfl) d_O_init_75 (by omega) hlo (Nat.le_of_ble_eq_true rfl) rfl (by decide) lay_O (List.mem_cons_of_mem _ q468) rfl ty_O ty_O_ok nm_O rfl rfl (by decide +kernel) rfl rfl ?_
  obtain ⟨L19, hL19⟩ : ∃ z, z = va_up L18 116 (sd_O 10 [none, none, none, some (some 117), some (some 118), some (some 119), some (some 120), some (some 121), some (some 122), some (some 123), none, some (some 124), some (some 125), some none, some none, some none, some none, some none, some none, some none, none, none, some none, none, none, none, none, none, none, none, none, none, none, none, none]) := ⟨_, rfl⟩
  show sdW l (sdE0 sc) Y_O_init D (sd_tys dA) b _ _ (va_up L18 116 (sd_O 10 [none, none, none, some (some 117), some (some 118), some (some 119), some (some 120), some (some 121), some (some 122), some (some 123), none, some (some 124), some (some 125), some none, some none, some none, some none, some none, some none, some none, none, none, some none, none, none, none, none, none, none, none, none, none, none, none, none])) ad _ _ _ _ _ _ _ _ _
  rw [← hL19]
  have hn19 : ∀ k, k ≠ 116 → L19 k = L18 k := fun k h => by rw [hL19]; exact va_up_ne _ _ h
  have hl19 : sd_loc 126 L19 := by rw [hL19]; exact sd_loc_at hl18 (fun a a2 f e => by show (Sum.inr (10, sd_fv a f 0 [none, none, none, some (some 117), some (some 118), some (some 119), some (some 120), some (some 121), some (some 122), some (some 123), none, some (some 124), some (some 125), some none, some none, some none, some none, some none, some none, some none, none, none, some none, none, none, none, none, none, none, none, none, none, none, none, none]) : va_E) = Sum.inr (10, sd_fv a2 f 0 [none, none, none, some (some 117), some (some 118), some (some 119), some (some 120), some (some 121), some (some 122), some (some 123), none, some (some 124), some (some 125), some none, some none, some none, some none, some none, some none, some none, none, none, some none, none, none, none, none, none, none, none, none, none, none, none, none]); simp only [sd_fv, sd_fx]; rw [e 117 (by omega), e 118 (by omega), e 119 (by omega), e 120 (by omega), e 121 (by omega), e 122 (by omega), e 123 (by omega), e 124 (by omega), e 125 (by omega)])
  replace hlo : L19 116 = sd_O 10 [none, none, none, some (some 117), some (some 118), some (some 119), some (some 120), some (some 121), some (some 122), some (some 123), none, some (some 124), some (some 125), some none, some none, some none, some none, some none, some none, some none, none, none, some none, none, none, none, none, none, none, none, none, none, none, none, none] := by rw [hL19]; exact va_up_self _ _ _
  clear hL19
  replace hy2 : L19 117 = (sd_I (dA 0) 4) := (hn19 117 (by omega)).trans hy2
  replace hy4 : L19 118 = (sd_I (dA 1) 16) := (hn19 118 (by omega)).trans hy4
  replace hy6 : L19 119 = (sd_I (dA 0) 16) := (hn19 119 (by omega)).trans hy6
  replace hy8 : L19 120 = (sd_I (dA 0) 16) := (hn19 120 (by omega)).trans hy8
  replace hy10 : L19 121 = (sd_I (dA 0) 16) := (hn19 121 (by omega)).trans hy10
  replace hy12 : L19 122 = (sd_I (dA 1) 16) := (hn19 122 (by omega)).trans hy12
  replace hy14 : L19 123 = (sd_I (dA 0) 16) := (hn19 123 (by omega)).trans hy14
  replace hy16 : L19 124 = (sd_I (dA 0) 4) := (hn19 124 (by omega)).trans hy16
  replace hy18 : L19 125 = (sd_I (dA 0) 4) := (hn19 125 (by omega)).trans hy18
  refine x_aload_n 0 0 d_O_init_78 rfl rfl ?_
  refine x_iconst (v := 4) d_O_init_79 (by decide) ?_
  refine x_newI (rc := 7) (rs := 4975) (n := 126) (t0 := 0) (len := 4) hA18 hl19 (List.forall_mem_cons.mpr ⟨(sd_bel_r (by omega)), fun _ h => absurd h List.not_mem_nil⟩) (List.forall_mem_cons.mpr ⟨(sd_bel_r (by omega)), fun _ h => absurd h List.not_mem_nil⟩) d_O_init_80 rfl (by decide) (List.mem_cons_of_mem _ q598) rfl (by decide) (by decide) (by decide) rfl rfl (fun ad20 M20 hA20 hl20 hu20 hq20 e20 => ?_)
  replace hw := hw M20 e20
  clear e20
  have hy20 : va_up L19 126 (sd_I (dA 0) 4) 126 = (sd_I (dA 0) 4) := va_up_self _ _ _
  generalize va_up L19 126 (sd_I (dA 0) 4) = L20 at hl20 hu20 hy20 ⊢
  replace hlo : L20 116 = sd_O 10 [none, none, none, some (some 117), some (some 118), some (some 119), some (some 120), some (some 121), some (some 122), some (some 123), none, some (some 124), some (some 125), some none, some none, some none, some none, some none, some none, some none, none, none, some none, none, none, none, none, none, none, none, none, none, none, none, none] := (hu20.2 116 (by omega)).trans hlo
  replace hy2 : L20 117 = (sd_I (dA 0) 4) := (hu20.2 117 (by omega)).trans hy2
  replace hy4 : L20 118 = (sd_I (dA 1) 16) := (hu20.2 118 (by omega)).trans hy4
  replace hy6 : L20 119 = (sd_I (dA 0) 16) := (hu20.2 119 (by omega)).trans hy6
  replace hy8 : L20 120 = (sd_I (dA 0) 16) := (hu20.2 120 (by omega)).trans hy8
  replace hy10 : L20 121 = (sd_I (dA 0) 16) := (hu20.2 121 (by omega)).trans hy10
  replace hy12 : L20 122 = (sd_I (dA 1) 16) := (hu20.2 122 (by omega)).trans hy12
  replace hy14 : L20 123 = (sd_I (dA 0) 16) := (hu20.2 123 (by omega)).trans hy14
  replace hy16 : L20 124 = (sd_I (dA 0) 4) := (hu20.2 124 (by omega)).trans hy16
  replace hy18 : L20 125 = (sd_I (dA 0) 4) := (hu20.2 125 (by omega)).trans hy18
  refine x_putr 13 126 (ty := .array .int) hA20 (fun _ _ _ _ _ _ h => h.2.2.2.2 y_O_init _ _ _ _ rfl) d_O_init_82 (by omega) hlo (Nat.le_of_ble_eq_true rfl) rfl (by decide) lay_O (List.mem_cons_of_mem _ q469) rfl ty_O ty_O_ok nm_O rfl rfl (by decide +kernel) rfl rfl ?_
  obtain ⟨L21, hL21⟩ : ∃ z, z = va_up L20 116 (sd_O 10 [none, none, none, some (some 117), some (some 118), some (some 119), some (some 120), some (some 121), some (some 122), some (some 123), none, some (some 124), some (some 125), some (some 126), some none, some none, some none, some none, some none, some none, none, none, some none, none, none, none, none, none, none, none, none, none, none, none, none]) := ⟨_, rfl⟩
  show sdW l (sdE0 sc) Y_O_init D (sd_tys dA) b _ _ (va_up L20 116 (sd_O 10 [none, none, none, some (some 117), some (some 118), some (some 119), some (some 120), some (some 121), some (some 122), some (some 123), none, some (some 124), some (some 125), some (some 126), some none, some none, some none, some none, some none, some none, none, none, some none, none, none, none, none, none, none, none, none, none, none, none, none])) ad _ _ _ _ _ _ _ _ _
  rw [← hL21]
  have hn21 : ∀ k, k ≠ 116 → L21 k = L20 k := fun k h => by rw [hL21]; exact va_up_ne _ _ h
  have hl21 : sd_loc 127 L21 := by rw [hL21]; exact sd_loc_at hl20 (fun a a2 f e => by show (Sum.inr (10, sd_fv a f 0 [none, none, none, some (some 117), some (some 118), some (some 119), some (some 120), some (some 121), some (some 122), some (some 123), none, some (some 124), some (some 125), some (some 126), some none, some none, some none, some none, some none, some none, none, none, some none, none, none, none, none, none, none, none, none, none, none, none, none]) : va_E) = Sum.inr (10, sd_fv a2 f 0 [none, none, none, some (some 117), some (some 118), some (some 119), some (some 120), some (some 121), some (some 122), some (some 123), none, some (some 124), some (some 125), some (some 126), some none, some none, some none, some none, some none, some none, none, none, some none, none, none, none, none, none, none, none, none, none, none, none, none]); simp only [sd_fv, sd_fx]; rw [e 117 (by omega), e 118 (by omega), e 119 (by omega), e 120 (by omega), e 121 (by omega), e 122 (by omega), e 123 (by omega), e 124 (by omega), e 125 (by omega), e 126 (by omega)])
  replace hlo : L21 116 = sd_O 10 [none, none, none, some (some 117), some (some 118), some (some 119), some (some 120), some (some 121), some (some 122), some (some 123), none, some (some 124), some (some 125), some (some 126), some none, some none, some none, some none, some none, some none, none, none, some none, none, none, none, none, none, none, none, none, none, none, none, none] := by rw [hL21]; exact va_up_self _ _ _
  clear hL21
  replace hy2 : L21 117 = (sd_I (dA 0) 4) := (hn21 117 (by omega)).trans hy2
  replace hy4 : L21 118 = (sd_I (dA 1) 16) := (hn21 118 (by omega)).trans hy4
  replace hy6 : L21 119 = (sd_I (dA 0) 16) := (hn21 119 (by omega)).trans hy6
  replace hy8 : L21 120 = (sd_I (dA 0) 16) := (hn21 120 (by omega)).trans hy8
  replace hy10 : L21 121 = (sd_I (dA 0) 16) := (hn21 121 (by omega)).trans hy10
  replace hy12 : L21 122 = (sd_I (dA 1) 16) := (hn21 122 (by omega)).trans hy12
  replace hy14 : L21 123 = (sd_I (dA 0) 16) := (hn21 123 (by omega)).trans hy14
  replace hy16 : L21 124 = (sd_I (dA 0) 4) := (hn21 124 (by omega)).trans hy16
  replace hy18 : L21 125 = (sd_I (dA 0) 4) := (hn21 125 (by omega)).trans hy18
  replace hy20 : L21 126 = (sd_I (dA 0) 4) := (hn21 126 (by omega)).trans hy20
  refine x_aload_n 0 0 d_O_init_85 rfl rfl ?_
  refine x_iconst (v := 4) d_O_init_86 (by decide) ?_
  refine x_newI (rc := 6) (rs := 4971) (n := 127) (t0 := 0) (len := 4) hA20 hl21 (List.forall_mem_cons.mpr ⟨(sd_bel_r (by omega)), fun _ h => absurd h List.not_mem_nil⟩) (List.forall_mem_cons.mpr ⟨(sd_bel_r (by omega)), fun _ h => absurd h List.not_mem_nil⟩) d_O_init_87 rfl (by decide) (List.mem_cons_of_mem _ q598) rfl (by decide) (by decide) (by decide) rfl rfl (fun ad22 M22 hA22 hl22 hu22 hq22 e22 => ?_)
  replace hw := hw M22 e22
  clear e22
  have hy22 : va_up L21 127 (sd_I (dA 0) 4) 127 = (sd_I (dA 0) 4) := va_up_self _ _ _
  generalize va_up L21 127 (sd_I (dA 0) 4) = L22 at hl22 hu22 hy22 ⊢
  replace hlo : L22 116 = sd_O 10 [none, none, none, some (some 117), some (some 118), some (some 119), some (some 120), some (some 121), some (some 122), some (some 123), none, some (some 124), some (some 125), some (some 126), some none, some none, some none, some none, some none, some none, none, none, some none, none, none, none, none, none, none, none, none, none, none, none, none] := (hu22.2 116 (by omega)).trans hlo
  replace hy2 : L22 117 = (sd_I (dA 0) 4) := (hu22.2 117 (by omega)).trans hy2
  replace hy4 : L22 118 = (sd_I (dA 1) 16) := (hu22.2 118 (by omega)).trans hy4
  replace hy6 : L22 119 = (sd_I (dA 0) 16) := (hu22.2 119 (by omega)).trans hy6
  replace hy8 : L22 120 = (sd_I (dA 0) 16) := (hu22.2 120 (by omega)).trans hy8
  replace hy10 : L22 121 = (sd_I (dA 0) 16) := (hu22.2 121 (by omega)).trans hy10
  replace hy12 : L22 122 = (sd_I (dA 1) 16) := (hu22.2 122 (by omega)).trans hy12
  replace hy14 : L22 123 = (sd_I (dA 0) 16) := (hu22.2 123 (by omega)).trans hy14
  replace hy16 : L22 124 = (sd_I (dA 0) 4) := (hu22.2 124 (by omega)).trans hy16
  replace hy18 : L22 125 = (sd_I (dA 0) 4) := (hu22.2 125 (by omega)).trans hy18
  replace hy20 : L22 126 = (sd_I (dA 0) 4) := (hu22.2 126 (by omega)).trans hy20
  refine x_putr 14 127 (ty := .array .int) hA22 (fun _ _ _ _ _ _ h => h.2.2.2.2 y_O_init _ _ _ _ rfl) d_O_init_89 (by omega) hlo (Nat.le_of_ble_eq_true rfl) rfl (by decide) lay_O (List.mem_cons_of_mem _ q470) rfl ty_O ty_O_ok nm_O rfl rfl (by decide +kernel) rfl rfl ?_
  obtain ⟨L23, hL23⟩ : ∃ z, z = va_up L22 116 (sd_O 10 [none, none, none, some (some 117), some (some 118), some (some 119), some (some 120), some (some 121), some (some 122), some (some 123), none, some (some 124), some (some 125), some (some 126), some (some 127), some none, some none, some none, some none, some none, none, none, some none, none, none, none, none, none, none, none, none, none, none, none, none]) := ⟨_, rfl⟩
  show sdW l (sdE0 sc) Y_O_init D (sd_tys dA) b _ _ (va_up L22 116 (sd_O 10 [none, none, none, some (some 117), some (some 118), some (some 119), some (some 120), some (some 121), some (some 122), some (some 123), none, some (some 124), some (some 125), some (some 126), some (some 127), some none, some none, some none, some none, some none, none, none, some none, none, none, none, none, none, none, none, none, none, none, none, none])) ad _ _ _ _ _ _ _ _ _
  rw [← hL23]
  have hn23 : ∀ k, k ≠ 116 → L23 k = L22 k := fun k h => by rw [hL23]; exact va_up_ne _ _ h
  have hl23 : sd_loc 128 L23 := by rw [hL23]; exact sd_loc_at hl22 (fun a a2 f e => by show (Sum.inr (10, sd_fv a f 0 [none, none, none, some (some 117), some (some 118), some (some 119), some (some 120), some (some 121), some (some 122), some (some 123), none, some (some 124), some (some 125), some (some 126), some (some 127), some none, some none, some none, some none, some none, none, none, some none, none, none, none, none, none, none, none, none, none, none, none, none]) : va_E) = Sum.inr (10, sd_fv a2 f 0 [none, none, none, some (some 117), some (some 118), some (some 119), some (some 120), some (some 121), some (some 122), some (some 123), none, some (some 124), some (some 125), some (some 126), some (some 127), some none, some none, some none, some none, some none, none, none, some none, none, none, none, none, none, none, none, none, none, none, none, none]); simp only [sd_fv, sd_fx]; rw [e 117 (by omega), e 118 (by omega), e 119 (by omega), e 120 (by omega), e 121 (by omega), e 122 (by omega), e 123 (by omega), e 124 (by omega), e 125 (by omega), e 126 (by omega), e 127 (by omega)])
  replace hlo : L23 116 = sd_O 10 [none, none, none, some (some 117), some (some 118), some (some 119), some (some 120), some (some 121), some (some 122), some (some 123), none, some (some 124), some (some 125), some (some 126), some (some 127), some none, some none, some none, some none, some none, none, none, some none, none, none, none, none, none, none, none, none, none, none, none, none] := by rw [hL23]; exact va_up_self _ _ _
  clear hL23
  replace hy2 : L23 117 = (sd_I (dA 0) 4) := (hn23 117 (by omega)).trans hy2
  replace hy4 : L23 118 = (sd_I (dA 1) 16) := (hn23 118 (by omega)).trans hy4
  replace hy6 : L23 119 = (sd_I (dA 0) 16) := (hn23 119 (by omega)).trans hy6
  replace hy8 : L23 120 = (sd_I (dA 0) 16) := (hn23 120 (by omega)).trans hy8
  replace hy10 : L23 121 = (sd_I (dA 0) 16) := (hn23 121 (by omega)).trans hy10
  replace hy12 : L23 122 = (sd_I (dA 1) 16) := (hn23 122 (by omega)).trans hy12
  replace hy14 : L23 123 = (sd_I (dA 0) 16) := (hn23 123 (by omega)).trans hy14
  replace hy16 : L23 124 = (sd_I (dA 0) 4) := (hn23 124 (by omega)).trans hy16
  replace hy18 : L23 125 = (sd_I (dA 0) 4) := (hn23 125 (by omega)).trans hy18
  replace hy20 : L23 126 = (sd_I (dA 0) 4) := (hn23 126 (by omega)).trans hy20
  replace hy22 : L23 127 = (sd_I (dA 0) 4) := (hn23 127 (by omega)).trans hy22
  refine x_aload_n 0 0 d_O_init_92 rfl rfl ?_
  refine x_iconst (v := 4) d_O_init_93 (by decide) ?_
  refine x_newI (rc := 5) (rs := 4967) (n := 128) (t0 := 1) (len := 4) hA22 hl23 (List.forall_mem_cons.mpr ⟨(sd_bel_r (by omega)), fun _ h => absurd h List.not_mem_nil⟩) (List.forall_mem_cons.mpr ⟨(sd_bel_r (by omega)), fun _ h => absurd h List.not_mem_nil⟩) d_O_init_94 rfl (by decide) (List.mem_cons_of_mem _ q630) rfl (by decide) (by decide) (by decide) rfl rfl (fun ad24 M24 hA24 hl24 hu24 hq24 e24 => ?_)
  replace hw := hw M24 e24
  clear e24
  have hy24 : va_up L23 128 (sd_I (dA 1) 4) 128 = (sd_I (dA 1) 4) := va_up_self _ _ _
  generalize va_up L23 128 (sd_I (dA 1) 4) = L24 at hl24 hu24 hy24 ⊢
  replace hlo : L24 116 = sd_O 10 [none, none, none, some (some 117), some (some 118), some (some 119), some (some 120), some (some 121), some (some 122), some (some 123), none, some (some 124), some (some 125), some (some 126), some (some 127), some none, some none, some none, some none, some none, none, none, some none, none, none, none, none, none, none, none, none, none, none, none, none] := (hu24.2 116 (by omega)).trans hlo
  replace hy2 : L24 117 = (sd_I (dA 0) 4) := (hu24.2 117 (by omega)).trans hy2
  replace hy4 : L24 118 = (sd_I (dA 1) 16) := (hu24.2 118 (by omega)).trans hy4
  replace hy6 : L24 119 = (sd_I (dA 0) 16) := (hu24.2 119 (by omega)).trans hy6
  replace hy8 : L24 120 = (sd_I (dA 0) 16) := (hu24.2 120 (by omega)).trans hy8
  replace hy10 : L24 121 = (sd_I (dA 0) 16) := (hu24.2 121 (by omega)).trans hy10
  replace hy12 : L24 122 = (sd_I (dA 1) 16) := (hu24.2 122 (by omega)).trans hy12
  replace hy14 : L24 123 = (sd_I (dA 0) 16) := (hu24.2 123 (by omega)).trans hy14
  replace hy16 : L24 124 = (sd_I (dA 0) 4) := (hu24.2 124 (by omega)).trans hy16
  replace hy18 : L24 125 = (sd_I (dA 0) 4) := (hu24.2 125 (by omega)).trans hy18
  replace hy20 : L24 126 = (sd_I (dA 0) 4) := (hu24.2 126 (by omega)).trans hy20
  replace hy22 : L24 127 = (sd_I (dA 0) 4) := (hu24.2 127 (by omega)).trans hy22
  refine x_putr 15 128 (ty := .array .boolean) hA24 (fun _ _ _ _ _ _ h => h.2.2.2.2 y_O_init _ _ _ _ rfl) d_O_init_96 (by omega) hlo (Nat.le_of_ble_eq_true rfl) rfl (by decide) lay_O (List.mem_cons_of_mem _ q471) rfl ty_O ty_O_ok nm_O rfl rfl (by decide +kernel) rfl rfl ?_
  obtain ⟨L25, hL25⟩ : ∃ z, z = va_up L24 116 (sd_O 10 [none, none, none, some (some 117), some (some 118), some (some 119), some (some 120), some (some 121), some (some 122), some (some 123), none, some (some 124), some (some 125), some (some 126), some (some 127), some (some 128), some none, some none, some none, some none, none, none, some none, none, none, none, none, none, none, none, none, none, none, none, none]) := ⟨_, rfl⟩
  show sdW l (sdE0 sc) Y_O_init D (sd_tys dA) b _ _ (va_up L24 116 (sd_O 10 [none, none, none, some (some 117), some (some 118), some (some 119), some (some 120), some (some 121), some (some 122), some (some 123), none, some (some 124), some (some 125), some (some 126), some (some 127), some (some 128), some none, some none, some none, some none, none, none, some none, none, none, none, none, none, none, none, none, none, none, none, none])) ad _ _ _ _ _ _ _ _ _
  rw [← hL25]
  have hn25 : ∀ k, k ≠ 116 → L25 k = L24 k := fun k h => by rw [hL25]; exact va_up_ne _ _ h
  have hl25 : sd_loc 129 L25 := by rw [hL25]; exact sd_loc_at hl24 (fun a a2 f e => by show (Sum.inr (10, sd_fv a f 0 [none, none, none, some (some 117), some (some 118), some (some 119), some (some 120), some (some 121), some (some 122), some (some 123), none, some (some 124), some (some 125), some (some 126), some (some 127), some (some 128), some none, some none, some none, some none, none, none, some none, none, none, none, none, none, none, none, none, none, none, none, none]) : va_E) = Sum.inr (10, sd_fv a2 f 0 [none, none, none, some (some 117), some (some 118), some (some 119), some (some 120), some (some 121), some (some 122), some (some 123), none, some (some 124), some (some 125), some (some 126), some (some 127), some (some 128), some none, some none, some none, some none, none, none, some none, none, none, none, none, none, none, none, none, none, none, none, none]); simp only [sd_fv, sd_fx]; rw [e 117 (by omega), e 118 (by omega), e 119 (by omega), e 120 (by omega), e 121 (by omega), e 122 (by omega), e 123 (by omega), e 124 (by omega), e 125 (by omega), e 126 (by omega), e 127 (by omega), e 128 (by omega)])
  replace hlo : L25 116 = sd_O 10 [none, none, none, some (some 117), some (some 118), some (some 119), some (some 120), some (some 121), some (some 122), some (some 123), none, some (some 124), some (some 125), some (some 126), some (some 127), some (some 128), some none, some none, some none, some none, none, none, some none, none, none, none, none, none, none, none, none, none, none, none, none] := by rw [hL25]; exact va_up_self _ _ _
  clear hL25
  replace hy2 : L25 117 = (sd_I (dA 0) 4) := (hn25 117 (by omega)).trans hy2
  replace hy4 : L25 118 = (sd_I (dA 1) 16) := (hn25 118 (by omega)).trans hy4
  replace hy6 : L25 119 = (sd_I (dA 0) 16) := (hn25 119 (by omega)).trans hy6
  replace hy8 : L25 120 = (sd_I (dA 0) 16) := (hn25 120 (by omega)).trans hy8
  replace hy10 : L25 121 = (sd_I (dA 0) 16) := (hn25 121 (by omega)).trans hy10
  replace hy12 : L25 122 = (sd_I (dA 1) 16) := (hn25 122 (by omega)).trans hy12
  replace hy14 : L25 123 = (sd_I (dA 0) 16) := (hn25 123 (by omega)).trans hy14
  replace hy16 : L25 124 = (sd_I (dA 0) 4) := (hn25 124 (by omega)).trans hy16
  replace hy18 : L25 125 = (sd_I (dA 0) 4) := (hn25 125 (by omega)).trans hy18
  replace hy20 : L25 126 = (sd_I (dA 0) 4) := (hn25 126 (by omega)).trans hy20
  replace hy22 : L25 127 = (sd_I (dA 0) 4) := (hn25 127 (by omega)).trans hy22
  replace hy24 : L25 128 = (sd_I (dA 1) 4) := (hn25 128 (by omega)).trans hy24
  refine x_aload_n 0 0 d_O_init_99 rfl rfl ?_
  refine x_bipush (v := 68) d_O_init_100 (by decide) ?_
  refine x_newI (rc := 4) (rs := 4899) (n := 129) (t0 := 0) (len := 68) hA24 hl25 (List.forall_mem_cons.mpr ⟨(sd_bel_r (by omega)), fun _ h => absurd h List.not_mem_nil⟩) (List.forall_mem_cons.mpr ⟨(sd_bel_r (by omega)), fun _ h => absurd h List.not_mem_nil⟩) d_O_init_102 rfl (by decide) (List.mem_cons_of_mem _ q598) rfl (by decide) (by decide) (by decide) rfl rfl (fun ad26 M26 hA26 hl26 hu26 hq26 e26 => ?_)
  replace hw := hw M26 e26
  clear e26
  have hy26 : va_up L25 129 (sd_I (dA 0) 68) 129 = (sd_I (dA 0) 68) := va_up_self _ _ _
  generalize va_up L25 129 (sd_I (dA 0) 68) = L26 at hl26 hu26 hy26 ⊢
  replace hlo : L26 116 = sd_O 10 [none, none, none, some (some 117), some (some 118), some (some 119), some (some 120), some (some 121), some (some 122), some (some 123), none, some (some 124), some (some 125), some (some 126), some (some 127), some (some 128), some none, some none, some none, some none, none, none, some none, none, none, none, none, none, none, none, none, none, none, none, none] := (hu26.2 116 (by omega)).trans hlo
  replace hy2 : L26 117 = (sd_I (dA 0) 4) := (hu26.2 117 (by omega)).trans hy2
  replace hy4 : L26 118 = (sd_I (dA 1) 16) := (hu26.2 118 (by omega)).trans hy4
  replace hy6 : L26 119 = (sd_I (dA 0) 16) := (hu26.2 119 (by omega)).trans hy6
  replace hy8 : L26 120 = (sd_I (dA 0) 16) := (hu26.2 120 (by omega)).trans hy8
  replace hy10 : L26 121 = (sd_I (dA 0) 16) := (hu26.2 121 (by omega)).trans hy10
  replace hy12 : L26 122 = (sd_I (dA 1) 16) := (hu26.2 122 (by omega)).trans hy12
  replace hy14 : L26 123 = (sd_I (dA 0) 16) := (hu26.2 123 (by omega)).trans hy14
  replace hy16 : L26 124 = (sd_I (dA 0) 4) := (hu26.2 124 (by omega)).trans hy16
  replace hy18 : L26 125 = (sd_I (dA 0) 4) := (hu26.2 125 (by omega)).trans hy18
  replace hy20 : L26 126 = (sd_I (dA 0) 4) := (hu26.2 126 (by omega)).trans hy20
  replace hy22 : L26 127 = (sd_I (dA 0) 4) := (hu26.2 127 (by omega)).trans hy22
  replace hy24 : L26 128 = (sd_I (dA 1) 4) := (hu26.2 128 (by omega)).trans hy24
  refine x_putr 16 129 (ty := .array .int) hA26 (fun _ _ _ _ _ _ h => h.2.2.2.2 y_O_init _ _ _ _ rfl) d_O_init_104 (by omega) hlo (Nat.le_of_ble_eq_true rfl) rfl (by decide) lay_O (List.mem_cons_of_mem _ q478) rfl ty_O ty_O_ok nm_O rfl rfl (by decide +kernel) rfl rfl ?_
  obtain ⟨L27, hL27⟩ : ∃ z, z = va_up L26 116 (sd_O 10 [none, none, none, some (some 117), some (some 118), some (some 119), some (some 120), some (some 121), some (some 122), some (some 123), none, some (some 124), some (some 125), some (some 126), some (some 127), some (some 128), some (some 129), some none, some none, some none, none, none, some none, none, none, none, none, none, none, none, none, none, none, none, none]) := ⟨_, rfl⟩
  show sdW l (sdE0 sc) Y_O_init D (sd_tys dA) b _ _ (va_up L26 116 (sd_O 10 [none, none, none, some (some 117), some (some 118), some (some 119), some (some 120), some (some 121), some (some 122), some (some 123), none, some (some 124), some (some 125), some (some 126), some (some 127), some (some 128), some (some 129), some none, some none, some none, none, none, some none, none, none, none, none, none, none, none, none, none, none, none, none])) ad _ _ _ _ _ _ _ _ _
  rw [← hL27]
  have hn27 : ∀ k, k ≠ 116 → L27 k = L26 k := fun k h => by rw [hL27]; exact va_up_ne _ _ h
  have hl27 : sd_loc 130 L27 := by rw [hL27]; exact sd_loc_at hl26 (fun a a2 f e => by show (Sum.inr (10, sd_fv a f 0 [none, none, none, some (some 117), some (some 118), some (some 119), some (some 120), some (some 121), some (some 122), some (some 123), none, some (some 124), some (some 125), some (some 126), some (some 127), some (some 128), some (some 129), some none, some none, some none, none, none, some none, none, none, none, none, none, none, none, none, none, none, none, none]) : va_E) = Sum.inr (10, sd_fv a2 f 0 [none, none, none, some (some 117), some (some 118), some (some 119), some (some 120), some (some 121), some (some 122), some (some 123), none, some (some 124), some (some 125), some (some 126), some (some 127), some (some 128), some (some 129), some none, some none, some none, none, none, some none, none, none, none, none, none, none, none, none, none, none, none, none]); simp only [sd_fv, sd_fx]; rw [e 117 (by omega), e 118 (by omega), e 119 (by omega), e 120 (by omega), e 121 (by omega), e 122 (by omega), e 123 (by omega), e 124 (by omega), e 125 (by omega), e 126 (by omega), e 127 (by omega), e 128 (by omega), e 129 (by omega)])
  replace hlo : L27 116 = sd_O 10 [none, none, none, some (some 117), some (some 118), some (some 119), some (some 120), some (some 121), some (some 122), some (some 123), none, some (some 124), some (some 125), some (some 126), some (some 127), some (some 128), some (some 129), some none, some none, some none, none, none, some none, none, none, none, none, none, none, none, none, none, none, none, none] := by rw [hL27]; exact va_up_self _ _ _
  clear hL27
  replace hy2 : L27 117 = (sd_I (dA 0) 4) := (hn27 117 (by omega)).trans hy2
  replace hy4 : L27 118 = (sd_I (dA 1) 16) := (hn27 118 (by omega)).trans hy4
  replace hy6 : L27 119 = (sd_I (dA 0) 16) := (hn27 119 (by omega)).trans hy6
  replace hy8 : L27 120 = (sd_I (dA 0) 16) := (hn27 120 (by omega)).trans hy8
  replace hy10 : L27 121 = (sd_I (dA 0) 16) := (hn27 121 (by omega)).trans hy10
  replace hy12 : L27 122 = (sd_I (dA 1) 16) := (hn27 122 (by omega)).trans hy12
  replace hy14 : L27 123 = (sd_I (dA 0) 16) := (hn27 123 (by omega)).trans hy14
  replace hy16 : L27 124 = (sd_I (dA 0) 4) := (hn27 124 (by omega)).trans hy16
  replace hy18 : L27 125 = (sd_I (dA 0) 4) := (hn27 125 (by omega)).trans hy18
  replace hy20 : L27 126 = (sd_I (dA 0) 4) := (hn27 126 (by omega)).trans hy20
  replace hy22 : L27 127 = (sd_I (dA 0) 4) := (hn27 127 (by omega)).trans hy22
  replace hy24 : L27 128 = (sd_I (dA 1) 4) := (hn27 128 (by omega)).trans hy24
  replace hy26 : L27 129 = (sd_I (dA 0) 68) := (hn27 129 (by omega)).trans hy26
  refine x_aload_n 0 0 d_O_init_107 rfl rfl ?_
  refine x_sipush (v := 816) d_O_init_108 (by decide) ?_
  refine x_newI (rc := 3) (rs := 4083) (n := 130) (t0 := 0) (len := 816) hA26 hl27 (List.forall_mem_cons.mpr ⟨(sd_bel_r (by omega)), fun _ h => absurd h List.not_mem_nil⟩) (List.forall_mem_cons.mpr ⟨(sd_bel_r (by omega)), fun _ h => absurd h List.not_mem_nil⟩) d_O_init_111 rfl (by decide) (List.mem_cons_of_mem _ q598) rfl (by decide) (by decide) (by decide) rfl rfl (fun ad28 M28 hA28 hl28 hu28 hq28 e28 => ?_)
  replace hw := hw M28 e28
  clear e28
  have hy28 : va_up L27 130 (sd_I (dA 0) 816) 130 = (sd_I (dA 0) 816) := va_up_self _ _ _
  generalize va_up L27 130 (sd_I (dA 0) 816) = L28 at hl28 hu28 hy28 ⊢
  replace hlo : L28 116 = sd_O 10 [none, none, none, some (some 117), some (some 118), some (some 119), some (some 120), some (some 121), some (some 122), some (some 123), none, some (some 124), some (some 125), some (some 126), some (some 127), some (some 128), some (some 129), some none, some none, some none, none, none, some none, none, none, none, none, none, none, none, none, none, none, none, none] := (hu28.2 116 (by omega)).trans hlo
  replace hy2 : L28 117 = (sd_I (dA 0) 4) := (hu28.2 117 (by omega)).trans hy2
  replace hy4 : L28 118 = (sd_I (dA 1) 16) := (hu28.2 118 (by omega)).trans hy4
  replace hy6 : L28 119 = (sd_I (dA 0) 16) := (hu28.2 119 (by omega)).trans hy6
  replace hy8 : L28 120 = (sd_I (dA 0) 16) := (hu28.2 120 (by omega)).trans hy8
  replace hy10 : L28 121 = (sd_I (dA 0) 16) := (hu28.2 121 (by omega)).trans hy10
  replace hy12 : L28 122 = (sd_I (dA 1) 16) := (hu28.2 122 (by omega)).trans hy12
  replace hy14 : L28 123 = (sd_I (dA 0) 16) := (hu28.2 123 (by omega)).trans hy14
  replace hy16 : L28 124 = (sd_I (dA 0) 4) := (hu28.2 124 (by omega)).trans hy16
  replace hy18 : L28 125 = (sd_I (dA 0) 4) := (hu28.2 125 (by omega)).trans hy18
  replace hy20 : L28 126 = (sd_I (dA 0) 4) := (hu28.2 126 (by omega)).trans hy20
  replace hy22 : L28 127 = (sd_I (dA 0) 4) := (hu28.2 127 (by omega)).trans hy22
  replace hy24 : L28 128 = (sd_I (dA 1) 4) := (hu28.2 128 (by omega)).trans hy24
  replace hy26 : L28 129 = (sd_I (dA 0) 68) := (hu28.2 129 (by omega)).trans hy26
  refine x_putr 17 130 (ty := .array .int) hA28 (fun _ _ _ _ _ _ h => h.2.2.2.2 y_O_init _ _ _ _ rfl) d_O_init_113 (by omega) hlo (Nat.le_of_ble_eq_true rfl) rfl (by decide) lay_O (List.mem_cons_of_mem _ q479) rfl ty_O ty_O_ok nm_O rfl rfl (by decide +kernel) rfl rfl ?_
  obtain ⟨L29, hL29⟩ : ∃ z, z = va_up L28 116 (sd_O 10 [none, none, none, some (some 117), some (some 118), some (some 119), some (some 120), some (some 121), some (some 122), some (some 123), none, some (some 124), some (some 125), some (some 126), some (some 127), some (some 128), some (some 129), some (some 130), some none, some none, none, none, some none, none, none, none, none, none, none, none, none, none, none, none, none]) := ⟨_, rfl⟩
  show sdW l (sdE0 sc) Y_O_init D (sd_tys dA) b _ _ (va_up L28 116 (sd_O 10 [none, none, none, some (some 117), some (some 118), some (some 119), some (some 120), some (some 121), some (some 122), some (some 123), none, some (some 124), some (some 125), some (some 126), some (some 127), some (some 128), some (some 129), some (some 130), some none, some none, none, none, some none, none, none, none, none, none, none, none, none, none, none, none, none])) ad _ _ _ _ _ _ _ _ _
  rw [← hL29]
  have hn29 : ∀ k, k ≠ 116 → L29 k = L28 k := fun k h => by rw [hL29]; exact va_up_ne _ _ h
  have hl29 : sd_loc 131 L29 := by rw [hL29]; exact sd_loc_at hl28 (fun a a2 f e => by show (Sum.inr (10, sd_fv a f 0 [none, none, none, some (some 117), some (some 118), some (some 119), some (some 120), some (some 121), some (some 122), some (some 123), none, some (some 124), some (some 125), some (some 126), some (some 127), some (some 128), some (some 129), some (some 130), some none, some none, none, none, some none, none, none, none, none, none, none, none, none, none, none, none, none]) : va_E) = Sum.inr (10, sd_fv a2 f 0 [none, none, none, some (some 117), some (some 118), some (some 119), some (some 120), some (some 121), some (some 122), some (some 123), none, some (some 124), some (some 125), some (some 126), some (some 127), some (some 128), some (some 129), some (some 130), some none, some none, none, none, some none, none, none, none, none, none, none, none, none, none, none, none, none]); simp only [sd_fv, sd_fx]; rw [e 117 (by omega), e 118 (by omega), e 119 (by omega), e 120 (by omega), e 121 (by omega), e 122 (by omega), e 123 (by omega), e 124 (by omega), e 125 (by omega), e 126 (by omega), e 127 (by omega), e 128 (by omega), e 129 (by omega), e 130 (by omega)])
  replace hlo : L29 116 = sd_O 10 [none, none, none, some (some 117), some (some 118), some (some 119), some (some 120), some (some 121), some (some 122), some (some 123), none, some (some 124), some (some 125), some (some 126), some (some 127), some (some 128), some (some 129), some (some 130), some none, some none, none, none, some none, none, none, none, none, none, none, none, none, none, none, none, none] := by rw [hL29]; exact va_up_self _ _ _
  clear hL29
  replace hy2 : L29 117 = (sd_I (dA 0) 4) := (hn29 117 (by omega)).trans hy2
  replace hy4 : L29 118 = (sd_I (dA 1) 16) := (hn29 118 (by omega)).trans hy4
  replace hy6 : L29 119 = (sd_I (dA 0) 16) := (hn29 119 (by omega)).trans hy6
  replace hy8 : L29 120 = (sd_I (dA 0) 16) := (hn29 120 (by omega)).trans hy8
  replace hy10 : L29 121 = (sd_I (dA 0) 16) := (hn29 121 (by omega)).trans hy10
  replace hy12 : L29 122 = (sd_I (dA 1) 16) := (hn29 122 (by omega)).trans hy12
  replace hy14 : L29 123 = (sd_I (dA 0) 16) := (hn29 123 (by omega)).trans hy14
  replace hy16 : L29 124 = (sd_I (dA 0) 4) := (hn29 124 (by omega)).trans hy16
  replace hy18 : L29 125 = (sd_I (dA 0) 4) := (hn29 125 (by omega)).trans hy18
  replace hy20 : L29 126 = (sd_I (dA 0) 4) := (hn29 126 (by omega)).trans hy20
  replace hy22 : L29 127 = (sd_I (dA 0) 4) := (hn29 127 (by omega)).trans hy22
  replace hy24 : L29 128 = (sd_I (dA 1) 4) := (hn29 128 (by omega)).trans hy24
  replace hy26 : L29 129 = (sd_I (dA 0) 68) := (hn29 129 (by omega)).trans hy26
  replace hy28 : L29 130 = (sd_I (dA 0) 816) := (hn29 130 (by omega)).trans hy28
  refine x_aload_n 0 0 d_O_init_116 rfl rfl ?_
  refine x_sipush (v := 816) d_O_init_117 (by decide) ?_
  refine x_newI (rc := 2) (rs := 3267) (n := 131) (t0 := 0) (len := 816) hA28 hl29 (List.forall_mem_cons.mpr ⟨(sd_bel_r (by omega)), fun _ h => absurd h List.not_mem_nil⟩) (List.forall_mem_cons.mpr ⟨(sd_bel_r (by omega)), fun _ h => absurd h List.not_mem_nil⟩) d_O_init_120 rfl (by decide) (List.mem_cons_of_mem _ q598) rfl (by decide) (by decide) (by decide) rfl rfl (fun ad30 M30 hA30 hl30 hu30 hq30 e30 => ?_)
  replace hw := hw M30 e30
  clear e30
  have hy30 : va_up L29 131 (sd_I (dA 0) 816) 131 = (sd_I (dA 0) 816) := va_up_self _ _ _
  generalize va_up L29 131 (sd_I (dA 0) 816) = L30 at hl30 hu30 hy30 ⊢
  replace hlo : L30 116 = sd_O 10 [none, none, none, some (some 117), some (some 118), some (some 119), some (some 120), some (some 121), some (some 122), some (some 123), none, some (some 124), some (some 125), some (some 126), some (some 127), some (some 128), some (some 129), some (some 130), some none, some none, none, none, some none, none, none, none, none, none, none, none, none, none, none, none, none] := (hu30.2 116 (by omega)).trans hlo
  replace hy2 : L30 117 = (sd_I (dA 0) 4) := (hu30.2 117 (by omega)).trans hy2
  replace hy4 : L30 118 = (sd_I (dA 1) 16) := (hu30.2 118 (by omega)).trans hy4
  replace hy6 : L30 119 = (sd_I (dA 0) 16) := (hu30.2 119 (by omega)).trans hy6
  replace hy8 : L30 120 = (sd_I (dA 0) 16) := (hu30.2 120 (by omega)).trans hy8
  replace hy10 : L30 121 = (sd_I (dA 0) 16) := (hu30.2 121 (by omega)).trans hy10
  replace hy12 : L30 122 = (sd_I (dA 1) 16) := (hu30.2 122 (by omega)).trans hy12
  replace hy14 : L30 123 = (sd_I (dA 0) 16) := (hu30.2 123 (by omega)).trans hy14
  replace hy16 : L30 124 = (sd_I (dA 0) 4) := (hu30.2 124 (by omega)).trans hy16
  replace hy18 : L30 125 = (sd_I (dA 0) 4) := (hu30.2 125 (by omega)).trans hy18
  replace hy20 : L30 126 = (sd_I (dA 0) 4) := (hu30.2 126 (by omega)).trans hy20
  replace hy22 : L30 127 = (sd_I (dA 0) 4) := (hu30.2 127 (by omega)).trans hy22
  replace hy24 : L30 128 = (sd_I (dA 1) 4) := (hu30.2 128 (by omega)).trans hy24
  replace hy26 : L30 129 = (sd_I (dA 0) 68) := (hu30.2 129 (by omega)).trans hy26
  replace hy28 : L30 130 = (sd_I (dA 0) 816) := (hu30.2 130 (by omega)).trans hy28
  refine x_putr 18 131 (ty := .array .int) hA30 (fun _ _ _ _ _ _ h => h.2.2.2.2 y_O_init _ _ _ _ rfl) d_O_init_122 (by omega) hlo (Nat.le_of_ble_eq_true rfl) rfl (by decide) lay_O (List.mem_cons_of_mem _ q472) rfl ty_O ty_O_ok nm_O rfl rfl (by decide +kernel) rfl rfl ?_
  obtain ⟨L31, hL31⟩ : ∃ z, z = va_up L30 116 (sd_O 10 [none, none, none, some (some 117), some (some 118), some (some 119), some (some 120), some (some 121), some (some 122), some (some 123), none, some (some 124), some (some 125), some (some 126), some (some 127), some (some 128), some (some 129), some (some 130), some (some 131), some none, none, none, some none, none, none, none, none, none, none, none, none, none, none, none, none]) := ⟨_, rfl⟩
  show sdW l (sdE0 sc) Y_O_init D (sd_tys dA) b _ _ (va_up L30 116 (sd_O 10 [none, none, none, some (some 117), some (some 118), some (some 119), some (some 120), some (some 121), some (some 122), some (some 123), none, some (some 124), some (some 125), some (some 126), some (some 127), some (some 128), some (some 129), some (some 130), some (some 131), some none, none, none, some none, none, none, none, none, none, none, none, none, none, none, none, none])) ad _ _ _ _ _ _ _ _ _
  rw [← hL31]
  have hn31 : ∀ k, k ≠ 116 → L31 k = L30 k := fun k h => by rw [hL31]; exact va_up_ne _ _ h
  have hl31 : sd_loc 132 L31 := by rw [hL31]; exact sd_loc_at hl30 (fun a a2 f e => by show (Sum.inr (10, sd_fv a f 0 [none, none, none, some (some 117), some (some 118), some (some 119), some (some 120), some (some 121), some (some 122), some (some 123), none, some (some 124), some (some 125), some (some 126), some (some 127), some (some 128), some (some 129), some (some 130), some (some 131), some none, none, none, some none, none, none, none, none, none, none, none, none, none, none, none, none]) : va_E) = Sum.inr (10, sd_fv a2 f 0 [none, none, none, some (some 117), some (some 118), some (some 119), some (some 120), some (some 121), some (some 122), some (some 123), none, some (some 124), some (some 125), some (some 126), some (some 127), some (some 128), some (some 129), some (some 130), some (some 131), some none, none, none, some none, none, none, none, none, none, none, none, none, none, none, none, none]); simp only [sd_fv, sd_fx]; rw [e 117 (by omega), e 118 (by omega), e 119 (by omega), e 120 (by omega), e 121 (by omega), e 122 (by omega), e 123 (by omega), e 124 (by omega), e 125 (by omega), e 126 (by omega), e 127 (by omega), e 128 (by omega), e 129 (by omega), e 130 (by omega), e 131 (by omega)])
  replace hlo : L31 116 = sd_O 10 [none, none, none, some (some 117), some (some 118), some (some 119), some (some 120), some (some 121), some (some 122), some (some 123), none, some (some 124), some (some 125), some (some 126), some (some 127), some (some 128), some (some 129), some (some 130), some (some 131), some none, none, none, some none, none, none, none, none, none, none, none, none, none, none, none, none] := by rw [hL31]; exact va_up_self _ _ _
  clear hL31
  replace hy2 : L31 117 = (sd_I (dA 0) 4) := (hn31 117 (by omega)).trans hy2
  replace hy4 : L31 118 = (sd_I (dA 1) 16) := (hn31 118 (by omega)).trans hy4
  replace hy6 : L31 119 = (sd_I (dA 0) 16) := (hn31 119 (by omega)).trans hy6
  replace hy8 : L31 120 = (sd_I (dA 0) 16) := (hn31 120 (by omega)).trans hy8
  replace hy10 : L31 121 = (sd_I (dA 0) 16) := (hn31 121 (by omega)).trans hy10
  replace hy12 : L31 122 = (sd_I (dA 1) 16) := (hn31 122 (by omega)).trans hy12
  replace hy14 : L31 123 = (sd_I (dA 0) 16) := (hn31 123 (by omega)).trans hy14
  replace hy16 : L31 124 = (sd_I (dA 0) 4) := (hn31 124 (by omega)).trans hy16
  replace hy18 : L31 125 = (sd_I (dA 0) 4) := (hn31 125 (by omega)).trans hy18
  replace hy20 : L31 126 = (sd_I (dA 0) 4) := (hn31 126 (by omega)).trans hy20
  replace hy22 : L31 127 = (sd_I (dA 0) 4) := (hn31 127 (by omega)).trans hy22
  replace hy24 : L31 128 = (sd_I (dA 1) 4) := (hn31 128 (by omega)).trans hy24
  replace hy26 : L31 129 = (sd_I (dA 0) 68) := (hn31 129 (by omega)).trans hy26
  replace hy28 : L31 130 = (sd_I (dA 0) 816) := (hn31 130 (by omega)).trans hy28
  replace hy30 : L31 131 = (sd_I (dA 0) 816) := (hn31 131 (by omega)).trans hy30
  refine x_aload_n 0 0 d_O_init_125 rfl rfl ?_
  refine x_sipush (v := 3264) d_O_init_126 (by decide) ?_
  refine x_newI (rc := 1) (rs := 3) (n := 132) (t0 := 0) (len := 3264) hA30 hl31 (List.forall_mem_cons.mpr ⟨(sd_bel_r (by omega)), fun _ h => absurd h List.not_mem_nil⟩) (List.forall_mem_cons.mpr ⟨(sd_bel_r (by omega)), fun _ h => absurd h List.not_mem_nil⟩) d_O_init_129 rfl (by decide) (List.mem_cons_of_mem _ q598) rfl (by decide) (by decide) (by decide) rfl rfl (fun ad32 M32 hA32 hl32 hu32 hq32 e32 => ?_)
  replace hw := hw M32 e32
  clear e32
  have hy32 : va_up L31 132 (sd_I (dA 0) 3264) 132 = (sd_I (dA 0) 3264) := va_up_self _ _ _
  generalize va_up L31 132 (sd_I (dA 0) 3264) = L32 at hl32 hu32 hy32 ⊢
  replace hlo : L32 116 = sd_O 10 [none, none, none, some (some 117), some (some 118), some (some 119), some (some 120), some (some 121), some (some 122), some (some 123), none, some (some 124), some (some 125), some (some 126), some (some 127), some (some 128), some (some 129), some (some 130), some (some 131), some none, none, none, some none, none, none, none, none, none, none, none, none, none, none, none, none] := (hu32.2 116 (by omega)).trans hlo
  replace hy2 : L32 117 = (sd_I (dA 0) 4) := (hu32.2 117 (by omega)).trans hy2
  replace hy4 : L32 118 = (sd_I (dA 1) 16) := (hu32.2 118 (by omega)).trans hy4
  replace hy6 : L32 119 = (sd_I (dA 0) 16) := (hu32.2 119 (by omega)).trans hy6
  replace hy8 : L32 120 = (sd_I (dA 0) 16) := (hu32.2 120 (by omega)).trans hy8
  replace hy10 : L32 121 = (sd_I (dA 0) 16) := (hu32.2 121 (by omega)).trans hy10
  replace hy12 : L32 122 = (sd_I (dA 1) 16) := (hu32.2 122 (by omega)).trans hy12
  replace hy14 : L32 123 = (sd_I (dA 0) 16) := (hu32.2 123 (by omega)).trans hy14
  replace hy16 : L32 124 = (sd_I (dA 0) 4) := (hu32.2 124 (by omega)).trans hy16
  replace hy18 : L32 125 = (sd_I (dA 0) 4) := (hu32.2 125 (by omega)).trans hy18
  replace hy20 : L32 126 = (sd_I (dA 0) 4) := (hu32.2 126 (by omega)).trans hy20
  replace hy22 : L32 127 = (sd_I (dA 0) 4) := (hu32.2 127 (by omega)).trans hy22
  replace hy24 : L32 128 = (sd_I (dA 1) 4) := (hu32.2 128 (by omega)).trans hy24
  replace hy26 : L32 129 = (sd_I (dA 0) 68) := (hu32.2 129 (by omega)).trans hy26
  replace hy28 : L32 130 = (sd_I (dA 0) 816) := (hu32.2 130 (by omega)).trans hy28
  replace hy30 : L32 131 = (sd_I (dA 0) 816) := (hu32.2 131 (by omega)).trans hy30
  refine x_putr 19 132 (ty := .array .int) hA32 (fun _ _ _ _ _ _ h => h.2.2.2.2 y_O_init _ _ _ _ rfl) d_O_init_131 (by omega) hlo (Nat.le_of_ble_eq_true rfl) rfl (by decide) lay_O (List.mem_cons_of_mem _ q477) rfl ty_O ty_O_ok nm_O rfl rfl (by decide +kernel) rfl rfl ?_
  obtain ⟨L33, hL33⟩ : ∃ z, z = va_up L32 116 (sd_O 10 [none, none, none, some (some 117), some (some 118), some (some 119), some (some 120), some (some 121), some (some 122), some (some 123), none, some (some 124), some (some 125), some (some 126), some (some 127), some (some 128), some (some 129), some (some 130), some (some 131), some (some 132), none, none, some none, none, none, none, none, none, none, none, none, none, none, none, none]) := ⟨_, rfl⟩
  show sdW l (sdE0 sc) Y_O_init D (sd_tys dA) b _ _ (va_up L32 116 (sd_O 10 [none, none, none, some (some 117), some (some 118), some (some 119), some (some 120), some (some 121), some (some 122), some (some 123), none, some (some 124), some (some 125), some (some 126), some (some 127), some (some 128), some (some 129), some (some 130), some (some 131), some (some 132), none, none, some none, none, none, none, none, none, none, none, none, none, none, none, none])) ad _ _ _ _ _ _ _ _ _
  rw [← hL33]
  have hn33 : ∀ k, k ≠ 116 → L33 k = L32 k := fun k h => by rw [hL33]; exact va_up_ne _ _ h
  have hl33 : sd_loc 133 L33 := by rw [hL33]; exact sd_loc_at hl32 (fun a a2 f e => by show (Sum.inr (10, sd_fv a f 0 [none, none, none, some (some 117), some (some 118), some (some 119), some (some 120), some (some 121), some (some 122), some (some 123), none, some (some 124), some (some 125), some (some 126), some (some 127), some (some 128), some (some 129), some (some 130), some (some 131), some (some 132), none, none, some none, none, none, none, none, none, none, none, none, none, none, none, none]) : va_E) = Sum.inr (10, sd_fv a2 f 0 [none, none, none, some (some 117), some (some 118), some (some 119), some (some 120), some (some 121), some (some 122), some (some 123), none, some (some 124), some (some 125), some (some 126), some (some 127), some (some 128), some (some 129), some (some 130), some (some 131), some (some 132), none, none, some none, none, none, none, none, none, none, none, none, none, none, none, none]); simp only [sd_fv, sd_fx]; rw [e 117 (by omega), e 118 (by omega), e 119 (by omega), e 120 (by omega), e 121 (by omega), e 122 (by omega), e 123 (by omega), e 124 (by omega), e 125 (by omega), e 126 (by omega), e 127 (by omega), e 128 (by omega), e 129 (by omega), e 130 (by omega), e 131 (by omega), e 132 (by omega)])
  replace hlo : L33 116 = sd_O 10 [none, none, none, some (some 117), some (some 118), some (some 119), some (some 120), some (some 121), some (some 122), some (some 123), none, some (some 124), some (some 125), some (some 126), some (some 127), some (some 128), some (some 129), some (some 130), some (some 131), some (some 132), none, none, some none, none, none, none, none, none, none, none, none, none, none, none, none] := by rw [hL33]; exact va_up_self _ _ _
  clear hL33
  replace hy2 : L33 117 = (sd_I (dA 0) 4) := (hn33 117 (by omega)).trans hy2
  replace hy4 : L33 118 = (sd_I (dA 1) 16) := (hn33 118 (by omega)).trans hy4
  replace hy6 : L33 119 = (sd_I (dA 0) 16) := (hn33 119 (by omega)).trans hy6
  replace hy8 : L33 120 = (sd_I (dA 0) 16) := (hn33 120 (by omega)).trans hy8
  replace hy10 : L33 121 = (sd_I (dA 0) 16) := (hn33 121 (by omega)).trans hy10
  replace hy12 : L33 122 = (sd_I (dA 1) 16) := (hn33 122 (by omega)).trans hy12
  replace hy14 : L33 123 = (sd_I (dA 0) 16) := (hn33 123 (by omega)).trans hy14
  replace hy16 : L33 124 = (sd_I (dA 0) 4) := (hn33 124 (by omega)).trans hy16
  replace hy18 : L33 125 = (sd_I (dA 0) 4) := (hn33 125 (by omega)).trans hy18
  replace hy20 : L33 126 = (sd_I (dA 0) 4) := (hn33 126 (by omega)).trans hy20
  replace hy22 : L33 127 = (sd_I (dA 0) 4) := (hn33 127 (by omega)).trans hy22
  replace hy24 : L33 128 = (sd_I (dA 1) 4) := (hn33 128 (by omega)).trans hy24
  replace hy26 : L33 129 = (sd_I (dA 0) 68) := (hn33 129 (by omega)).trans hy26
  replace hy28 : L33 130 = (sd_I (dA 0) 816) := (hn33 130 (by omega)).trans hy28
  replace hy30 : L33 131 = (sd_I (dA 0) 816) := (hn33 131 (by omega)).trans hy30
  replace hy32 : L33 132 = (sd_I (dA 0) 3264) := (hn33 132 (by omega)).trans hy32
  refine x_aload_n 0 0 d_O_init_134 rfl rfl ?_
  refine x_iconst (v := 3) d_O_init_135 (by decide) ?_
  refine x_newI (rc := 0) (rs := 0) (n := 133) (t0 := 1) (len := 3) hA32 hl33 (List.forall_mem_cons.mpr ⟨(sd_bel_r (by omega)), fun _ h => absurd h List.not_mem_nil⟩) (List.forall_mem_cons.mpr ⟨(sd_bel_r (by omega)), fun _ h => absurd h List.not_mem_nil⟩) d_O_init_136 rfl (by decide) (List.mem_cons_of_mem _ q630) rfl (by decide) (by decide) (by decide) rfl rfl (fun ad34 M34 hA34 hl34 hu34 hq34 e34 => ?_)
  replace hw := hw M34 e34
  clear e34
  have hy34 : va_up L33 133 (sd_I (dA 1) 3) 133 = (sd_I (dA 1) 3) := va_up_self _ _ _
  generalize va_up L33 133 (sd_I (dA 1) 3) = L34 at hl34 hu34 hy34 ⊢
  replace hlo : L34 116 = sd_O 10 [none, none, none, some (some 117), some (some 118), some (some 119), some (some 120), some (some 121), some (some 122), some (some 123), none, some (some 124), some (some 125), some (some 126), some (some 127), some (some 128), some (some 129), some (some 130), some (some 131), some (some 132), none, none, some none, none, none, none, none, none, none, none, none, none, none, none, none] := (hu34.2 116 (by omega)).trans hlo
  replace hy2 : L34 117 = (sd_I (dA 0) 4) := (hu34.2 117 (by omega)).trans hy2
  replace hy4 : L34 118 = (sd_I (dA 1) 16) := (hu34.2 118 (by omega)).trans hy4
  replace hy6 : L34 119 = (sd_I (dA 0) 16) := (hu34.2 119 (by omega)).trans hy6
  replace hy8 : L34 120 = (sd_I (dA 0) 16) := (hu34.2 120 (by omega)).trans hy8
  replace hy10 : L34 121 = (sd_I (dA 0) 16) := (hu34.2 121 (by omega)).trans hy10
  replace hy12 : L34 122 = (sd_I (dA 1) 16) := (hu34.2 122 (by omega)).trans hy12
  replace hy14 : L34 123 = (sd_I (dA 0) 16) := (hu34.2 123 (by omega)).trans hy14
  replace hy16 : L34 124 = (sd_I (dA 0) 4) := (hu34.2 124 (by omega)).trans hy16
  replace hy18 : L34 125 = (sd_I (dA 0) 4) := (hu34.2 125 (by omega)).trans hy18
  replace hy20 : L34 126 = (sd_I (dA 0) 4) := (hu34.2 126 (by omega)).trans hy20
  replace hy22 : L34 127 = (sd_I (dA 0) 4) := (hu34.2 127 (by omega)).trans hy22
  replace hy24 : L34 128 = (sd_I (dA 1) 4) := (hu34.2 128 (by omega)).trans hy24
  replace hy26 : L34 129 = (sd_I (dA 0) 68) := (hu34.2 129 (by omega)).trans hy26
  replace hy28 : L34 130 = (sd_I (dA 0) 816) := (hu34.2 130 (by omega)).trans hy28
  replace hy30 : L34 131 = (sd_I (dA 0) 816) := (hu34.2 131 (by omega)).trans hy30
  replace hy32 : L34 132 = (sd_I (dA 0) 3264) := (hu34.2 132 (by omega)).trans hy32
  refine x_putr 22 133 (ty := .array .boolean) hA34 (fun _ _ _ _ _ _ h => h.2.2.2.2 y_O_init _ _ _ _ rfl) d_O_init_138 (by omega) hlo (Nat.le_of_ble_eq_true rfl) rfl (by decide) lay_O (List.mem_cons_of_mem _ q519) rfl ty_O ty_O_ok nm_O rfl rfl (by decide +kernel) rfl rfl ?_
  obtain ⟨L35, hL35⟩ : ∃ z, z = va_up L34 116 (sd_O 10 [none, none, none, some (some 117), some (some 118), some (some 119), some (some 120), some (some 121), some (some 122), some (some 123), none, some (some 124), some (some 125), some (some 126), some (some 127), some (some 128), some (some 129), some (some 130), some (some 131), some (some 132), none, none, some (some 133), none, none, none, none, none, none, none, none, none, none, none, none]) := ⟨_, rfl⟩
  show sdW l (sdE0 sc) Y_O_init D (sd_tys dA) b _ _ (va_up L34 116 (sd_O 10 [none, none, none, some (some 117), some (some 118), some (some 119), some (some 120), some (some 121), some (some 122), some (some 123), none, some (some 124), some (some 125), some (some 126), some (some 127), some (some 128), some (some 129), some (some 130), some (some 131), some (some 132), none, none, some (some 133), none, none, none, none, none, none, none, none, none, none, none, none])) ad _ _ _ _ _ _ _ _ _
  rw [← hL35]
  have hn35 : ∀ k, k ≠ 116 → L35 k = L34 k := fun k h => by rw [hL35]; exact va_up_ne _ _ h
  have hl35 : sd_loc 134 L35 := by rw [hL35]; exact sd_loc_at hl34 (fun a a2 f e => by show (Sum.inr (10, sd_fv a f 0 [none, none, none, some (some 117), some (some 118), some (some 119), some (some 120), some (some 121), some (some 122), some (some 123), none, some (some 124), some (some 125), some (some 126), some (some 127), some (some 128), some (some 129), some (some 130), some (some 131), some (some 132), none, none, some (some 133), none, none, none, none, none, none, none, none, none, none, none, none]) : va_E) = Sum.inr (10, sd_fv a2 f 0 [none, none, none, some (some 117), some (some 118), some (some 119), some (some 120), some (some 121), some (some 122), some (some 123), none, some (some 124), some (some 125), some (some 126), some (some 127), some (some 128), some (some 129), some (some 130), some (some 131), some (some 132), none, none, some (some 133), none, none, none, none, none, none, none, none, none, none, none, none]); simp only [sd_fv, sd_fx]; rw [e 117 (by omega), e 118 (by omega), e 119 (by omega), e 120 (by omega), e 121 (by omega), e 122 (by omega), e 123 (by omega), e 124 (by omega), e 125 (by omega), e 126 (by omega), e 127 (by omega), e 128 (by omega), e 129 (by omega), e 130 (by omega), e 131 (by omega), e 132 (by omega), e 133 (by omega)])
  replace hlo : L35 116 = sd_O 10 [none, none, none, some (some 117), some (some 118), some (some 119), some (some 120), some (some 121), some (some 122), some (some 123), none, some (some 124), some (some 125), some (some 126), some (some 127), some (some 128), some (some 129), some (some 130), some (some 131), some (some 132), none, none, some (some 133), none, none, none, none, none, none, none, none, none, none, none, none] := by rw [hL35]; exact va_up_self _ _ _
  clear hL35
  replace hy2 : L35 117 = (sd_I (dA 0) 4) := (hn35 117 (by omega)).trans hy2
  replace hy4 : L35 118 = (sd_I (dA 1) 16) := (hn35 118 (by omega)).trans hy4
  replace hy6 : L35 119 = (sd_I (dA 0) 16) := (hn35 119 (by omega)).trans hy6
  replace hy8 : L35 120 = (sd_I (dA 0) 16) := (hn35 120 (by omega)).trans hy8
  replace hy10 : L35 121 = (sd_I (dA 0) 16) := (hn35 121 (by omega)).trans hy10
  replace hy12 : L35 122 = (sd_I (dA 1) 16) := (hn35 122 (by omega)).trans hy12
  replace hy14 : L35 123 = (sd_I (dA 0) 16) := (hn35 123 (by omega)).trans hy14
  replace hy16 : L35 124 = (sd_I (dA 0) 4) := (hn35 124 (by omega)).trans hy16
  replace hy18 : L35 125 = (sd_I (dA 0) 4) := (hn35 125 (by omega)).trans hy18
  replace hy20 : L35 126 = (sd_I (dA 0) 4) := (hn35 126 (by omega)).trans hy20
  replace hy22 : L35 127 = (sd_I (dA 0) 4) := (hn35 127 (by omega)).trans hy22
  replace hy24 : L35 128 = (sd_I (dA 1) 4) := (hn35 128 (by omega)).trans hy24
  replace hy26 : L35 129 = (sd_I (dA 0) 68) := (hn35 129 (by omega)).trans hy26
  replace hy28 : L35 130 = (sd_I (dA 0) 816) := (hn35 130 (by omega)).trans hy28
  replace hy30 : L35 131 = (sd_I (dA 0) 816) := (hn35 131 (by omega)).trans hy30
  replace hy32 : L35 132 = (sd_I (dA 0) 3264) := (hn35 132 (by omega)).trans hy32
  replace hy34 : L35 133 = (sd_I (dA 1) 3) := (hn35 133 (by omega)).trans hy34
  refine x_aload_n 0 0 d_O_init_141 rfl rfl ?_
  refine x_iconst (v := (-1)) d_O_init_142 (by decide) ?_
  refine x_puti 23 (ty := .int) hA34 d_O_init_143 (by omega) hlo rfl rfl (by decide) lay_O (List.mem_cons_of_mem _ q561) rfl ty_O ty_O_ok nm_O rfl (by decide +kernel) rfl rfl (fun M36 e36 => ?_)
  replace hw := hw M36 e36
  clear e36
  refine x_iconst (v := 0) d_O_init_146 (by decide) ?_
  refine x_istore_n 1 [(1, .int 0), (0, .ref 116)] d_O_init_147 rfl (by decide) rfl ?_
  refine x_iload_n 1 0 d_O_init_148 rfl rfl ?_
  refine x_bipush (v := 17) d_O_init_149 (by decide) ?_
  refine x_icmp_ge 169 d_O_init_151 rfl (fun hc => absurd hc (by decide)) (fun _ => ?_)
  refine x_aload_n 0 1 d_O_init_154 rfl rfl ?_
  refine x_getr 16 129 d_O_init_155 (by omega) hlo rfl rfl (by decide) lay_O (List.mem_cons_of_mem _ q478) rfl ?_
  refine x_iconst (v := 4) d_O_init_158 (by decide) ?_
  refine x_iload_n 1 0 d_O_init_159 rfl rfl ?_
  refine x_imul d_O_init_160 ?_
  rw [show (4 : Int32) * 0 = 0 by decide]
  refine x_iconst (v := 1) d_O_init_161 (by decide) ?_
  refine x_iast hA34 d_O_init_162 (by omega) hy26 rfl (vp_in_nI (n := 0) (N := 68) (by decide) (by decide)) (fun M37 e37 => ?_)
  replace hw := hw M37 e37
  clear e37
  refine x_iinc 1 0 [(1, .int 1), (0, .ref 116)] d_O_init_163 rfl (by decide) (by decide) rfl ?_
  refine x_goto 148 d_O_init_166 rfl ?_
  refine x_iload_n 1 0 d_O_init_148 rfl rfl ?_
  refine x_bipush (v := 17) d_O_init_149 (by decide) ?_
  refine x_icmp_ge 169 d_O_init_151 rfl (fun hc => absurd hc (by decide)) (fun _ => ?_)
  refine x_aload_n 0 1 d_O_init_154 rfl rfl ?_
  refine x_getr 16 129 d_O_init_155 (by omega) hlo rfl rfl (by decide) lay_O (List.mem_cons_of_mem _ q478) rfl ?_
  refine x_iconst (v := 4) d_O_init_158 (by decide) ?_
  refine x_iload_n 1 0 d_O_init_159 rfl rfl ?_
  refine x_imul d_O_init_160 ?_
  rw [show (4 : Int32) * 1 = 4 by decide]
  refine x_iconst (v := 1) d_O_init_161 (by decide) ?_
  refine x_iast hA34 d_O_init_162 (by omega) hy26 rfl (vp_in_nI (n := 4) (N := 68) (by decide) (by decide)) (fun M38 e38 => ?_)
  replace hw := hw M38 e38
  clear e38
  refine x_iinc 1 0 [(1, .int 2), (0, .ref 116)] d_O_init_163 rfl (by decide) (by decide) rfl ?_
  refine x_goto 148 d_O_init_166 rfl ?_
  refine x_iload_n 1 0 d_O_init_148 rfl rfl ?_
  refine x_bipush (v := 17) d_O_init_149 (by decide) ?_
  refine x_icmp_ge 169 d_O_init_151 rfl (fun hc => absurd hc (by decide)) (fun _ => ?_)
  refine x_aload_n 0 1 d_O_init_154 rfl rfl ?_
  refine x_getr 16 129 d_O_init_155 (by omega) hlo rfl rfl (by decide) lay_O (List.mem_cons_of_mem _ q478) rfl ?_
  refine x_iconst (v := 4) d_O_init_158 (by decide) ?_
  refine x_iload_n 1 0 d_O_init_159 rfl rfl ?_
  refine x_imul d_O_init_160 ?_
  rw [show (4 : Int32) * 2 = 8 by decide]
  refine x_iconst (v := 1) d_O_init_161 (by decide) ?_
  refine x_iast hA34 d_O_init_162 (by omega) hy26 rfl (vp_in_nI (n := 8) (N := 68) (by decide) (by decide)) (fun M39 e39 => ?_)
  replace hw := hw M39 e39
  clear e39
  refine x_iinc 1 0 [(1, .int 3), (0, .ref 116)] d_O_init_163 rfl (by decide) (by decide) rfl ?_
  refine x_goto 148 d_O_init_166 rfl ?_
  refine x_iload_n 1 0 d_O_init_148 rfl rfl ?_
  refine x_bipush (v := 17) d_O_init_149 (by decide) ?_
  refine x_icmp_ge 169 d_O_init_151 rfl (fun hc => absurd hc (by decide)) (fun _ => ?_)
  refine x_aload_n 0 1 d_O_init_154 rfl rfl ?_
  refine x_getr 16 129 d_O_init_155 (by omega) hlo rfl rfl (by decide) lay_O (List.mem_cons_of_mem _ q478) rfl ?_
  refine x_iconst (v := 4) d_O_init_158 (by decide) ?_
  refine x_iload_n 1 0 d_O_init_159 rfl rfl ?_
  refine x_imul d_O_init_160 ?_
  rw [show (4 : Int32) * 3 = 12 by decide]
  refine x_iconst (v := 1) d_O_init_161 (by decide) ?_
  refine x_iast hA34 d_O_init_162 (by omega) hy26 rfl (vp_in_nI (n := 12) (N := 68) (by decide) (by decide)) (fun M40 e40 => ?_)
  replace hw := hw M40 e40
  clear e40
  refine x_iinc 1 0 [(1, .int 4), (0, .ref 116)] d_O_init_163 rfl (by decide) (by decide) rfl ?_
  refine x_goto 148 d_O_init_166 rfl ?_
  refine x_iload_n 1 0 d_O_init_148 rfl rfl ?_
  refine x_bipush (v := 17) d_O_init_149 (by decide) ?_
  refine x_icmp_ge 169 d_O_init_151 rfl (fun hc => absurd hc (by decide)) (fun _ => ?_)
  refine x_aload_n 0 1 d_O_init_154 rfl rfl ?_
  refine x_getr 16 129 d_O_init_155 (by omega) hlo rfl rfl (by decide) lay_O (List.mem_cons_of_mem _ q478) rfl ?_
  refine x_iconst (v := 4) d_O_init_158 (by decide) ?_
  refine x_iload_n 1 0 d_O_init_159 rfl rfl ?_
  refine x_imul d_O_init_160 ?_
  rw [show (4 : Int32) * 4 = 16 by decide]
  refine x_iconst (v := 1) d_O_init_161 (by decide) ?_
  refine x_iast hA34 d_O_init_162 (by omega) hy26 rfl (vp_in_nI (n := 16) (N := 68) (by decide) (by decide)) (fun M41 e41 => ?_)
  replace hw := hw M41 e41
  clear e41
  refine x_iinc 1 0 [(1, .int 5), (0, .ref 116)] d_O_init_163 rfl (by decide) (by decide) rfl ?_
  refine x_goto 148 d_O_init_166 rfl ?_
  refine x_iload_n 1 0 d_O_init_148 rfl rfl ?_
  refine x_bipush (v := 17) d_O_init_149 (by decide) ?_
  refine x_icmp_ge 169 d_O_init_151 rfl (fun hc => absurd hc (by decide)) (fun _ => ?_)
  refine x_aload_n 0 1 d_O_init_154 rfl rfl ?_
  refine x_getr 16 129 d_O_init_155 (by omega) hlo rfl rfl (by decide) lay_O (List.mem_cons_of_mem _ q478) rfl ?_
  refine x_iconst (v := 4) d_O_init_158 (by decide) ?_
  refine x_iload_n 1 0 d_O_init_159 rfl rfl ?_
  refine x_imul d_O_init_160 ?_
  rw [show (4 : Int32) * 5 = 20 by decide]
  refine x_iconst (v := 1) d_O_init_161 (by decide) ?_
  refine x_iast hA34 d_O_init_162 (by omega) hy26 rfl (vp_in_nI (n := 20) (N := 68) (by decide) (by decide)) (fun M42 e42 => ?_)
  replace hw := hw M42 e42
  clear e42
  refine x_iinc 1 0 [(1, .int 6), (0, .ref 116)] d_O_init_163 rfl (by decide) (by decide) rfl ?_
  refine x_goto 148 d_O_init_166 rfl ?_
  refine x_iload_n 1 0 d_O_init_148 rfl rfl ?_
  refine x_bipush (v := 17) d_O_init_149 (by decide) ?_
  refine x_icmp_ge 169 d_O_init_151 rfl (fun hc => absurd hc (by decide)) (fun _ => ?_)
  refine x_aload_n 0 1 d_O_init_154 rfl rfl ?_
  refine x_getr 16 129 d_O_init_155 (by omega) hlo rfl rfl (by decide) lay_O (List.mem_cons_of_mem _ q478) rfl ?_
  refine x_iconst (v := 4) d_O_init_158 (by decide) ?_
  refine x_iload_n 1 0 d_O_init_159 rfl rfl ?_
  refine x_imul d_O_init_160 ?_
  rw [show (4 : Int32) * 6 = 24 by decide]
  refine x_iconst (v := 1) d_O_init_161 (by decide) ?_
  refine x_iast hA34 d_O_init_162 (by omega) hy26 rfl (vp_in_nI (n := 24) (N := 68) (by decide) (by decide)) (fun M43 e43 => ?_)
  replace hw := hw M43 e43
  clear e43
  refine x_iinc 1 0 [(1, .int 7), (0, .ref 116)] d_O_init_163 rfl (by decide) (by decide) rfl ?_
  refine x_goto 148 d_O_init_166 rfl ?_
  refine x_iload_n 1 0 d_O_init_148 rfl rfl ?_
  refine x_bipush (v := 17) d_O_init_149 (by decide) ?_
  refine x_icmp_ge 169 d_O_init_151 rfl (fun hc => absurd hc (by decide)) (fun _ => ?_)
  refine x_aload_n 0 1 d_O_init_154 rfl rfl ?_
  refine x_getr 16 129 d_O_init_155 (by omega) hlo rfl rfl (by decide) lay_O (List.mem_cons_of_mem _ q478) rfl ?_
  refine x_iconst (v := 4) d_O_init_158 (by decide) ?_
  refine x_iload_n 1 0 d_O_init_159 rfl rfl ?_
  refine x_imul d_O_init_160 ?_
  rw [show (4 : Int32) * 7 = 28 by decide]
  refine x_iconst (v := 1) d_O_init_161 (by decide) ?_
  refine x_iast hA34 d_O_init_162 (by omega) hy26 rfl (vp_in_nI (n := 28) (N := 68) (by decide) (by decide)) (fun M44 e44 => ?_)
  replace hw := hw M44 e44
  clear e44
  refine x_iinc 1 0 [(1, .int 8), (0, .ref 116)] d_O_init_163 rfl (by decide) (by decide) rfl ?_
  refine x_goto 148 d_O_init_166 rfl ?_
  refine x_iload_n 1 0 d_O_init_148 rfl rfl ?_
  refine x_bipush (v := 17) d_O_init_149 (by decide) ?_
  refine x_icmp_ge 169 d_O_init_151 rfl (fun hc => absurd hc (by decide)) (fun _ => ?_)
  refine x_aload_n 0 1 d_O_init_154 rfl rfl ?_
  refine x_getr 16 129 d_O_init_155 (by omega) hlo rfl rfl (by decide) lay_O (List.mem_cons_of_mem _ q478) rfl ?_
  refine x_iconst (v := 4) d_O_init_158 (by decide) ?_
  refine x_iload_n 1 0 d_O_init_159 rfl rfl ?_
  refine x_imul d_O_init_160 ?_
  rw [show (4 : Int32) * 8 = 32 by decide]
  refine x_iconst (v := 1) d_O_init_161 (by decide) ?_
  refine x_iast hA34 d_O_init_162 (by omega) hy26 rfl (vp_in_nI (n := 32) (N := 68) (by decide) (by decide)) (fun M45 e45 => ?_)
  replace hw := hw M45 e45
  clear e45
  refine x_iinc 1 0 [(1, .int 9), (0, .ref 116)] d_O_init_163 rfl (by decide) (by decide) rfl ?_
  refine x_goto 148 d_O_init_166 rfl ?_
  refine x_iload_n 1 0 d_O_init_148 rfl rfl ?_
  refine x_bipush (v := 17) d_O_init_149 (by decide) ?_
  refine x_icmp_ge 169 d_O_init_151 rfl (fun hc => absurd hc (by decide)) (fun _ => ?_)
  refine x_aload_n 0 1 d_O_init_154 rfl rfl ?_
  refine x_getr 16 129 d_O_init_155 (by omega) hlo rfl rfl (by decide) lay_O (List.mem_cons_of_mem _ q478) rfl ?_
  refine x_iconst (v := 4) d_O_init_158 (by decide) ?_
  refine x_iload_n 1 0 d_O_init_159 rfl rfl ?_
  refine x_imul d_O_init_160 ?_
  rw [show (4 : Int32) * 9 = 36 by decide]
  refine x_iconst (v := 1) d_O_init_161 (by decide) ?_
  refine x_iast hA34 d_O_init_162 (by omega) hy26 rfl (vp_in_nI (n := 36) (N := 68) (by decide) (by decide)) (fun M46 e46 => ?_)
  replace hw := hw M46 e46
  clear e46
  refine x_iinc 1 0 [(1, .int 10), (0, .ref 116)] d_O_init_163 rfl (by decide) (by decide) rfl ?_
  refine x_goto 148 d_O_init_166 rfl ?_
  refine x_iload_n 1 0 d_O_init_148 rfl rfl ?_
  refine x_bipush (v := 17) d_O_init_149 (by decide) ?_
  refine x_icmp_ge 169 d_O_init_151 rfl (fun hc => absurd hc (by decide)) (fun _ => ?_)
  refine x_aload_n 0 1 d_O_init_154 rfl rfl ?_
  refine x_getr 16 129 d_O_init_155 (by omega) hlo rfl rfl (by decide) lay_O (List.mem_cons_of_mem _ q478) rfl ?_
  refine x_iconst (v := 4) d_O_init_158 (by decide) ?_
  refine x_iload_n 1 0 d_O_init_159 rfl rfl ?_
  refine x_imul d_O_init_160 ?_
  rw [show (4 : Int32) * 10 = 40 by decide]
  refine x_iconst (v := 1) d_O_init_161 (by decide) ?_
  refine x_iast hA34 d_O_init_162 (by omega) hy26 rfl (vp_in_nI (n := 40) (N := 68) (by decide) (by decide)) (fun M47 e47 => ?_)
  replace hw := hw M47 e47
  clear e47
  refine x_iinc 1 0 [(1, .int 11), (0, .ref 116)] d_O_init_163 rfl (by decide) (by decide) rfl ?_
  refine x_goto 148 d_O_init_166 rfl ?_
  refine x_iload_n 1 0 d_O_init_148 rfl rfl ?_
  refine x_bipush (v := 17) d_O_init_149 (by decide) ?_
  refine x_icmp_ge 169 d_O_init_151 rfl (fun hc => absurd hc (by decide)) (fun _ => ?_)
  refine x_aload_n 0 1 d_O_init_154 rfl rfl ?_
  refine x_getr 16 129 d_O_init_155 (by omega) hlo rfl rfl (by decide) lay_O (List.mem_cons_of_mem _ q478) rfl ?_
  refine x_iconst (v := 4) d_O_init_158 (by decide) ?_
  refine x_iload_n 1 0 d_O_init_159 rfl rfl ?_
  refine x_imul d_O_init_160 ?_
  rw [show (4 : Int32) * 11 = 44 by decide]
  refine x_iconst (v := 1) d_O_init_161 (by decide) ?_
  refine x_iast hA34 d_O_init_162 (by omega) hy26 rfl (vp_in_nI (n := 44) (N := 68) (by decide) (by decide)) (fun M48 e48 => ?_)
  replace hw := hw M48 e48
  clear e48
  refine x_iinc 1 0 [(1, .int 12), (0, .ref 116)] d_O_init_163 rfl (by decide) (by decide) rfl ?_
  refine x_goto 148 d_O_init_166 rfl ?_
  refine x_iload_n 1 0 d_O_init_148 rfl rfl ?_
  refine x_bipush (v := 17) d_O_init_149 (by decide) ?_
  refine x_icmp_ge 169 d_O_init_151 rfl (fun hc => absurd hc (by decide)) (fun _ => ?_)
  refine x_aload_n 0 1 d_O_init_154 rfl rfl ?_
  refine x_getr 16 129 d_O_init_155 (by omega) hlo rfl rfl (by decide) lay_O (List.mem_cons_of_mem _ q478) rfl ?_
  refine x_iconst (v := 4) d_O_init_158 (by decide) ?_
  refine x_iload_n 1 0 d_O_init_159 rfl rfl ?_
  refine x_imul d_O_init_160 ?_
  rw [show (4 : Int32) * 12 = 48 by decide]
  refine x_iconst (v := 1) d_O_init_161 (by decide) ?_
  refine x_iast hA34 d_O_init_162 (by omega) hy26 rfl (vp_in_nI (n := 48) (N := 68) (by decide) (by decide)) (fun M49 e49 => ?_)
  replace hw := hw M49 e49
  clear e49
  refine x_iinc 1 0 [(1, .int 13), (0, .ref 116)] d_O_init_163 rfl (by decide) (by decide) rfl ?_
  refine x_goto 148 d_O_init_166 rfl ?_
  refine x_iload_n 1 0 d_O_init_148 rfl rfl ?_
  refine x_bipush (v := 17) d_O_init_149 (by decide) ?_
  refine x_icmp_ge 169 d_O_init_151 rfl (fun hc => absurd hc (by decide)) (fun _ => ?_)
  refine x_aload_n 0 1 d_O_init_154 rfl rfl ?_
  refine x_getr 16 129 d_O_init_155 (by omega) hlo rfl rfl (by decide) lay_O (List.mem_cons_of_mem _ q478) rfl ?_
  refine x_iconst (v := 4) d_O_init_158 (by decide) ?_
  refine x_iload_n 1 0 d_O_init_159 rfl rfl ?_
  refine x_imul d_O_init_160 ?_
  rw [show (4 : Int32) * 13 = 52 by decide]
  refine x_iconst (v := 1) d_O_init_161 (by decide) ?_
  refine x_iast hA34 d_O_init_162 (by omega) hy26 rfl (vp_in_nI (n := 52) (N := 68) (by decide) (by decide)) (fun M50 e50 => ?_)
  replace hw := hw M50 e50
  clear e50
  refine x_iinc 1 0 [(1, .int 14), (0, .ref 116)] d_O_init_163 rfl (by decide) (by decide) rfl ?_
  refine x_goto 148 d_O_init_166 rfl ?_
  refine x_iload_n 1 0 d_O_init_148 rfl rfl ?_
  refine x_bipush (v := 17) d_O_init_149 (by decide) ?_
  refine x_icmp_ge 169 d_O_init_151 rfl (fun hc => absurd hc (by decide)) (fun _ => ?_)
  refine x_aload_n 0 1 d_O_init_154 rfl rfl ?_
  refine x_getr 16 129 d_O_init_155 (by omega) hlo rfl rfl (by decide) lay_O (List.mem_cons_of_mem _ q478) rfl ?_
  refine x_iconst (v := 4) d_O_init_158 (by decide) ?_
  refine x_iload_n 1 0 d_O_init_159 rfl rfl ?_
  refine x_imul d_O_init_160 ?_
  rw [show (4 : Int32) * 14 = 56 by decide]
  refine x_iconst (v := 1) d_O_init_161 (by decide) ?_
  refine x_iast hA34 d_O_init_162 (by omega) hy26 rfl (vp_in_nI (n := 56) (N := 68) (by decide) (by decide)) (fun M51 e51 => ?_)
  replace hw := hw M51 e51
  clear e51
  refine x_iinc 1 0 [(1, .int 15), (0, .ref 116)] d_O_init_163 rfl (by decide) (by decide) rfl ?_
  refine x_goto 148 d_O_init_166 rfl ?_
  refine x_iload_n 1 0 d_O_init_148 rfl rfl ?_
  refine x_bipush (v := 17) d_O_init_149 (by decide) ?_
  refine x_icmp_ge 169 d_O_init_151 rfl (fun hc => absurd hc (by decide)) (fun _ => ?_)
  refine x_aload_n 0 1 d_O_init_154 rfl rfl ?_
  refine x_getr 16 129 d_O_init_155 (by omega) hlo rfl rfl (by decide) lay_O (List.mem_cons_of_mem _ q478) rfl ?_
  refine x_iconst (v := 4) d_O_init_158 (by decide) ?_
  refine x_iload_n 1 0 d_O_init_159 rfl rfl ?_
  refine x_imul d_O_init_160 ?_
  rw [show (4 : Int32) * 15 = 60 by decide]
  refine x_iconst (v := 1) d_O_init_161 (by decide) ?_
  refine x_iast hA34 d_O_init_162 (by omega) hy26 rfl (vp_in_nI (n := 60) (N := 68) (by decide) (by decide)) (fun M52 e52 => ?_)
  replace hw := hw M52 e52
  clear e52
  refine x_iinc 1 0 [(1, .int 16), (0, .ref 116)] d_O_init_163 rfl (by decide) (by decide) rfl ?_
  refine x_goto 148 d_O_init_166 rfl ?_
  refine x_iload_n 1 0 d_O_init_148 rfl rfl ?_
  refine x_bipush (v := 17) d_O_init_149 (by decide) ?_
  refine x_icmp_ge 169 d_O_init_151 rfl (fun hc => absurd hc (by decide)) (fun _ => ?_)
  refine x_aload_n 0 1 d_O_init_154 rfl rfl ?_
  refine x_getr 16 129 d_O_init_155 (by omega) hlo rfl rfl (by decide) lay_O (List.mem_cons_of_mem _ q478) rfl ?_
  refine x_iconst (v := 4) d_O_init_158 (by decide) ?_
  refine x_iload_n 1 0 d_O_init_159 rfl rfl ?_
  refine x_imul d_O_init_160 ?_
  rw [show (4 : Int32) * 16 = 64 by decide]
  refine x_iconst (v := 1) d_O_init_161 (by decide) ?_
  refine x_iast hA34 d_O_init_162 (by omega) hy26 rfl (vp_in_nI (n := 64) (N := 68) (by decide) (by decide)) (fun M53 e53 => ?_)
  replace hw := hw M53 e53
  clear e53
  refine x_iinc 1 0 [(1, .int 17), (0, .ref 116)] d_O_init_163 rfl (by decide) (by decide) rfl ?_
  refine x_goto 148 d_O_init_166 rfl ?_
  refine x_iload_n 1 0 d_O_init_148 rfl rfl ?_
  refine x_bipush (v := 17) d_O_init_149 (by decide) ?_
  refine x_icmp_ge 169 d_O_init_151 rfl (fun _ => ?_) (fun hc => absurd (by decide) hc)
  exact x_vret d_O_init_169 rfl (fun H h => ⟨ad34, L35, (fun k hk => ((hq34 k (by omega)).trans ((hq32 k (by omega)).trans ((hq30 k (by omega)).trans ((hq28 k (by omega)).trans ((hq26 k (by omega)).trans ((hq24 k (by omega)).trans ((hq22 k (by omega)).trans ((hq20 k (by omega)).trans ((hq18 k (by omega)).trans ((hq16 k (by omega)).trans ((hq14 k (by omega)).trans ((hq12 k (by omega)).trans ((hq10 k (by omega)).trans ((hq8 k (by omega)).trans ((hq6 k (by omega)).trans ((hq4 k (by omega)).trans (hq2 k (by omega))))))))))))))))))), hA34, hl35, (fun k hk => ((hn35 k (by omega)).trans ((hu34.2 k (by omega)).trans ((hn33 k (by omega)).trans ((hu32.2 k (by omega)).trans ((hn31 k (by omega)).trans ((hu30.2 k (by omega)).trans ((hn29 k (by omega)).trans ((hu28.2 k (by omega)).trans ((hn27 k (by omega)).trans ((hu26.2 k (by omega)).trans ((hn25 k (by omega)).trans ((hu24.2 k (by omega)).trans ((hn23 k (by omega)).trans ((hu22.2 k (by omega)).trans ((hn21 k (by omega)).trans ((hu20.2 k (by omega)).trans ((hn19 k (by omega)).trans ((hu18.2 k (by omega)).trans ((hn17 k (by omega)).trans ((hu16.2 k (by omega)).trans ((hn15 k (by omega)).trans ((hu14.2 k (by omega)).trans ((hn13 k (by omega)).trans ((hu12.2 k (by omega)).trans ((hn11 k (by omega)).trans ((hu10.2 k (by omega)).trans ((hn9 k (by omega)).trans ((hu8.2 k (by omega)).trans ((hn7 k (by omega)).trans ((hu6.2 k (by omega)).trans ((hn5 k (by omega)).trans ((hu4.2 k (by omega)).trans ((hn3 k (by omega)).trans (hu2.2 k (by omega)))))))))))))))))))))))))))))))))))), ⟨by omega, hlo, ⟨by omega, hy2⟩, ⟨by omega, hy4⟩, ⟨by omega, hy6⟩, ⟨by omega, hy8⟩, ⟨by omega, hy10⟩, ⟨by omega, hy12⟩, ⟨by omega, hy14⟩, ⟨by omega, hy16⟩, ⟨by omega, hy18⟩, ⟨by omega, hy20⟩, ⟨by omega, hy22⟩, ⟨by omega, hy24⟩, ⟨by omega, hy26⟩, ⟨by omega, hy28⟩, ⟨by omega, hy30⟩, ⟨by omega, hy32⟩, ⟨by omega, hy34⟩⟩, h⟩) ⟨rfl, hw⟩
end
