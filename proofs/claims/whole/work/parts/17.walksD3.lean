theorem q408 : (.classLink "SettingsDesk" 137 "SettingsDesk$Check" : Cond) ∈ sdB0 := sd_tb3 4 rfl rfl
theorem q409 : (.instantiable "SettingsDesk$Check" 3 : Cond) ∈ sdB0 := sd_tb3 5 rfl rfl
theorem q410 : (.classLink "SettingsDesk" 39 "SettingsDesk$Trouble" : Cond) ∈ sdB0 := sd_tb1 156 rfl rfl
theorem q411 : (.instantiable "SettingsDesk$Trouble" 4 : Cond) ∈ sdB0 := sd_tb1 157 rfl rfl
theorem q412 : (.code ⟨"SettingsDesk$Trouble", "<init>", "()V"⟩ prog_10_method_1_code 1 none : Cond) ∈ sdB0 := sd_tb1 160 rfl rfl
theorem q413 : (.instanceMethod ⟨"SettingsDesk$Trouble", "<init>", "()V"⟩ : Cond) ∈ sdB0 := sd_tb1 159 rfl rfl
theorem q414 : (.code ⟨"SettingsDesk$Check", "<init>", "(LSettingsDesk$Schema;LSettingsDesk$Settings;LSettingsDesk$Trouble;)V"⟩ prog_2_method_1_code 4 none : Cond) ∈ sdB0 := sd_tb3 8 rfl rfl
theorem q415 : (.instanceMethod ⟨"SettingsDesk$Check", "<init>", "(LSettingsDesk$Schema;LSettingsDesk$Settings;LSettingsDesk$Trouble;)V"⟩ : Cond) ∈ sdB0 := sd_tb3 7 rfl rfl
theorem q416 : (.methodLink "SettingsDesk" 139 ⟨"SettingsDesk$Check", "<init>", "(LSettingsDesk$Schema;LSettingsDesk$Settings;LSettingsDesk$Trouble;)V"⟩ : Cond) ∈ sdB0 := sd_tb3 6 rfl rfl
theorem q417 : (.methodLink "SettingsDesk" 142 ⟨"SettingsDesk$Check", "passes", "()Z"⟩ : Cond) ∈ sdB0 := sd_tb3 20 rfl rfl
theorem q418 : (.code ⟨"SettingsDesk$Check", "passes", "()Z"⟩ prog_2_method_2_code 3 (some .boolean) : Cond) ∈ sdB0 := sd_tb3 23 rfl rfl
theorem q419 : (.instanceMethod ⟨"SettingsDesk$Check", "passes", "()Z"⟩ : Cond) ∈ sdB0 := sd_tb3 21 rfl rfl
theorem q420 : (.selects "SettingsDesk$Check" ⟨"SettingsDesk$Check", "passes", "()Z"⟩ ⟨"SettingsDesk$Check", "passes", "()Z"⟩ : Cond) ∈ sdB0 := sd_tb3 22 rfl rfl
abbrev y_D_ready : MethodName := ⟨"SettingsDesk", "ready", "()Z"⟩
theorem d_D_ready_0 : decode prog_1_method_6_code 0 = .ok (.aload_n 0, 1) := by decide +kernel
theorem d_D_ready_1 : decode prog_1_method_6_code 1 = .ok (.invokevirtual 64, 3) := by decide +kernel
theorem d_D_ready_4 : decode prog_1_method_6_code 4 = .ok (.aload_n 0, 1) := by decide +kernel
theorem d_D_ready_5 : decode prog_1_method_6_code 5 = .ok (.getfield 12, 3) := by decide +kernel
theorem d_D_ready_8 : decode prog_1_method_6_code 8 = .ok (.iconst 1, 1) := by decide +kernel
theorem d_D_ready_9 : decode prog_1_method_6_code 9 = .ok (.putfield 134, 3) := by decide +kernel
theorem d_D_ready_12 : decode prog_1_method_6_code 12 = .ok (.new 137, 3) := by decide +kernel
theorem d_D_ready_15 : decode prog_1_method_6_code 15 = .ok (.dup, 1) := by decide +kernel
theorem d_D_ready_16 : decode prog_1_method_6_code 16 = .ok (.aload_n 0, 1) := by decide +kernel
theorem d_D_ready_17 : decode prog_1_method_6_code 17 = .ok (.getfield 12, 3) := by decide +kernel
theorem d_D_ready_20 : decode prog_1_method_6_code 20 = .ok (.aload_n 0, 1) := by decide +kernel
theorem d_D_ready_21 : decode prog_1_method_6_code 21 = .ok (.getfield 19, 3) := by decide +kernel
theorem d_D_ready_24 : decode prog_1_method_6_code 24 = .ok (.new 39, 3) := by decide +kernel
theorem d_D_ready_27 : decode prog_1_method_6_code 27 = .ok (.dup, 1) := by decide +kernel
theorem d_D_ready_28 : decode prog_1_method_6_code 28 = .ok (.invokespecial 41, 3) := by decide +kernel
theorem d_D_ready_31 : decode prog_1_method_6_code 31 = .ok (.invokespecial 139, 3) := by decide +kernel
theorem d_D_ready_34 : decode prog_1_method_6_code 34 = .ok (.invokevirtual 142, 3) := by decide +kernel
theorem d_D_ready_37 : decode prog_1_method_6_code 37 = .ok (.ireturn, 1) := by decide +kernel
def Y_D_ready : sdY := ("SettingsDesk", prog_1_method_6_code, 1, (some .boolean), .code y_D_ready prog_1_method_6_code 1 (some .boolean) :: sdB0, { frames := 7, cells := 3, slots := 13, locals := 138 }, 3, 13, [])
theorem cw_D_ready_D_requireOpenSchema_64 : sd_cwV Y_D_ready Y_D_requireOpenSchema y_D_requireOpenSchema 64 0 "SettingsDesk" := ⟨sd_goodV q294 q295 q296 q274 q289, ⟨_, rfl⟩, ⟨rfl, rfl, rfl, rfl⟩, ⟨rfl, by decide, by decide, by decide +kernel⟩, ⟨by decide, by decide⟩⟩
theorem cw_D_ready_K_passes_142 : sd_cwV Y_D_ready Y_K_passes y_K_passes 142 0 "SettingsDesk$Check" := ⟨sd_goodV q417 q419 q420 q201 q418, ⟨_, rfl⟩, ⟨rfl, rfl, rfl, rfl⟩, ⟨rfl, by decide, by decide, by decide +kernel⟩, ⟨by decide, by decide⟩⟩
section
variable {l : Launch} {D : va_G} {dA : Nat → ClassId} {b n : Nat} {ad : Nat → Nat} {L : Nat → sdL} {sc : Option (Nat × Nat × (Nat → Int32))}
def w_D_ready (n : Nat) (M : sdM) (Q : Int32 → sdM → Prop) (X : String → sdM → Prop) : Prop := w_D_requireOpenSchema M (fun M11 => sdB (1 : Int32) ∧ ∀ M12 : sdM, M12 = sd_s M11 1 0 (1 : Int32) → ∀ M15 : sdM, M15 = va_up M12 n (fun _ => 0) → ∀ M16 : sdM, M16 = va_up M15 (n + 1) (fun _ => 0) → w_T_init (n + 1) M16  (fun M17 => w_K_init n M17  (fun M18 => w_K_passes n 25 (n + 1) M18 (fun r20 M19 => sdB r20 ∧ Q r20 M19)))) X
set_option maxHeartbeats 1000000 in
theorem c_D_ready {n : Nat} (hA : sd_ad b n ad) (hT : l.stackTraces = false) (hD : isD n L dA) (hloc : sd_loc n L) {Q : Int32 → sdM → Prop} {X : String → sdM → Prop} {M : sdM} (hw : w_D_ready n M Q X) : sd_Cn l (sdE0 sc) y_D_ready Y_D_ready.2.2.2.2.1 Y_D_ready.2.2.2.2.2.1 3 13 D (sd_tys dA) b n ad L M [.ref 0] (sd_qi Q) X := by
  refine sd_enter (Y := Y_D_ready) rfl rfl rfl rfl (Nat.le_of_ble_eq_true rfl) ?_
  show sdW l (sdE0 sc) Y_D_ready D (sd_tys dA) b n ad L ad (sd_H D (sdE0 sc).1 n ad L) (sd_qi Q) X 0 [(0, .ref 0)] [] M 3 13
  unfold w_D_ready at hw
  have hF : ∀ (M : sdM) (H : Heap), sd_H D (sdE0 sc).1 n ad L M H → sd_H D (sdE0 sc).1 n ad L M H := fun _ _ h => h
  refine x_aload_n 0 0 d_D_ready_0 rfl rfl ?_
  refine x_callVv (As := []) (t := 0) (rest := []) (rc := 2) (rs := 7) (c_D_requireOpenSchema hA hT hD hw) cw_D_ready_D_requireOpenSchema_64 hD.1 hD.2.1 rfl d_D_ready_1 rfl rfl (Nat.le_of_ble_eq_true rfl) rfl (fun _ _ h => h) hF (fun M11 hw => ?_)
  refine x_aload_n 0 0 d_D_ready_4 rfl rfl ?_
  refine x_getr 0 1 d_D_ready_5 hD.1 hD.2.1 rfl rfl (by decide) lay_D (List.mem_cons_of_mem _ q281) rfl ?_
  refine x_iconst (v := 1) d_D_ready_8 (by decide) ?_
  obtain ⟨hb14, hw⟩ := hw
  refine x_puti 0 (ty := .boolean) hA d_D_ready_9 hD.schema.1 hD.schema.2.1 rfl rfl (by decide) lay_C (List.mem_cons_of_mem _ q288) rfl ty_C ty_C_ok nm_C rfl (by decide +kernel) (sdB_n hb14) (sdB_f hb14) (fun M12 e13 => ?_)
  have hw := hw M12 e13
  clear e13
  refine x_new (rc := 1) (rs := 4) [some none, some none, some none] hA hloc (List.forall_mem_cons.mpr ⟨(sd_bel_r hD.1), fun _ h => absurd h List.not_mem_nil⟩) (fun _ h => absurd h List.not_mem_nil) d_D_ready_12 (ci := 8) (N := 3) (C := "SettingsDesk$Check") (T := T_K) rfl ty_K ty_K_ok lay_K (List.mem_cons_of_mem _ q408) (List.mem_cons_of_mem _ q409) (List.mem_cons_of_mem _ q201) (sd_nr rfl) (by decide +kernel) rfl rfl (fun ad15 L15 M15 hA15 hl15 hu15 hy15 had15 e15 => ?_)
  have hw := hw M15 e15
  clear e15
  have hv15 := hu15
  have hq15 := had15
  have hF15 := fun (M : sdM) (H : Heap) (h : sd_H D (sdE0 sc).1 (n + 1) ad15 L15 M H) => hF M H (sd_H.down hloc hv15 hq15 h)
  refine x_dup d_D_ready_15 rfl ?_
  refine x_aload_n 0 0 d_D_ready_16 rfl rfl ?_
  refine x_getr 0 1 d_D_ready_17 (hD.up hv15).1 (hD.up hv15).2.1 rfl rfl (by decide) lay_D (List.mem_cons_of_mem _ q281) rfl ?_
  refine x_aload_n 0 0 d_D_ready_20 rfl rfl ?_
  refine x_getr 1 25 d_D_ready_21 (hD.up hv15).1 (hD.up hv15).2.1 rfl rfl (by decide) lay_D (List.mem_cons_of_mem _ q253) rfl ?_
  refine x_new (rc := 0) (rs := 0) [none, none, none, none] hA15 hl15 (List.forall_mem_cons.mpr ⟨(sd_bel_r (hD.up hv15).1), fun _ h => absurd h List.not_mem_nil⟩) (List.forall_mem_cons.mpr ⟨(sd_bel_r ((hD.up hv15).running).1), List.forall_mem_cons.mpr ⟨(sd_bel_r ((hD.up hv15).schema).1), List.forall_mem_cons.mpr ⟨(sd_bel_r (Nat.lt_succ_self _)), List.forall_mem_cons.mpr ⟨(sd_bel_r (Nat.lt_succ_self _)), fun _ h => absurd h List.not_mem_nil⟩⟩⟩⟩) d_D_ready_24 (ci := 4) (N := 4) (C := "SettingsDesk$Trouble") (T := T_T) rfl ty_T ty_T_ok lay_T (List.mem_cons_of_mem _ q410) (List.mem_cons_of_mem _ q411) (List.mem_cons_of_mem _ q123) (sd_nr rfl) (by decide +kernel) rfl rfl (fun ad16 L16 M16 hA16 hl16 hu16 hy16 had16 e16 => ?_)
  have hw := hw M16 e16
  clear e16
  have hv16 := hv15.trans hu16
  have hq16 : ∀ k, k < n → ad16 k = ad k := fun k hk => (had16 k (Nat.lt_of_lt_of_le hk hv15.1)).trans (hq15 k hk)
  have hF16 := fun (M : sdM) (H : Heap) (h : sd_H D (sdE0 sc).1 ((n + 1) + 1) ad16 L16 M H) => hF M H (sd_H.down hloc hv16 hq16 h)
  refine x_dup d_D_ready_27 rfl ?_
  refine x_callIv (As := []) (t := (n + 1)) (rest := [.ref (n + 1), .ref 25, .ref 1, .ref n, .ref n]) (rc := 0) (rs := 0) (L2 := L16) (na := 0) (host := "SettingsDesk") (c_T_init hA16 hT ⟨(Nat.lt_succ_self _), hy16⟩ hw) (sd_goodB q412) ⟨_, rfl⟩ (List.mem_cons_of_mem _ q123) (List.mem_cons_of_mem _ q413) (Or.inr (List.mem_of_getElem? (i := 6) rfl)) ⟨rfl, by decide, by decide, by decide +kernel⟩ ⟨rfl, rfl, rfl, rfl⟩ ⟨by decide, by decide⟩ d_D_ready_28 rfl rfl (Nat.le_of_ble_eq_true rfl) (fun M17 hw => ?_)
  have ht17 : isT ((n + 1) + 1) L16 (n + 1) := ⟨(Nat.lt_succ_self _), hy16⟩
  refine x_callIv (As := [.ref 1, .ref 25, .ref (n + 1)]) (t := n) (rest := [.ref n]) (rc := 0) (rs := 0) (L2 := (va_up L16 n (sd_O 8 [some (some 1), some (some 25), some (some (n + 1))]))) (na := 3) (host := "SettingsDesk") (c_K_init (p1 := 1) (p2 := 25) (p3 := (n + 1)) hA16 (Nat.lt_succ_of_lt (Nat.lt_succ_self _)) ((hu16.2 _ (Nat.lt_succ_self _)).trans hy15) hw) (sd_goodB q414) ⟨_, rfl⟩ (List.mem_cons_of_mem _ q201) (List.mem_cons_of_mem _ q415) (Or.inl (List.mem_cons_of_mem _ q416)) ⟨rfl, by decide, by decide, by decide +kernel⟩ ⟨rfl, rfl, rfl, rfl⟩ ⟨by decide, by decide⟩ d_D_ready_31 rfl rfl (Nat.le_of_ble_eq_true rfl) (fun M18 hw => ?_)
  obtain ⟨L18, hL18⟩ : ∃ z, z = (va_up L16 n (sd_O 8 [some (some 1), some (some 25), some (some (n + 1))])) := ⟨_, rfl⟩
  rw [← hL18]
  have hy18 : L18 n = sd_O 8 [some (some 1), some (some 25), some (some (n + 1))] := by rw [hL18]; exact va_up_self _ _ _
  have hn18 : ∀ k, k ≠ n → L18 k = L16 k := fun k h => by rw [hL18]; exact va_up_ne _ _ h
  have hv18 : sd_up n L ((n + 1) + 1) L18 := ⟨hv16.1, fun k hk => (hn18 k (by omega)).trans (hv16.2 k hk)⟩
  have hF18 := fun (M : sdM) (H : Heap) (h : sd_H D (sdE0 sc).1 ((n + 1) + 1) ad16 L18 M H) => hF M H (sd_H.down hloc hv18 hq16 h)
  have hk18 : isK ((n + 1) + 1) L18 dA n 25 (n + 1) := ⟨(Nat.lt_succ_of_lt (Nat.lt_succ_self _)), hy18, (hD.up hv18).schema, (hD.up hv18).running, ⟨ht17.1, (hn18 _ (by omega)).trans ht17.2⟩⟩
  have hl18 : sd_loc ((n + 1) + 1) L18 := by rw [hL18]; exact sd_loc_at hl16 (fun a a2 f e => by show (Sum.inr (8, sd_fv a f 0 [some (some 1), some (some 25), some (some (n + 1))]) : va_E) = Sum.inr (8, sd_fv a2 f 0 [some (some 1), some (some 25), some (some (n + 1))]); simp only [sd_fv, sd_fx]; rw [e _ (hk18.schema).1, e _ (hk18.settings).1, e _ (hk18.trouble).1])
  clear hL18
  refine x_callVi (As := []) (t := n) (rest := []) (rc := 0) (rs := 0) (c_K_passes hA16 hT hk18 hw) cw_D_ready_K_passes_142 hk18.1 hk18.2.1 rfl d_D_ready_34 rfl rfl (Nat.le_of_ble_eq_true rfl) rfl (fun _ _ h => h.elim) hF18 (fun r20 M19 hw => ?_)
  exact x_zret d_D_ready_37 rfl (sdB_n hw.1) (hF18 _) ⟨_, rfl, hw.2⟩
end
theorem q421 : (.classLink "SettingsDesk" 227 "SettingsDesk$Merge" : Cond) ∈ sdB0 := sd_tb3 210 rfl rfl
theorem q422 : (.instantiable "SettingsDesk$Merge" 5 : Cond) ∈ sdB0 := sd_tb3 211 rfl rfl
theorem q423 : (.fieldLink "SettingsDesk" 26 "SettingsDesk" "outcome" "LSettingsDesk$Settings;" : Cond) ∈ sdB0 := sd_tb1 203 rfl rfl
theorem q424 : (.code ⟨"SettingsDesk$Merge", "<init>", "(LSettingsDesk$Session;LSettingsDesk$Settings;LSettingsDesk$Settings;LSettingsDesk$Trouble;)V"⟩ prog_5_method_1_code 5 none : Cond) ∈ sdB0 := sd_tb3 214 rfl rfl
theorem q425 : (.instanceMethod ⟨"SettingsDesk$Merge", "<init>", "(LSettingsDesk$Session;LSettingsDesk$Settings;LSettingsDesk$Settings;LSettingsDesk$Trouble;)V"⟩ : Cond) ∈ sdB0 := sd_tb3 213 rfl rfl
theorem q426 : (.methodLink "SettingsDesk" 229 ⟨"SettingsDesk$Merge", "<init>", "(LSettingsDesk$Session;LSettingsDesk$Settings;LSettingsDesk$Settings;LSettingsDesk$Trouble;)V"⟩ : Cond) ∈ sdB0 := sd_tb3 212 rfl rfl
theorem q427 : (.code ⟨"SettingsDesk", "commit", "(II)I"⟩ prog_1_method_13_code 3 (some .int) : Cond) ∈ sdB0 := sd_tb3 208 rfl rfl
theorem q428 : (.methodLink "SettingsDesk" 232 ⟨"SettingsDesk$Merge", "succeeds", "()Z"⟩ : Cond) ∈ sdB0 := sd_tb3 232 rfl rfl
theorem q429 : (.code ⟨"SettingsDesk$Merge", "succeeds", "()Z"⟩ prog_5_method_2_code 2 (some .boolean) : Cond) ∈ sdB0 := sd_tb3 235 rfl rfl
theorem q430 : (.instanceMethod ⟨"SettingsDesk$Merge", "succeeds", "()Z"⟩ : Cond) ∈ sdB0 := sd_tb3 233 rfl rfl
theorem q431 : (.selects "SettingsDesk$Merge" ⟨"SettingsDesk$Merge", "succeeds", "()Z"⟩ ⟨"SettingsDesk$Merge", "succeeds", "()Z"⟩ : Cond) ∈ sdB0 := sd_tb3 234 rfl rfl
abbrev y_D_commit : MethodName := ⟨"SettingsDesk", "commit", "(II)I"⟩
theorem d_D_commit_0 : decode prog_1_method_13_code 0 = .ok (.aload_n 0, 1) := by decide +kernel
theorem d_D_commit_1 : decode prog_1_method_13_code 1 = .ok (.invokevirtual 146, 3) := by decide +kernel
theorem d_D_commit_4 : decode prog_1_method_13_code 4 = .ok (.aload_n 0, 1) := by decide +kernel
theorem d_D_commit_5 : decode prog_1_method_13_code 5 = .ok (.iload_n 1, 1) := by decide +kernel
theorem d_D_commit_6 : decode prog_1_method_13_code 6 = .ok (.invokevirtual 149, 3) := by decide +kernel
theorem d_D_commit_9 : decode prog_1_method_13_code 9 = .ok (.aload_n 0, 1) := by decide +kernel
theorem d_D_commit_10 : decode prog_1_method_13_code 10 = .ok (.iload_n 1, 1) := by decide +kernel
theorem d_D_commit_11 : decode prog_1_method_13_code 11 = .ok (.invokevirtual 163, 3) := by decide +kernel
theorem d_D_commit_14 : decode prog_1_method_13_code 14 = .ok (.iload_n 2, 1) := by decide +kernel
theorem d_D_commit_15 : decode prog_1_method_13_code 15 = .ok (.ifCond .lt (10), 3) := by decide +kernel
theorem d_D_commit_18 : decode prog_1_method_13_code 18 = .ok (.iload_n 2, 1) := by decide +kernel
theorem d_D_commit_19 : decode prog_1_method_13_code 19 = .ok (.sipush (1000), 3) := by decide +kernel
theorem d_D_commit_22 : decode prog_1_method_13_code 22 = .ok (.if_icmp .le (13), 3) := by decide +kernel
theorem d_D_commit_25 : decode prog_1_method_13_code 25 = .ok (.new 91, 3) := by decide +kernel
theorem d_D_commit_28 : decode prog_1_method_13_code 28 = .ok (.dup, 1) := by decide +kernel
theorem d_D_commit_29 : decode prog_1_method_13_code 29 = .ok (.ldc 225, 2) := by decide +kernel
theorem d_D_commit_31 : decode prog_1_method_13_code 31 = .ok (.invokespecial 95, 3) := by decide +kernel
theorem d_D_commit_34 : decode prog_1_method_13_code 34 = .ok (.athrow, 1) := by decide +kernel
theorem d_D_commit_35 : decode prog_1_method_13_code 35 = .ok (.aload_n 0, 1) := by decide +kernel
theorem d_D_commit_36 : decode prog_1_method_13_code 36 = .ok (.getfield 50, 3) := by decide +kernel
theorem d_D_commit_39 : decode prog_1_method_13_code 39 = .ok (.ifCond .gt (19), 3) := by decide +kernel
theorem d_D_commit_42 : decode prog_1_method_13_code 42 = .ok (.aload_n 0, 1) := by decide +kernel
theorem d_D_commit_43 : decode prog_1_method_13_code 43 = .ok (.getfield 53, 3) := by decide +kernel
theorem d_D_commit_46 : decode prog_1_method_13_code 46 = .ok (.iconst (-1), 1) := by decide +kernel
theorem d_D_commit_47 : decode prog_1_method_13_code 47 = .ok (.if_icmp .eq (13), 3) := by decide +kernel
theorem d_D_commit_50 : decode prog_1_method_13_code 50 = .ok (.aload_n 0, 1) := by decide +kernel
theorem d_D_commit_51 : decode prog_1_method_13_code 51 = .ok (.getfield 53, 3) := by decide +kernel
theorem d_D_commit_54 : decode prog_1_method_13_code 54 = .ok (.iload_n 1, 1) := by decide +kernel
theorem d_D_commit_55 : decode prog_1_method_13_code 55 = .ok (.if_icmp .eq (5), 3) := by decide +kernel
theorem d_D_commit_58 : decode prog_1_method_13_code 58 = .ok (.iconst 3, 1) := by decide +kernel
theorem d_D_commit_59 : decode prog_1_method_13_code 59 = .ok (.ireturn, 1) := by decide +kernel
theorem d_D_commit_60 : decode prog_1_method_13_code 60 = .ok (.new 227, 3) := by decide +kernel
theorem d_D_commit_63 : decode prog_1_method_13_code 63 = .ok (.dup, 1) := by decide +kernel
theorem d_D_commit_64 : decode prog_1_method_13_code 64 = .ok (.aload_n 0, 1) := by decide +kernel
theorem d_D_commit_65 : decode prog_1_method_13_code 65 = .ok (.getfield 35, 3) := by decide +kernel
theorem d_D_commit_68 : decode prog_1_method_13_code 68 = .ok (.iload_n 1, 1) := by decide +kernel
theorem d_D_commit_69 : decode prog_1_method_13_code 69 = .ok (.aaload, 1) := by decide +kernel
theorem d_D_commit_70 : decode prog_1_method_13_code 70 = .ok (.aload_n 0, 1) := by decide +kernel
theorem d_D_commit_71 : decode prog_1_method_13_code 71 = .ok (.getfield 19, 3) := by decide +kernel
theorem d_D_commit_74 : decode prog_1_method_13_code 74 = .ok (.aload_n 0, 1) := by decide +kernel
theorem d_D_commit_75 : decode prog_1_method_13_code 75 = .ok (.getfield 26, 3) := by decide +kernel
theorem d_D_commit_78 : decode prog_1_method_13_code 78 = .ok (.aload_n 0, 1) := by decide +kernel
theorem d_D_commit_79 : decode prog_1_method_13_code 79 = .ok (.getfield 42, 3) := by decide +kernel
theorem d_D_commit_82 : decode prog_1_method_13_code 82 = .ok (.invokespecial 229, 3) := by decide +kernel
theorem d_D_commit_85 : decode prog_1_method_13_code 85 = .ok (.invokevirtual 232, 3) := by decide +kernel
theorem d_D_commit_88 : decode prog_1_method_13_code 88 = .ok (.ifCond .ne (5), 3) := by decide +kernel
theorem d_D_commit_91 : decode prog_1_method_13_code 91 = .ok (.iconst 1, 1) := by decide +kernel
theorem d_D_commit_92 : decode prog_1_method_13_code 92 = .ok (.ireturn, 1) := by decide +kernel
theorem d_D_commit_93 : decode prog_1_method_13_code 93 = .ok (.new 137, 3) := by decide +kernel
theorem d_D_commit_96 : decode prog_1_method_13_code 96 = .ok (.dup, 1) := by decide +kernel
theorem d_D_commit_97 : decode prog_1_method_13_code 97 = .ok (.aload_n 0, 1) := by decide +kernel
theorem d_D_commit_98 : decode prog_1_method_13_code 98 = .ok (.getfield 12, 3) := by decide +kernel
theorem d_D_commit_101 : decode prog_1_method_13_code 101 = .ok (.aload_n 0, 1) := by decide +kernel
theorem d_D_commit_102 : decode prog_1_method_13_code 102 = .ok (.getfield 26, 3) := by decide +kernel
theorem d_D_commit_105 : decode prog_1_method_13_code 105 = .ok (.aload_n 0, 1) := by decide +kernel
theorem d_D_commit_106 : decode prog_1_method_13_code 106 = .ok (.getfield 42, 3) := by decide +kernel
theorem d_D_commit_109 : decode prog_1_method_13_code 109 = .ok (.invokespecial 139, 3) := by decide +kernel
theorem d_D_commit_112 : decode prog_1_method_13_code 112 = .ok (.invokevirtual 142, 3) := by decide +kernel
theorem d_D_commit_115 : decode prog_1_method_13_code 115 = .ok (.ifCond .ne (5), 3) := by decide +kernel
theorem d_D_commit_118 : decode prog_1_method_13_code 118 = .ok (.iconst 2, 1) := by decide +kernel
theorem d_D_commit_119 : decode prog_1_method_13_code 119 = .ok (.ireturn, 1) := by decide +kernel
theorem d_D_commit_120 : decode prog_1_method_13_code 120 = .ok (.aload_n 0, 1) := by decide +kernel
theorem d_D_commit_121 : decode prog_1_method_13_code 121 = .ok (.aload_n 0, 1) := by decide +kernel
theorem d_D_commit_122 : decode prog_1_method_13_code 122 = .ok (.getfield 26, 3) := by decide +kernel
theorem d_D_commit_125 : decode prog_1_method_13_code 125 = .ok (.invokevirtual 235, 3) := by decide +kernel
theorem d_D_commit_128 : decode prog_1_method_13_code 128 = .ok (.ifCond .eq (8), 3) := by decide +kernel
theorem d_D_commit_131 : decode prog_1_method_13_code 131 = .ok (.aload_n 0, 1) := by decide +kernel
theorem d_D_commit_132 : decode prog_1_method_13_code 132 = .ok (.iload_n 2, 1) := by decide +kernel
theorem d_D_commit_133 : decode prog_1_method_13_code 133 = .ok (.putfield 50, 3) := by decide +kernel
theorem d_D_commit_136 : decode prog_1_method_13_code 136 = .ok (.aload_n 0, 1) := by decide +kernel
theorem d_D_commit_137 : decode prog_1_method_13_code 137 = .ok (.getfield 35, 3) := by decide +kernel
theorem d_D_commit_140 : decode prog_1_method_13_code 140 = .ok (.iload_n 1, 1) := by decide +kernel
theorem d_D_commit_141 : decode prog_1_method_13_code 141 = .ok (.aaload, 1) := by decide +kernel
theorem d_D_commit_142 : decode prog_1_method_13_code 142 = .ok (.aload_n 0, 1) := by decide +kernel
theorem d_D_commit_143 : decode prog_1_method_13_code 143 = .ok (.getfield 26, 3) := by decide +kernel
theorem d_D_commit_146 : decode prog_1_method_13_code 146 = .ok (.aload_n 0, 1) := by decide +kernel
theorem d_D_commit_147 : decode prog_1_method_13_code 147 = .ok (.getfield 26, 3) := by decide +kernel
theorem d_D_commit_150 : decode prog_1_method_13_code 150 = .ok (.invokevirtual 155, 3) := by decide +kernel
theorem d_D_commit_153 : decode prog_1_method_13_code 153 = .ok (.iconst 0, 1) := by decide +kernel
theorem d_D_commit_154 : decode prog_1_method_13_code 154 = .ok (.ireturn, 1) := by decide +kernel
def Y_D_commit : sdY := ("SettingsDesk", prog_1_method_13_code, 3, (some .int), .code y_D_commit prog_1_method_13_code 3 (some .int) :: sdB0, { frames := 7, cells := 5, slots := 26, locals := 160 }, 5, 26, [])
theorem cw_D_commit_D_requireReady_146 : sd_cwV Y_D_commit Y_D_requireReady y_D_requireReady 146 0 "SettingsDesk" := ⟨sd_goodV q344 q345 q346 q274 q342, ⟨_, rfl⟩, ⟨rfl, rfl, rfl, rfl⟩, ⟨rfl, by decide, by decide, by decide +kernel⟩, ⟨by decide, by decide⟩⟩
theorem cw_D_commit_D_requireSession_149 : sd_cwV Y_D_commit Y_D_requireSession y_D_requireSession 149 1 "SettingsDesk" := ⟨sd_goodV q347 q348 q349 q274 q343, ⟨_, rfl⟩, ⟨rfl, rfl, rfl, rfl⟩, ⟨rfl, by decide, by decide, by decide +kernel⟩, ⟨by decide, by decide⟩⟩
theorem cw_D_commit_D_requireBegun_163 : sd_cwV Y_D_commit Y_D_requireBegun y_D_requireBegun 163 1 "SettingsDesk" := ⟨sd_goodV q365 q366 q367 q274 q359, ⟨_, rfl⟩, ⟨rfl, rfl, rfl, rfl⟩, ⟨rfl, by decide, by decide, by decide +kernel⟩, ⟨by decide, by decide⟩⟩
theorem cw_D_commit_G_succeeds_232 : sd_cwV Y_D_commit Y_G_succeeds y_G_succeeds 232 0 "SettingsDesk$Merge" := ⟨sd_goodV q428 q430 q431 q133 q429, ⟨_, rfl⟩, ⟨rfl, rfl, rfl, rfl⟩, ⟨rfl, by decide, by decide, by decide +kernel⟩, ⟨by decide, by decide⟩⟩
theorem cw_D_commit_K_passes_142 : sd_cwV Y_D_commit Y_K_passes y_K_passes 142 0 "SettingsDesk$Check" := ⟨sd_goodV q417 q419 q420 q201 q418, ⟨_, rfl⟩, ⟨rfl, rfl, rfl, rfl⟩, ⟨rfl, by decide, by decide, by decide +kernel⟩, ⟨by decide, by decide⟩⟩
theorem cw_D_commit_D_changeTo_235 : sd_cwV Y_D_commit Y_D_changeTo y_D_changeTo 235 1 "SettingsDesk" := ⟨sd_goodV q270 q272 q273 q274 q271, ⟨_, rfl⟩, ⟨rfl, rfl, rfl, rfl⟩, ⟨rfl, by decide, by decide, by decide +kernel⟩, ⟨by decide, by decide⟩⟩
theorem cw_D_commit_N_takeOver_155 : sd_cwV Y_D_commit Y_N_takeOver y_N_takeOver 155 2 "SettingsDesk$Session" := ⟨sd_goodV q350 q352 q353 q354 q351, ⟨_, rfl⟩, ⟨rfl, rfl, rfl, rfl⟩, ⟨rfl, by decide, by decide, by decide +kernel⟩, ⟨by decide, by decide⟩⟩
section
variable {l : Launch} {D : va_G} {dA : Nat → ClassId} {b n : Nat} {ad : Nat → Nat} {L : Nat → sdL} {sc : Option (Nat × Nat × (Nat → Int32))}
def k_D_commit_136 (n : Nat) (Q : Int32 → sdM → Prop) (X : String → sdM → Prop) (M : sdM) (x1 : Int32) : Prop := vp_in x1 3 ∧ w_N_takeOver (83 + 11 * x1.toNatClampNeg) M 35 35 (fun M20 => Q (0 : Int32) M20)
set_option maxHeartbeats 1000000 in
theorem t_D_commit_136 {n : Nat} (hA : sd_ad b n ad) (hT : l.stackTraces = false) (hD : isD n L dA) (hloc : sd_loc n L) {aF : Nat → Nat} {F : sdM → Heap → Prop} (hF : ∀ (M : sdM) (H : Heap), sd_H D (sdE0 sc).1 n ad L M H → F M H) {Q : Int32 → sdM → Prop} {X : String → sdM → Prop} (M : sdM) (x1 : Int32) (hw : k_D_commit_136 n Q X M x1) : sdW l (sdE0 sc) Y_D_commit D (sd_tys dA) b n ad L aF F (sd_qi Q) X 136 [(0, .ref 0), (1, .int x1)] [] M 0 0 := by
  unfold k_D_commit_136 at hw
  refine x_aload_n 0 0 d_D_commit_136 rfl rfl ?_
  refine x_getr 5 41 d_D_commit_137 hD.1 hD.2.1 rfl rfl (by decide) lay_D (List.mem_cons_of_mem _ q268) rfl ?_
  refine x_iload_n 1 1 d_D_commit_140 rfl rfl ?_
  obtain ⟨hi19, hw⟩ := hw
  refine x_aald (83 + 11 * x1.toNatClampNeg) d_D_commit_141 hD.sessions.1 hD.sessions.2 (t0 := 6) rfl hi19 rfl ?_
  refine x_aload_n 0 0 d_D_commit_142 rfl rfl ?_
  refine x_getr 3 35 d_D_commit_143 hD.1 hD.2.1 rfl rfl (by decide) lay_D (List.mem_cons_of_mem _ q423) rfl ?_
  refine x_aload_n 0 0 d_D_commit_146 rfl rfl ?_
  refine x_getr 3 35 d_D_commit_147 hD.1 hD.2.1 rfl rfl (by decide) lay_D (List.mem_cons_of_mem _ q423) rfl ?_
  refine x_callVv (As := [.ref 35, .ref 35]) (t := (83 + 11 * x1.toNatClampNeg)) (rest := []) (rc := 0) (rs := 0) (c_N_takeOver hA hT (hD.sessionsAt hi19) hD.outcome hD.outcome hw) cw_D_commit_N_takeOver_155 (hD.sessionsAt hi19).1 (hD.sessionsAt hi19).2.1 rfl d_D_commit_150 rfl rfl (Nat.le_of_ble_eq_true rfl) rfl (fun _ _ h => h.elim) hF (fun M20 hw => ?_)
  refine x_iconst (v := 0) d_D_commit_153 (by decide) ?_
  exact x_iret d_D_commit_154 rfl (hF _) ⟨_, rfl, hw⟩
def k_D_commit_60 (n : Nat) (Q : Int32 → sdM → Prop) (X : String → sdM → Prop) (M : sdM) (x1 : Int32) (x2 : Int32) : Prop := ∀ M21 : sdM, M21 = va_up M n (fun _ => 0) → vp_in x1 3 ∧ w_G_init n M21  (fun M23 => w_G_succeeds n ((83 + 11 * x1.toNatClampNeg) + 1) ((83 + 11 * x1.toNatClampNeg) + 6) 25 35 42 M23 (fun r25 M24 => (¬ r25 = 0 → ∀ M26 : sdM, M26 = va_up M24 (n + 1) (fun _ => 0) → w_K_init (n + 1) M26  (fun M27 => w_K_passes (n + 1) 35 42 M27 (fun r29 M28 => (¬ r29 = 0 → w_D_changeTo M28 35 (fun r31 M30 => (r31 = 0 → k_D_commit_136 ((n + 1) + 1) Q X M30 x1) ∧ (¬ r31 = 0 → ∀ M32 : sdM, M32 = sd_s M30 0 8 x2 → k_D_commit_136 ((n + 1) + 1) Q X M32 x1))) ∧ (r29 = 0 → Q (2 : Int32) M28)))) ∧ (r25 = 0 → Q (1 : Int32) M24)))
set_option maxHeartbeats 1000000 in
theorem t_D_commit_60 {n : Nat} (hA : sd_ad b n ad) (hT : l.stackTraces = false) (hD : isD n L dA) (hloc : sd_loc n L) {aF : Nat → Nat} {F : sdM → Heap → Prop} (hF : ∀ (M : sdM) (H : Heap), sd_H D (sdE0 sc).1 n ad L M H → F M H) {Q : Int32 → sdM → Prop} {X : String → sdM → Prop} (M : sdM) (x1 : Int32) (x2 : Int32) (hw : k_D_commit_60 n Q X M x1 x2) : sdW l (sdE0 sc) Y_D_commit D (sd_tys dA) b n ad L aF F (sd_qi Q) X 60 [(0, .ref 0), (1, .int x1), (2, .int x2)] [] M 2 8 := by
  unfold k_D_commit_60 at hw
  refine x_new (rc := 1) (rs := 3) [some none, some none, some none, some none, some none] hA hloc (List.forall_mem_cons.mpr ⟨(sd_bel_r hD.1), List.forall_mem_cons.mpr ⟨sd_bel_i, List.forall_mem_cons.mpr ⟨sd_bel_i, fun _ h => absurd h List.not_mem_nil⟩⟩⟩) (fun _ h => absurd h List.not_mem_nil) d_D_commit_60 (ci := 7) (N := 5) (C := "SettingsDesk$Merge") (T := T_G) rfl ty_G ty_G_ok lay_G (List.mem_cons_of_mem _ q421) (List.mem_cons_of_mem _ q422) (List.mem_cons_of_mem _ q133) (sd_nr rfl) (by decide +kernel) rfl rfl (fun ad21 L21 M21 hA21 hl21 hu21 hy21 had21 e21 => ?_)
  have hw := hw M21 e21
  clear e21
  have hv21 := hu21
  have hq21 := had21
  have hF21 := fun (M : sdM) (H : Heap) (h : sd_H D (sdE0 sc).1 (n + 1) ad21 L21 M H) => hF M H (sd_H.down hloc hv21 hq21 h)
  refine x_dup d_D_commit_63 rfl ?_
  refine x_aload_n 0 0 d_D_commit_64 rfl rfl ?_
  refine x_getr 5 41 d_D_commit_65 (hD.up hv21).1 (hD.up hv21).2.1 rfl rfl (by decide) lay_D (List.mem_cons_of_mem _ q268) rfl ?_
  refine x_iload_n 1 1 d_D_commit_68 rfl rfl ?_
  obtain ⟨hi22, hw⟩ := hw
  refine x_aald (83 + 11 * x1.toNatClampNeg) d_D_commit_69 ((hD.up hv21).sessions).1 ((hD.up hv21).sessions).2 (t0 := 6) rfl hi22 rfl ?_
  refine x_aload_n 0 0 d_D_commit_70 rfl rfl ?_
  refine x_getr 1 25 d_D_commit_71 (hD.up hv21).1 (hD.up hv21).2.1 rfl rfl (by decide) lay_D (List.mem_cons_of_mem _ q253) rfl ?_
  refine x_aload_n 0 0 d_D_commit_74 rfl rfl ?_
  refine x_getr 3 35 d_D_commit_75 (hD.up hv21).1 (hD.up hv21).2.1 rfl rfl (by decide) lay_D (List.mem_cons_of_mem _ q423) rfl ?_
  refine x_aload_n 0 0 d_D_commit_78 rfl rfl ?_
  refine x_getr 6 42 d_D_commit_79 (hD.up hv21).1 (hD.up hv21).2.1 rfl rfl (by decide) lay_D (List.mem_cons_of_mem _ q276) rfl ?_
  refine x_callIv (As := [.ref (83 + 11 * x1.toNatClampNeg), .ref 25, .ref 35, .ref 42]) (t := n) (rest := [.ref n]) (rc := 1) (rs := 3) (L2 := (va_up L21 n (sd_O 7 [some (some ((83 + 11 * x1.toNatClampNeg) + 1)), some (some ((83 + 11 * x1.toNatClampNeg) + 6)), some (some 25), some (some 35), some (some 42)]))) (na := 4) (host := "SettingsDesk") (c_G_init (p1 := (83 + 11 * x1.toNatClampNeg)) (p2 := 25) (p3 := 35) (p4 := 42) hA21 (Nat.lt_succ_self _) hy21 ((hD.up hv21).sessionsAt hi22).1 ((hD.up hv21).sessionsAt hi22).2.1 (Nat.ne_of_lt (hD.sessionsAt hi22).1) hw) (sd_goodB q424) ⟨_, rfl⟩ (List.mem_cons_of_mem _ q133) (List.mem_cons_of_mem _ q425) (Or.inl (List.mem_cons_of_mem _ q426)) ⟨rfl, by decide, by decide, by decide +kernel⟩ ⟨rfl, rfl, rfl, rfl⟩ ⟨by decide, by decide⟩ d_D_commit_82 rfl rfl (Nat.le_of_ble_eq_true rfl) (fun M23 hw => ?_)
  obtain ⟨L23, hL23⟩ : ∃ z, z = (va_up L21 n (sd_O 7 [some (some ((83 + 11 * x1.toNatClampNeg) + 1)), some (some ((83 + 11 * x1.toNatClampNeg) + 6)), some (some 25), some (some 35), some (some 42)])) := ⟨_, rfl⟩
  rw [← hL23]
  have hy23 : L23 n = sd_O 7 [some (some ((83 + 11 * x1.toNatClampNeg) + 1)), some (some ((83 + 11 * x1.toNatClampNeg) + 6)), some (some 25), some (some 35), some (some 42)] := by rw [hL23]; exact va_up_self _ _ _
  have hn23 : ∀ k, k ≠ n → L23 k = L21 k := fun k h => by rw [hL23]; exact va_up_ne _ _ h
  have hv23 : sd_up n L (n + 1) L23 := ⟨hv21.1, fun k hk => (hn23 k (by omega)).trans (hv21.2 k hk)⟩
  have hF23 := fun (M : sdM) (H : Heap) (h : sd_H D (sdE0 sc).1 (n + 1) ad21 L23 M H) => hF M H (sd_H.down hloc hv23 hq21 h)
  have hk23 : isG (n + 1) L23 dA n ((83 + 11 * x1.toNatClampNeg) + 1) ((83 + 11 * x1.toNatClampNeg) + 6) 25 35 42 := ⟨(Nat.lt_succ_self _), hy23, (((hD.up hv23).sessionsAt hi22)).candidate, (((hD.up hv23).sessionsAt hi22)).base, (hD.up hv23).running, (hD.up hv23).outcome, (hD.up hv23).trouble⟩
  have hl23 : sd_loc (n + 1) L23 := by rw [hL23]; exact sd_loc_at hl21 (fun a a2 f e => by show (Sum.inr (7, sd_fv a f 0 [some (some ((83 + 11 * x1.toNatClampNeg) + 1)), some (some ((83 + 11 * x1.toNatClampNeg) + 6)), some (some 25), some (some 35), some (some 42)]) : va_E) = Sum.inr (7, sd_fv a2 f 0 [some (some ((83 + 11 * x1.toNatClampNeg) + 1)), some (some ((83 + 11 * x1.toNatClampNeg) + 6)), some (some 25), some (some 35), some (some 42)]); simp only [sd_fv, sd_fx]; rw [e _ (hk23.candidate).1, e _ (hk23.base).1, e _ (hk23.running).1, e _ (hk23.outcome).1, e _ (hk23.trouble).1])
  clear hL23
  refine x_callVi (As := []) (t := n) (rest := []) (rc := 1) (rs := 3) (c_G_succeeds hA21 hT hk23 hw) cw_D_commit_G_succeeds_232 hk23.1 hk23.2.1 rfl d_D_commit_85 rfl rfl (Nat.le_of_ble_eq_true rfl) rfl (fun _ _ h => h.elim) hF23 (fun r25 M24 hw => ?_)
  refine x_if_ne 93 d_D_commit_88 rfl (fun hc => ?_) (fun hc => ?_)
  · have hw := hw.1 hc
    refine x_new (rc := 0) (rs := 0) [some none, some none, some none] hA21 hl23 (List.forall_mem_cons.mpr ⟨(sd_bel_r (hD.up hv23).1), List.forall_mem_cons.mpr ⟨sd_bel_i, List.forall_mem_cons.mpr ⟨sd_bel_i, fun _ h => absurd h List.not_mem_nil⟩⟩⟩) (fun _ h => absurd h List.not_mem_nil) d_D_commit_93 (ci := 8) (N := 3) (C := "SettingsDesk$Check") (T := T_K) rfl ty_K ty_K_ok lay_K (List.mem_cons_of_mem _ q408) (List.mem_cons_of_mem _ q409) (List.mem_cons_of_mem _ q201) (sd_nr rfl) (by decide +kernel) rfl rfl (fun ad26 L26 M26 hA26 hl26 hu26 hy26 had26 e26 => ?_)
    have hw := hw M26 e26
    clear e26
    have hv26 := hv23.trans hu26
    have hq26 : ∀ k, k < n → ad26 k = ad k := fun k hk => (had26 k (Nat.lt_of_lt_of_le hk hv23.1)).trans (hq21 k hk)
    have hF26 := fun (M : sdM) (H : Heap) (h : sd_H D (sdE0 sc).1 ((n + 1) + 1) ad26 L26 M H) => hF M H (sd_H.down hloc hv26 hq26 h)
    refine x_dup d_D_commit_96 rfl ?_
    refine x_aload_n 0 0 d_D_commit_97 rfl rfl ?_
    refine x_getr 0 1 d_D_commit_98 (hD.up hv26).1 (hD.up hv26).2.1 rfl rfl (by decide) lay_D (List.mem_cons_of_mem _ q281) rfl ?_
    refine x_aload_n 0 0 d_D_commit_101 rfl rfl ?_
    refine x_getr 3 35 d_D_commit_102 (hD.up hv26).1 (hD.up hv26).2.1 rfl rfl (by decide) lay_D (List.mem_cons_of_mem _ q423) rfl ?_
    refine x_aload_n 0 0 d_D_commit_105 rfl rfl ?_
    refine x_getr 6 42 d_D_commit_106 (hD.up hv26).1 (hD.up hv26).2.1 rfl rfl (by decide) lay_D (List.mem_cons_of_mem _ q276) rfl ?_
    refine x_callIv (As := [.ref 1, .ref 35, .ref 42]) (t := (n + 1)) (rest := [.ref (n + 1)]) (rc := 0) (rs := 0) (L2 := (va_up L26 (n + 1) (sd_O 8 [some (some 1), some (some 35), some (some 42)]))) (na := 3) (host := "SettingsDesk") (c_K_init (p1 := 1) (p2 := 35) (p3 := 42) hA26 (Nat.lt_succ_self _) hy26 hw) (sd_goodB q414) ⟨_, rfl⟩ (List.mem_cons_of_mem _ q201) (List.mem_cons_of_mem _ q415) (Or.inl (List.mem_cons_of_mem _ q416)) ⟨rfl, by decide, by decide, by decide +kernel⟩ ⟨rfl, rfl, rfl, rfl⟩ ⟨by decide, by decide⟩ d_D_commit_109 rfl rfl (Nat.le_of_ble_eq_true rfl) (fun M27 hw => ?_)
    obtain ⟨L27, hL27⟩ : ∃ z, z = (va_up L26 (n + 1) (sd_O 8 [some (some 1), some (some 35), some (some 42)])) := ⟨_, rfl⟩
    rw [← hL27]
    have hy27 : L27 (n + 1) = sd_O 8 [some (some 1), some (some 35), some (some 42)] := by rw [hL27]; exact va_up_self _ _ _
    have hn27 : ∀ k, k ≠ (n + 1) → L27 k = L26 k := fun k h => by rw [hL27]; exact va_up_ne _ _ h
    have hv27 : sd_up n L ((n + 1) + 1) L27 := ⟨hv26.1, fun k hk => (hn27 k (by omega)).trans (hv26.2 k hk)⟩
    have hF27 := fun (M : sdM) (H : Heap) (h : sd_H D (sdE0 sc).1 ((n + 1) + 1) ad26 L27 M H) => hF M H (sd_H.down hloc hv27 hq26 h)
    have hk27 : isK ((n + 1) + 1) L27 dA (n + 1) 35 42 := ⟨(Nat.lt_succ_self _), hy27, (hD.up hv27).schema, (hD.up hv27).outcome, (hD.up hv27).trouble⟩
    have hl27 : sd_loc ((n + 1) + 1) L27 := by rw [hL27]; exact sd_loc_at hl26 (fun a a2 f e => by show (Sum.inr (8, sd_fv a f 0 [some (some 1), some (some 35), some (some 42)]) : va_E) = Sum.inr (8, sd_fv a2 f 0 [some (some 1), some (some 35), some (some 42)]); simp only [sd_fv, sd_fx]; rw [e _ (hk27.schema).1, e _ (hk27.settings).1, e _ (hk27.trouble).1])
    clear hL27
    refine x_callVi (As := []) (t := (n + 1)) (rest := []) (rc := 0) (rs := 0) (c_K_passes hA26 hT hk27 hw) cw_D_commit_K_passes_142 hk27.1 hk27.2.1 rfl d_D_commit_112 rfl rfl (Nat.le_of_ble_eq_true rfl) rfl (fun _ _ h => h.elim) hF27 (fun r29 M28 hw => ?_)
    refine x_if_ne 120 d_D_commit_115 rfl (fun hc => ?_) (fun hc => ?_)
    · have hw := hw.1 hc
      refine x_aload_n 0 0 d_D_commit_120 rfl rfl ?_
      refine x_aload_n 0 0 d_D_commit_121 rfl rfl ?_
      refine x_getr 3 35 d_D_commit_122 (hD.up hv27).1 (hD.up hv27).2.1 rfl rfl (by decide) lay_D (List.mem_cons_of_mem _ q423) rfl ?_
      refine x_callVi (As := [.ref 35]) (t := 0) (rest := []) (rc := 0) (rs := 0) (c_D_changeTo hA26 hT (hD.up hv27) (hD.up hv27).outcome hw) cw_D_commit_D_changeTo_235 (hD.up hv27).1 (hD.up hv27).2.1 rfl d_D_commit_125 rfl rfl (Nat.le_of_ble_eq_true rfl) rfl (fun _ _ h => h.elim) hF27 (fun r31 M30 hw => ?_)
      refine x_if_eq 136 d_D_commit_128 rfl (fun hc => ?_) (fun hc => ?_)
      · have hw := hw.1 hc
        refine x_sub [0, 1] [(0, .ref 0), (1, .int x1)] rfl ?_
        exact t_D_commit_136 hA26 hT (hD.up hv27) hl27 hF27 M30 x1 hw
      · have hw := hw.2 hc
        refine x_aload_n 0 0 d_D_commit_131 rfl rfl ?_
        refine x_iload_n 2 2 d_D_commit_132 rfl rfl ?_
        refine x_puti 8 (ty := .int) hA26 d_D_commit_133 (hD.up hv27).1 (hD.up hv27).2.1 rfl rfl (by decide) lay_D (List.mem_cons_of_mem _ q267) rfl ty_D ty_D_ok nm_D rfl (by decide +kernel) rfl rfl (fun M32 e33 => ?_)
        have hw := hw M32 e33
        clear e33
        refine x_sub [0, 1] [(0, .ref 0), (1, .int x1)] rfl ?_
        exact t_D_commit_136 hA26 hT (hD.up hv27) hl27 hF27 M32 x1 hw
    · have hw := hw.2 hc
      refine x_iconst (v := 2) d_D_commit_118 (by decide) ?_
      exact x_iret d_D_commit_119 rfl (hF27 _) ⟨_, rfl, hw⟩
  · have hw := hw.2 hc
    refine x_iconst (v := 1) d_D_commit_91 (by decide) ?_
    exact x_iret d_D_commit_92 rfl (hF23 _) ⟨_, rfl, hw⟩
def k_D_commit_58 (n : Nat) (Q : Int32 → sdM → Prop) (X : String → sdM → Prop) (M : sdM) : Prop := Q (3 : Int32) M
set_option maxHeartbeats 1000000 in
theorem t_D_commit_58 {n : Nat} (hA : sd_ad b n ad) (hT : l.stackTraces = false) (hD : isD n L dA) (hloc : sd_loc n L) {aF : Nat → Nat} {F : sdM → Heap → Prop} (hF : ∀ (M : sdM) (H : Heap), sd_H D (sdE0 sc).1 n ad L M H → F M H) {Q : Int32 → sdM → Prop} {X : String → sdM → Prop} (M : sdM) (hw : k_D_commit_58 n Q X M ) : sdW l (sdE0 sc) Y_D_commit D (sd_tys dA) b n ad L aF F (sd_qi Q) X 58 [] [] M 2 8 := by
  unfold k_D_commit_58 at hw
  refine x_iconst (v := 3) d_D_commit_58 (by decide) ?_
  exact x_iret d_D_commit_59 rfl (hF _) ⟨_, rfl, hw⟩
def k_D_commit_25 (n : Nat) (Q : Int32 → sdM → Prop) (X : String → sdM → Prop) (M : sdM) : Prop := X "java/lang/IllegalArgumentException" M
set_option maxHeartbeats 1000000 in
theorem t_D_commit_25 {n : Nat} (hA : sd_ad b n ad) (hT : l.stackTraces = false) (hD : isD n L dA) (hloc : sd_loc n L) {aF : Nat → Nat} {F : sdM → Heap → Prop} (hF : ∀ (M : sdM) (H : Heap), sd_H D (sdE0 sc).1 n ad L M H → F M H) {Q : Int32 → sdM → Prop} {X : String → sdM → Prop} (M : sdM) (hw : k_D_commit_25 n Q X M ) : sdW l (sdE0 sc) Y_D_commit D (sd_tys dA) b n ad L aF F (sd_qi Q) X 25 [] [] M 2 8 := by
  unfold k_D_commit_25 at hw
  exact x_throwS (names := sdExN) (is := 225) (ic := 95) (rc := 1) (rs := 2) hT rfl fit_IAE fit_N (sd_goodB q427) (List.mem_cons_of_mem _ q304) (List.mem_cons_of_mem _ q305) (List.mem_cons_of_mem _ q306) (List.mem_of_getElem? (i := 17) rfl) oa_IAE d_D_commit_25 d_D_commit_28 (Or.inl ⟨d_D_commit_29, rfl⟩) d_D_commit_31 d_D_commit_34 (by decide) (Nat.le_of_ble_eq_true rfl) rfl rfl hF hw
def w_D_commit (n : Nat) (M : sdM) (a1 : Int32) (a2 : Int32) (Q : Int32 → sdM → Prop) (X : String → sdM → Prop) : Prop := w_D_requireReady M (fun M34 => w_D_requireSession M34 a1 (fun M35 => w_D_requireBegun M35 a1 (fun M36 => (a2 < 0 → k_D_commit_25 n Q X M36) ∧ (¬ a2 < 0 → (a2 ≤ (1000 : Int32) → (0 < (M36 0 8) → k_D_commit_58 n Q X M36) ∧ (¬ 0 < (M36 0 8) → ((M36 0 9) = (-1 : Int32) → k_D_commit_60 n Q X M36 a1 a2) ∧ (¬ (M36 0 9) = (-1 : Int32) → ((M36 0 9) = a1 → k_D_commit_60 n Q X M36 a1 a2) ∧ (¬ (M36 0 9) = a1 → k_D_commit_58 n Q X M36)))) ∧ (¬ a2 ≤ (1000 : Int32) → k_D_commit_25 n Q X M36))) X) X) X
set_option maxHeartbeats 1000000 in
theorem c_D_commit {a1 : Int32} {a2 : Int32} {n : Nat} (hA : sd_ad b n ad) (hT : l.stackTraces = false) (hD : isD n L dA) (hloc : sd_loc n L) {Q : Int32 → sdM → Prop} {X : String → sdM → Prop} {M : sdM} (hw : w_D_commit n M a1 a2 Q X) : sd_Cn l (sdE0 sc) y_D_commit Y_D_commit.2.2.2.2.1 Y_D_commit.2.2.2.2.2.1 5 26 D (sd_tys dA) b n ad L M [.ref 0, .int a1, .int a2] (sd_qi Q) X := by
  refine sd_enter (Y := Y_D_commit) rfl rfl rfl rfl (Nat.le_of_ble_eq_true rfl) ?_
  show sdW l (sdE0 sc) Y_D_commit D (sd_tys dA) b n ad L ad (sd_H D (sdE0 sc).1 n ad L) (sd_qi Q) X 0 [(0, .ref 0), (1, .int a1), (2, .int a2)] [] M 5 26
  unfold w_D_commit at hw
  have hF : ∀ (M : sdM) (H : Heap), sd_H D (sdE0 sc).1 n ad L M H → sd_H D (sdE0 sc).1 n ad L M H := fun _ _ h => h
  refine x_aload_n 0 0 d_D_commit_0 rfl rfl ?_
  refine x_callVv (As := []) (t := 0) (rest := []) (rc := 4) (rs := 20) (c_D_requireReady hA hT hD hw) cw_D_commit_D_requireReady_146 hD.1 hD.2.1 rfl d_D_commit_1 rfl rfl (Nat.le_of_ble_eq_true rfl) rfl (fun _ _ h => h) hF (fun M34 hw => ?_)
  refine x_aload_n 0 0 d_D_commit_4 rfl rfl ?_
  refine x_iload_n 1 1 d_D_commit_5 rfl rfl ?_
  refine x_callVv (As := [.int a1]) (t := 0) (rest := []) (rc := 3) (rs := 14) (c_D_requireSession hA hT hD hw) cw_D_commit_D_requireSession_149 hD.1 hD.2.1 rfl d_D_commit_6 rfl rfl (Nat.le_of_ble_eq_true rfl) rfl (fun _ _ h => h) hF (fun M35 hw => ?_)
  refine x_aload_n 0 0 d_D_commit_9 rfl rfl ?_
  refine x_iload_n 1 1 d_D_commit_10 rfl rfl ?_
  refine x_callVv (As := [.int a1]) (t := 0) (rest := []) (rc := 2) (rs := 8) (c_D_requireBegun hA hT hD hw) cw_D_commit_D_requireBegun_163 hD.1 hD.2.1 rfl d_D_commit_11 rfl rfl (Nat.le_of_ble_eq_true rfl) rfl (fun _ _ h => h) hF (fun M36 hw => ?_)
  refine x_iload_n 2 2 d_D_commit_14 rfl rfl ?_
  refine x_if_lt 25 d_D_commit_15 rfl (fun hc => ?_) (fun hc => ?_)
  · have hw := hw.1 hc
    refine x_sub [] [] rfl ?_
    exact t_D_commit_25 hA hT hD hloc hF M36 hw
  · have hw := hw.2 hc
    refine x_iload_n 2 2 d_D_commit_18 rfl rfl ?_
    refine x_sipush (v := 1000) d_D_commit_19 (by decide) ?_
    refine x_icmp_le 35 d_D_commit_22 rfl (fun hc => ?_) (fun hc => ?_)
    · have hw := hw.1 hc
      refine x_aload_n 0 0 d_D_commit_35 rfl rfl ?_
      refine x_geti 8 d_D_commit_36 hD.1 hD.2.1 rfl rfl (by decide) lay_D (List.mem_cons_of_mem _ q267) rfl ?_
      refine x_if_gt 58 d_D_commit_39 rfl (fun hc => ?_) (fun hc => ?_)
      · have hw := hw.1 hc
        refine x_sub [] [] rfl ?_
        exact t_D_commit_58 hA hT hD hloc hF M36 hw
      · have hw := hw.2 hc
        refine x_aload_n 0 0 d_D_commit_42 rfl rfl ?_
        refine x_geti 9 d_D_commit_43 hD.1 hD.2.1 rfl rfl (by decide) lay_D (List.mem_cons_of_mem _ q266) rfl ?_
        refine x_iconst (v := (-1)) d_D_commit_46 (by decide) ?_
        refine x_icmp_eq 60 d_D_commit_47 rfl (fun hc => ?_) (fun hc => ?_)
        · have hw := hw.1 hc
          exact t_D_commit_60 hA hT hD hloc hF M36 a1 a2 hw
        · have hw := hw.2 hc
          refine x_aload_n 0 0 d_D_commit_50 rfl rfl ?_
          refine x_geti 9 d_D_commit_51 hD.1 hD.2.1 rfl rfl (by decide) lay_D (List.mem_cons_of_mem _ q266) rfl ?_
          refine x_iload_n 1 1 d_D_commit_54 rfl rfl ?_
          refine x_icmp_eq 60 d_D_commit_55 rfl (fun hc => ?_) (fun hc => ?_)
          · have hw := hw.1 hc
            exact t_D_commit_60 hA hT hD hloc hF M36 a1 a2 hw
          · have hw := hw.2 hc
            refine x_sub [] [] rfl ?_
            exact t_D_commit_58 hA hT hD hloc hF M36 hw
    · have hw := hw.2 hc
      refine x_sub [] [] rfl ?_
      exact t_D_commit_25 hA hT hD hloc hF M36 hw
end
theorem q432 : (.classLink "SettingsDesk" 247 "SettingsDesk$Difference" : Cond) ∈ sdB0 := sd_tb4 71 rfl rfl
theorem q433 : (.instantiable "SettingsDesk$Difference" 8 : Cond) ∈ sdB0 := sd_tb4 72 rfl rfl
theorem q434 : (.code ⟨"SettingsDesk$Difference", "<init>", "(LSettingsDesk$Settings;LSettingsDesk$Settings;I)V"⟩ prog_3_method_1_code 4 none : Cond) ∈ sdB0 := sd_tb4 75 rfl rfl
theorem q435 : (.instanceMethod ⟨"SettingsDesk$Difference", "<init>", "(LSettingsDesk$Settings;LSettingsDesk$Settings;I)V"⟩ : Cond) ∈ sdB0 := sd_tb4 74 rfl rfl
theorem q436 : (.methodLink "SettingsDesk" 249 ⟨"SettingsDesk$Difference", "<init>", "(LSettingsDesk$Settings;LSettingsDesk$Settings;I)V"⟩ : Cond) ∈ sdB0 := sd_tb4 73 rfl rfl
theorem q437 : (.fieldLink "SettingsDesk" 257 "SettingsDesk$Difference" "atList" "I" : Cond) ∈ sdB0 := sd_tb4 82 rfl rfl
theorem q438 : (.fieldLink "SettingsDesk" 260 "SettingsDesk$Difference" "atKey" "I" : Cond) ∈ sdB0 := sd_tb4 84 rfl rfl
theorem q439 : (.fieldLink "SettingsDesk" 263 "SettingsDesk$Difference" "atLeaf" "I" : Cond) ∈ sdB0 := sd_tb4 86 rfl rfl
theorem q440 : (.fieldLink "SettingsDesk" 266 "SettingsDesk$Difference" "kind" "I" : Cond) ∈ sdB0 := sd_tb4 88 rfl rfl
theorem q441 : (.code ⟨"SettingsDesk", "diff", "(III)I"⟩ prog_1_method_17_code 5 (some .int) : Cond) ∈ sdB0 := sd_tb4 70 rfl rfl
theorem q442 : (.methodLink "SettingsDesk" 252 ⟨"SettingsDesk$Difference", "isThere", "()Z"⟩ : Cond) ∈ sdB0 := sd_tb4 106 rfl rfl
theorem q443 : (.code ⟨"SettingsDesk$Difference", "isThere", "()Z"⟩ prog_3_method_2_code 2 (some .boolean) : Cond) ∈ sdB0 := sd_tb4 109 rfl rfl
theorem q444 : (.instanceMethod ⟨"SettingsDesk$Difference", "isThere", "()Z"⟩ : Cond) ∈ sdB0 := sd_tb4 107 rfl rfl
theorem q445 : (.selects "SettingsDesk$Difference" ⟨"SettingsDesk$Difference", "isThere", "()Z"⟩ ⟨"SettingsDesk$Difference", "isThere", "()Z"⟩ : Cond) ∈ sdB0 := sd_tb4 108 rfl rfl
abbrev y_D_diff : MethodName := ⟨"SettingsDesk", "diff", "(III)I"⟩
theorem d_D_diff_0 : decode prog_1_method_17_code 0 = .ok (.aload_n 0, 1) := by decide +kernel
theorem d_D_diff_1 : decode prog_1_method_17_code 1 = .ok (.invokevirtual 146, 3) := by decide +kernel
theorem d_D_diff_4 : decode prog_1_method_17_code 4 = .ok (.aload_n 0, 1) := by decide +kernel
theorem d_D_diff_5 : decode prog_1_method_17_code 5 = .ok (.iload_n 1, 1) := by decide +kernel
theorem d_D_diff_6 : decode prog_1_method_17_code 6 = .ok (.invokevirtual 149, 3) := by decide +kernel
theorem d_D_diff_9 : decode prog_1_method_17_code 9 = .ok (.aload_n 0, 1) := by decide +kernel
theorem d_D_diff_10 : decode prog_1_method_17_code 10 = .ok (.iload_n 1, 1) := by decide +kernel
theorem d_D_diff_11 : decode prog_1_method_17_code 11 = .ok (.invokevirtual 163, 3) := by decide +kernel
theorem d_D_diff_14 : decode prog_1_method_17_code 14 = .ok (.new 247, 3) := by decide +kernel
theorem d_D_diff_17 : decode prog_1_method_17_code 17 = .ok (.dup, 1) := by decide +kernel
theorem d_D_diff_18 : decode prog_1_method_17_code 18 = .ok (.aload_n 0, 1) := by decide +kernel
theorem d_D_diff_19 : decode prog_1_method_17_code 19 = .ok (.getfield 35, 3) := by decide +kernel
theorem d_D_diff_22 : decode prog_1_method_17_code 22 = .ok (.iload_n 1, 1) := by decide +kernel
theorem d_D_diff_23 : decode prog_1_method_17_code 23 = .ok (.aaload, 1) := by decide +kernel
theorem d_D_diff_24 : decode prog_1_method_17_code 24 = .ok (.getfield 168, 3) := by decide +kernel
theorem d_D_diff_27 : decode prog_1_method_17_code 27 = .ok (.aload_n 0, 1) := by decide +kernel
theorem d_D_diff_28 : decode prog_1_method_17_code 28 = .ok (.getfield 19, 3) := by decide +kernel
theorem d_D_diff_31 : decode prog_1_method_17_code 31 = .ok (.iload_n 2, 1) := by decide +kernel
theorem d_D_diff_32 : decode prog_1_method_17_code 32 = .ok (.invokespecial 249, 3) := by decide +kernel
theorem d_D_diff_35 : decode prog_1_method_17_code 35 = .ok (.astore 4, 2) := by decide +kernel
theorem d_D_diff_37 : decode prog_1_method_17_code 37 = .ok (.iload_n 2, 1) := by decide +kernel
theorem d_D_diff_38 : decode prog_1_method_17_code 38 = .ok (.ifCond .lt (20), 3) := by decide +kernel
theorem d_D_diff_41 : decode prog_1_method_17_code 41 = .ok (.iload_n 3, 1) := by decide +kernel
theorem d_D_diff_42 : decode prog_1_method_17_code 42 = .ok (.ifCond .lt (16), 3) := by decide +kernel
theorem d_D_diff_45 : decode prog_1_method_17_code 45 = .ok (.iload_n 3, 1) := by decide +kernel
theorem d_D_diff_46 : decode prog_1_method_17_code 46 = .ok (.iconst 3, 1) := by decide +kernel
theorem d_D_diff_47 : decode prog_1_method_17_code 47 = .ok (.if_icmp .gt (11), 3) := by decide +kernel
theorem d_D_diff_50 : decode prog_1_method_17_code 50 = .ok (.aload 4, 2) := by decide +kernel
theorem d_D_diff_52 : decode prog_1_method_17_code 52 = .ok (.invokevirtual 252, 3) := by decide +kernel
theorem d_D_diff_55 : decode prog_1_method_17_code 55 = .ok (.ifCond .ne (13), 3) := by decide +kernel
theorem d_D_diff_58 : decode prog_1_method_17_code 58 = .ok (.new 206, 3) := by decide +kernel
theorem d_D_diff_61 : decode prog_1_method_17_code 61 = .ok (.dup, 1) := by decide +kernel
theorem d_D_diff_62 : decode prog_1_method_17_code 62 = .ok (.ldc 255, 2) := by decide +kernel
theorem d_D_diff_64 : decode prog_1_method_17_code 64 = .ok (.invokespecial 210, 3) := by decide +kernel
theorem d_D_diff_67 : decode prog_1_method_17_code 67 = .ok (.athrow, 1) := by decide +kernel
theorem d_D_diff_68 : decode prog_1_method_17_code 68 = .ok (.iload_n 3, 1) := by decide +kernel
theorem d_D_diff_69 : decode prog_1_method_17_code 69 = .ok (.tableswitch (45) (0) (2) #[27, 33, 39], 27) := by decide +kernel
theorem d_D_diff_96 : decode prog_1_method_17_code 96 = .ok (.aload 4, 2) := by decide +kernel
theorem d_D_diff_98 : decode prog_1_method_17_code 98 = .ok (.getfield 257, 3) := by decide +kernel
theorem d_D_diff_101 : decode prog_1_method_17_code 101 = .ok (.ireturn, 1) := by decide +kernel
theorem d_D_diff_102 : decode prog_1_method_17_code 102 = .ok (.aload 4, 2) := by decide +kernel
theorem d_D_diff_104 : decode prog_1_method_17_code 104 = .ok (.getfield 260, 3) := by decide +kernel
theorem d_D_diff_107 : decode prog_1_method_17_code 107 = .ok (.ireturn, 1) := by decide +kernel
theorem d_D_diff_108 : decode prog_1_method_17_code 108 = .ok (.aload 4, 2) := by decide +kernel
theorem d_D_diff_110 : decode prog_1_method_17_code 110 = .ok (.getfield 263, 3) := by decide +kernel
theorem d_D_diff_113 : decode prog_1_method_17_code 113 = .ok (.ireturn, 1) := by decide +kernel
theorem d_D_diff_114 : decode prog_1_method_17_code 114 = .ok (.aload 4, 2) := by decide +kernel
theorem d_D_diff_116 : decode prog_1_method_17_code 116 = .ok (.getfield 266, 3) := by decide +kernel
theorem d_D_diff_119 : decode prog_1_method_17_code 119 = .ok (.ireturn, 1) := by decide +kernel
def Y_D_diff : sdY := ("SettingsDesk", prog_1_method_17_code, 5, (some .int), .code y_D_diff prog_1_method_17_code 5 (some .int) :: sdB0, { frames := 7, cells := 5, slots := 32, locals := 115 }, 5, 32, [])
theorem cw_D_diff_D_requireReady_146 : sd_cwV Y_D_diff Y_D_requireReady y_D_requireReady 146 0 "SettingsDesk" := ⟨sd_goodV q344 q345 q346 q274 q342, ⟨_, rfl⟩, ⟨rfl, rfl, rfl, rfl⟩, ⟨rfl, by decide, by decide, by decide +kernel⟩, ⟨by decide, by decide⟩⟩
theorem cw_D_diff_D_requireSession_149 : sd_cwV Y_D_diff Y_D_requireSession y_D_requireSession 149 1 "SettingsDesk" := ⟨sd_goodV q347 q348 q349 q274 q343, ⟨_, rfl⟩, ⟨rfl, rfl, rfl, rfl⟩, ⟨rfl, by decide, by decide, by decide +kernel⟩, ⟨by decide, by decide⟩⟩
theorem cw_D_diff_D_requireBegun_163 : sd_cwV Y_D_diff Y_D_requireBegun y_D_requireBegun 163 1 "SettingsDesk" := ⟨sd_goodV q365 q366 q367 q274 q359, ⟨_, rfl⟩, ⟨rfl, rfl, rfl, rfl⟩, ⟨rfl, by decide, by decide, by decide +kernel⟩, ⟨by decide, by decide⟩⟩
theorem cw_D_diff_E_isThere_252 : sd_cwV Y_D_diff Y_E_isThere y_E_isThere 252 0 "SettingsDesk$Difference" := ⟨sd_goodV q442 q444 q445 q167 q443, ⟨_, rfl⟩, ⟨rfl, rfl, rfl, rfl⟩, ⟨rfl, by decide, by decide, by decide +kernel⟩, ⟨by decide, by decide⟩⟩
section
variable {l : Launch} {D : va_G} {dA : Nat → ClassId} {b n : Nat} {ad : Nat → Nat} {L : Nat → sdL} {sc : Option (Nat × Nat × (Nat → Int32))}
def k_D_diff_58 (n : Nat) (Q : Int32 → sdM → Prop) (X : String → sdM → Prop) (M : sdM) : Prop := X "java/lang/IndexOutOfBoundsException" M
set_option maxHeartbeats 1000000 in
theorem t_D_diff_58 {n : Nat} (hA : sd_ad b n ad) (hT : l.stackTraces = false) (hD : isD n L dA) (hloc : sd_loc n L) {aF : Nat → Nat} {F : sdM → Heap → Prop} (hF : ∀ (M : sdM) (H : Heap), sd_H D (sdE0 sc).1 n ad L M H → F M H) {Q : Int32 → sdM → Prop} {X : String → sdM → Prop} (M : sdM) (hw : k_D_diff_58 n Q X M ) : sdW l (sdE0 sc) Y_D_diff D (sd_tys dA) b n ad L aF F (sd_qi Q) X 58 [] [] M 1 6 := by
  unfold k_D_diff_58 at hw
  exact x_throwS (names := sdExN) (is := 255) (ic := 210) (rc := 0) (rs := 0) hT rfl fit_IOB fit_N (sd_goodB q441) (List.mem_cons_of_mem _ q298) (List.mem_cons_of_mem _ q299) (List.mem_cons_of_mem _ q300) (List.mem_of_getElem? (i := 19) rfl) oa_IOB d_D_diff_58 d_D_diff_61 (Or.inl ⟨d_D_diff_62, rfl⟩) d_D_diff_64 d_D_diff_67 (by decide) (Nat.le_of_ble_eq_true rfl) rfl rfl hF hw
def w_D_diff (n : Nat) (M : sdM) (a1 : Int32) (a2 : Int32) (a3 : Int32) (Q : Int32 → sdM → Prop) (X : String → sdM → Prop) : Prop := w_D_requireReady M (fun M9 => w_D_requireSession M9 a1 (fun M10 => w_D_requireBegun M10 a1 (fun M11 => ∀ M12 : sdM, M12 = va_up M11 n (fun _ => 0) → vp_in a1 3 ∧ w_E_init n M12 a2 (fun M14 => (a2 < 0 → k_D_diff_58 (n + 1) Q X M14) ∧ (¬ a2 < 0 → (a3 < 0 → k_D_diff_58 (n + 1) Q X M14) ∧ (¬ a3 < 0 → ((3 : Int32) < a3 → k_D_diff_58 (n + 1) Q X M14) ∧ (¬ (3 : Int32) < a3 → w_E_isThere n ((83 + 11 * a1.toNatClampNeg) + 1) 25 M14 (fun r16 M15 => (¬ r16 = 0 → (a3 = 0 → Q (M15 n 4) M15) ∧ (¬ a3 = 0 → (a3 = 1 → Q (M15 n 5) M15) ∧ (¬ a3 = 1 → (a3 = 2 → Q (M15 n 6) M15) ∧ (¬ a3 = 2 → Q (M15 n 7) M15)))) ∧ (r16 = 0 → k_D_diff_58 (n + 1) Q X M15))))))) X) X) X
set_option maxHeartbeats 1000000 in
theorem c_D_diff {a1 : Int32} {a2 : Int32} {a3 : Int32} {n : Nat} (hA : sd_ad b n ad) (hT : l.stackTraces = false) (hD : isD n L dA) (hloc : sd_loc n L) {Q : Int32 → sdM → Prop} {X : String → sdM → Prop} {M : sdM} (hw : w_D_diff n M a1 a2 a3 Q X) : sd_Cn l (sdE0 sc) y_D_diff Y_D_diff.2.2.2.2.1 Y_D_diff.2.2.2.2.2.1 5 32 D (sd_tys dA) b n ad L M [.ref 0, .int a1, .int a2, .int a3] (sd_qi Q) X := by
  refine sd_enter (Y := Y_D_diff) rfl rfl rfl rfl (Nat.le_of_ble_eq_true rfl) ?_
  show sdW l (sdE0 sc) Y_D_diff D (sd_tys dA) b n ad L ad (sd_H D (sdE0 sc).1 n ad L) (sd_qi Q) X 0 [(0, .ref 0), (1, .int a1), (2, .int a2), (3, .int a3)] [] M 5 32
  unfold w_D_diff at hw
  have hF : ∀ (M : sdM) (H : Heap), sd_H D (sdE0 sc).1 n ad L M H → sd_H D (sdE0 sc).1 n ad L M H := fun _ _ h => h
  refine x_aload_n 0 0 d_D_diff_0 rfl rfl ?_
  refine x_callVv (As := []) (t := 0) (rest := []) (rc := 4) (rs := 26) (c_D_requireReady hA hT hD hw) cw_D_diff_D_requireReady_146 hD.1 hD.2.1 rfl d_D_diff_1 rfl rfl (Nat.le_of_ble_eq_true rfl) rfl (fun _ _ h => h) hF (fun M9 hw => ?_)
  refine x_aload_n 0 0 d_D_diff_4 rfl rfl ?_
  refine x_iload_n 1 1 d_D_diff_5 rfl rfl ?_
  refine x_callVv (As := [.int a1]) (t := 0) (rest := []) (rc := 3) (rs := 20) (c_D_requireSession hA hT hD hw) cw_D_diff_D_requireSession_149 hD.1 hD.2.1 rfl d_D_diff_6 rfl rfl (Nat.le_of_ble_eq_true rfl) rfl (fun _ _ h => h) hF (fun M10 hw => ?_)
  refine x_aload_n 0 0 d_D_diff_9 rfl rfl ?_
  refine x_iload_n 1 1 d_D_diff_10 rfl rfl ?_
  refine x_callVv (As := [.int a1]) (t := 0) (rest := []) (rc := 2) (rs := 14) (c_D_requireBegun hA hT hD hw) cw_D_diff_D_requireBegun_163 hD.1 hD.2.1 rfl d_D_diff_11 rfl rfl (Nat.le_of_ble_eq_true rfl) rfl (fun _ _ h => h) hF (fun M11 hw => ?_)
  refine x_new (rc := 1) (rs := 6) [some none, some none, none, none, none, none, none, none] hA hloc (List.forall_mem_cons.mpr ⟨(sd_bel_r hD.1), List.forall_mem_cons.mpr ⟨sd_bel_i, List.forall_mem_cons.mpr ⟨sd_bel_i, List.forall_mem_cons.mpr ⟨sd_bel_i, fun _ h => absurd h List.not_mem_nil⟩⟩⟩⟩) (fun _ h => absurd h List.not_mem_nil) d_D_diff_14 (ci := 9) (N := 8) (C := "SettingsDesk$Difference") (T := T_E) rfl ty_E ty_E_ok lay_E (List.mem_cons_of_mem _ q432) (List.mem_cons_of_mem _ q433) (List.mem_cons_of_mem _ q167) (sd_nr rfl) (by decide +kernel) rfl rfl (fun ad12 L12 M12 hA12 hl12 hu12 hy12 had12 e12 => ?_)
  have hw := hw M12 e12
  clear e12
  have hv12 := hu12
  have hq12 := had12
  have hF12 := fun (M : sdM) (H : Heap) (h : sd_H D (sdE0 sc).1 (n + 1) ad12 L12 M H) => hF M H (sd_H.down hloc hv12 hq12 h)
  refine x_dup d_D_diff_17 rfl ?_
  refine x_aload_n 0 0 d_D_diff_18 rfl rfl ?_
  refine x_getr 5 41 d_D_diff_19 (hD.up hv12).1 (hD.up hv12).2.1 rfl rfl (by decide) lay_D (List.mem_cons_of_mem _ q268) rfl ?_
  refine x_iload_n 1 1 d_D_diff_22 rfl rfl ?_
  obtain ⟨hi13, hw⟩ := hw
  refine x_aald (83 + 11 * a1.toNatClampNeg) d_D_diff_23 ((hD.up hv12).sessions).1 ((hD.up hv12).sessions).2 (t0 := 6) rfl hi13 rfl ?_
  refine x_getr 1 ((83 + 11 * a1.toNatClampNeg) + 1) d_D_diff_24 ((hD.up hv12).sessionsAt hi13).1 ((hD.up hv12).sessionsAt hi13).2.1 rfl rfl (by decide) lay_N (List.mem_cons_of_mem _ q360) rfl ?_
  refine x_aload_n 0 0 d_D_diff_27 rfl rfl ?_
  refine x_getr 1 25 d_D_diff_28 (hD.up hv12).1 (hD.up hv12).2.1 rfl rfl (by decide) lay_D (List.mem_cons_of_mem _ q253) rfl ?_
  refine x_iload_n 2 2 d_D_diff_31 rfl rfl ?_
  refine x_callIv (As := [.ref ((83 + 11 * a1.toNatClampNeg) + 1), .ref 25, .int a2]) (t := n) (rest := [.ref n]) (rc := 1) (rs := 6) (L2 := (va_up L12 n (sd_O 9 [some (some ((83 + 11 * a1.toNatClampNeg) + 1)), some (some 25), none, none, none, none, none, none]))) (na := 3) (host := "SettingsDesk") (c_E_init (p1 := ((83 + 11 * a1.toNatClampNeg) + 1)) (p2 := 25) hA12 (Nat.lt_succ_self _) hy12 hw) (sd_goodB q434) ⟨_, rfl⟩ (List.mem_cons_of_mem _ q167) (List.mem_cons_of_mem _ q435) (Or.inl (List.mem_cons_of_mem _ q436)) ⟨rfl, by decide, by decide, by decide +kernel⟩ ⟨rfl, rfl, rfl, rfl⟩ ⟨by decide, by decide⟩ d_D_diff_32 rfl rfl (Nat.le_of_ble_eq_true rfl) (fun M14 hw => ?_)
  obtain ⟨L14, hL14⟩ : ∃ z, z = (va_up L12 n (sd_O 9 [some (some ((83 + 11 * a1.toNatClampNeg) + 1)), some (some 25), none, none, none, none, none, none])) := ⟨_, rfl⟩
  rw [← hL14]
  have hy14 : L14 n = sd_O 9 [some (some ((83 + 11 * a1.toNatClampNeg) + 1)), some (some 25), none, none, none, none, none, none] := by rw [hL14]; exact va_up_self _ _ _
  have hn14 : ∀ k, k ≠ n → L14 k = L12 k := fun k h => by rw [hL14]; exact va_up_ne _ _ h
  have hv14 : sd_up n L (n + 1) L14 := ⟨hv12.1, fun k hk => (hn14 k (by omega)).trans (hv12.2 k hk)⟩
  have hF14 := fun (M : sdM) (H : Heap) (h : sd_H D (sdE0 sc).1 (n + 1) ad12 L14 M H) => hF M H (sd_H.down hloc hv14 hq12 h)
  have hk14 : isE (n + 1) L14 dA n ((83 + 11 * a1.toNatClampNeg) + 1) 25 := ⟨(Nat.lt_succ_self _), hy14, ((hD.up hv14).sessionsAt hi13).candidate, (hD.up hv14).running⟩
  have hl14 : sd_loc (n + 1) L14 := by rw [hL14]; exact sd_loc_at hl12 (fun a a2 f e => by show (Sum.inr (9, sd_fv a f 0 [some (some ((83 + 11 * a1.toNatClampNeg) + 1)), some (some 25), none, none, none, none, none, none]) : va_E) = Sum.inr (9, sd_fv a2 f 0 [some (some ((83 + 11 * a1.toNatClampNeg) + 1)), some (some 25), none, none, none, none, none, none]); simp only [sd_fv, sd_fx]; rw [e _ (hk14.candidate).1, e _ (hk14.running).1])
  clear hL14
  refine x_astore 4 [(4, .ref n), (0, .ref 0), (1, .int a1), (2, .int a2), (3, .int a3)] d_D_diff_35 (by decide) rfl ?_
  refine x_iload_n 2 3 d_D_diff_37 rfl rfl ?_
  refine x_if_lt 58 d_D_diff_38 rfl (fun hc => ?_) (fun hc => ?_)
  · have hw := hw.1 hc
    refine x_sub [] [] rfl ?_
    exact t_D_diff_58 hA12 hT (hD.up hv14) hl14 hF14 M14 hw
  · have hw := hw.2 hc
    refine x_iload_n 3 4 d_D_diff_41 rfl rfl ?_
    refine x_if_lt 58 d_D_diff_42 rfl (fun hc => ?_) (fun hc => ?_)
    · have hw := hw.1 hc
      refine x_sub [] [] rfl ?_
      exact t_D_diff_58 hA12 hT (hD.up hv14) hl14 hF14 M14 hw
    · have hw := hw.2 hc
      refine x_iload_n 3 4 d_D_diff_45 rfl rfl ?_
      refine x_iconst (v := 3) d_D_diff_46 (by decide) ?_
      refine x_icmp_gt 58 d_D_diff_47 rfl (fun hc => ?_) (fun hc => ?_)
      · have hw := hw.1 hc
        refine x_sub [] [] rfl ?_
        exact t_D_diff_58 hA12 hT (hD.up hv14) hl14 hF14 M14 hw
      · have hw := hw.2 hc
        refine x_aload 4 0 d_D_diff_50 rfl ?_
        refine x_callVi (As := []) (t := n) (rest := []) (rc := 1) (rs := 6) (c_E_isThere hA12 hT hk14 hw) cw_D_diff_E_isThere_252 hk14.1 hk14.2.1 rfl d_D_diff_52 rfl rfl (Nat.le_of_ble_eq_true rfl) rfl (fun _ _ h => h.elim) hF14 (fun r16 M15 hw => ?_)
        refine x_if_ne 68 d_D_diff_55 rfl (fun hc => ?_) (fun hc => ?_)
        · have hw := hw.1 hc
          refine x_iload_n 3 4 d_D_diff_68 rfl rfl ?_
          -- switch at 69
          by_cases hx69_0 : a3 = 0
          · have hw := hw.1 hx69_0
            refine x_tin 96 d_D_diff_69 (by rw [hx69_0]; decide) (by rw [hx69_0]; decide) (by rw [hx69_0]; rfl) rfl ?_
            refine x_aload 4 0 d_D_diff_96 rfl ?_
            refine x_geti 4 d_D_diff_98 hk14.1 hk14.2.1 rfl rfl (by decide) lay_E (List.mem_cons_of_mem _ q437) rfl ?_
            exact x_iret d_D_diff_101 rfl (hF14 _) ⟨_, rfl, hw⟩
          · have hw := hw.2 hx69_0
            by_cases hx69_1 : a3 = 1
            · have hw := hw.1 hx69_1
              refine x_tin 102 d_D_diff_69 (by rw [hx69_1]; decide) (by rw [hx69_1]; decide) (by rw [hx69_1]; rfl) rfl ?_
              refine x_aload 4 0 d_D_diff_102 rfl ?_
              refine x_geti 5 d_D_diff_104 hk14.1 hk14.2.1 rfl rfl (by decide) lay_E (List.mem_cons_of_mem _ q438) rfl ?_
              exact x_iret d_D_diff_107 rfl (hF14 _) ⟨_, rfl, hw⟩
            · have hw := hw.2 hx69_1
              by_cases hx69_2 : a3 = 2
              · have hw := hw.1 hx69_2
                refine x_tin 108 d_D_diff_69 (by rw [hx69_2]; decide) (by rw [hx69_2]; decide) (by rw [hx69_2]; rfl) rfl ?_
                refine x_aload 4 0 d_D_diff_108 rfl ?_
                refine x_geti 6 d_D_diff_110 hk14.1 hk14.2.1 rfl rfl (by decide) lay_E (List.mem_cons_of_mem _ q439) rfl ?_
                exact x_iret d_D_diff_113 rfl (hF14 _) ⟨_, rfl, hw⟩
              · have hw := hw.2 hx69_2
                refine x_tout 114 d_D_diff_69 (by have g0 := lv_neT hx69_0 (show (0 : Int32).toInt = 0 from rfl); have g1 := lv_neT hx69_1 (show (1 : Int32).toInt = 1 from rfl); have g2 := lv_neT hx69_2 (show (2 : Int32).toInt = 2 from rfl); omega) rfl ?_
                refine x_aload 4 0 d_D_diff_114 rfl ?_
                refine x_geti 7 d_D_diff_116 hk14.1 hk14.2.1 rfl rfl (by decide) lay_E (List.mem_cons_of_mem _ q440) rfl ?_
                exact x_iret d_D_diff_119 rfl (hF14 _) ⟨_, rfl, hw⟩
        · have hw := hw.2 hc
          refine x_sub [] [] rfl ?_
          exact t_D_diff_58 hA12 hT (hD.up hv14) hl14 hF14 M15 hw
end
