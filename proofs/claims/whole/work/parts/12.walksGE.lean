theorem q105 : (.fieldLink "SettingsDesk$Merge" 25 "SettingsDesk$Merge" "outcome" "LSettingsDesk$Settings;" : Cond) ∈ sdB0 := sd_tb3 219 rfl rfl
theorem q106 : (.methodLink "SettingsDesk$Merge" 71 ⟨"SettingsDesk$Settings", "addEntry", "(II)I"⟩ : Cond) ∈ sdB0 := sd_tb4 26 rfl rfl
theorem q107 : (.code ⟨"SettingsDesk$Settings", "addEntry", "(II)I"⟩ prog_9_method_10_code 5 (some .int) : Cond) ∈ sdB0 := sd_tb3 149 rfl rfl
theorem q108 : (.instanceMethod ⟨"SettingsDesk$Settings", "addEntry", "(II)I"⟩ : Cond) ∈ sdB0 := sd_tb3 147 rfl rfl
theorem q109 : (.selects "SettingsDesk$Settings" ⟨"SettingsDesk$Settings", "addEntry", "(II)I"⟩ ⟨"SettingsDesk$Settings", "addEntry", "(II)I"⟩ : Cond) ∈ sdB0 := sd_tb3 148 rfl rfl
theorem q110 : (.methodLink "SettingsDesk$Merge" 74 ⟨"SettingsDesk$Settings", "copyLeaf", "(IILSettingsDesk$Settings;I)V"⟩ : Cond) ∈ sdB0 := sd_tb4 27 rfl rfl
theorem q111 : (.code ⟨"SettingsDesk$Settings", "copyLeaf", "(IILSettingsDesk$Settings;I)V"⟩ prog_9_method_13_code 5 none : Cond) ∈ sdB0 := sd_tb4 30 rfl rfl
theorem q112 : (.instanceMethod ⟨"SettingsDesk$Settings", "copyLeaf", "(IILSettingsDesk$Settings;I)V"⟩ : Cond) ∈ sdB0 := sd_tb4 28 rfl rfl
theorem q113 : (.selects "SettingsDesk$Settings" ⟨"SettingsDesk$Settings", "copyLeaf", "(IILSettingsDesk$Settings;I)V"⟩ ⟨"SettingsDesk$Settings", "copyLeaf", "(IILSettingsDesk$Settings;I)V"⟩ : Cond) ∈ sdB0 := sd_tb4 29 rfl rfl
abbrev y_G_takeEntry : MethodName := ⟨"SettingsDesk$Merge", "takeEntry", "(IILSettingsDesk$Settings;I)V"⟩
theorem d_G_takeEntry_0 : decode prog_5_method_5_code 0 = .ok (.iload 4, 2) := by decide +kernel
theorem d_G_takeEntry_2 : decode prog_5_method_5_code 2 = .ok (.iconst (-1), 1) := by decide +kernel
theorem d_G_takeEntry_3 : decode prog_5_method_5_code 3 = .ok (.if_icmp .ne (4), 3) := by decide +kernel
theorem d_G_takeEntry_6 : decode prog_5_method_5_code 6 = .ok (.return_, 1) := by decide +kernel
theorem d_G_takeEntry_7 : decode prog_5_method_5_code 7 = .ok (.aload_n 0, 1) := by decide +kernel
theorem d_G_takeEntry_8 : decode prog_5_method_5_code 8 = .ok (.getfield 25, 3) := by decide +kernel
theorem d_G_takeEntry_11 : decode prog_5_method_5_code 11 = .ok (.iload_n 1, 1) := by decide +kernel
theorem d_G_takeEntry_12 : decode prog_5_method_5_code 12 = .ok (.iload_n 2, 1) := by decide +kernel
theorem d_G_takeEntry_13 : decode prog_5_method_5_code 13 = .ok (.invokevirtual 71, 3) := by decide +kernel
theorem d_G_takeEntry_16 : decode prog_5_method_5_code 16 = .ok (.istore 5, 2) := by decide +kernel
theorem d_G_takeEntry_18 : decode prog_5_method_5_code 18 = .ok (.iconst 0, 1) := by decide +kernel
theorem d_G_takeEntry_19 : decode prog_5_method_5_code 19 = .ok (.istore 6, 2) := by decide +kernel
theorem d_G_takeEntry_21 : decode prog_5_method_5_code 21 = .ok (.iload 6, 2) := by decide +kernel
theorem d_G_takeEntry_23 : decode prog_5_method_5_code 23 = .ok (.iconst 4, 1) := by decide +kernel
theorem d_G_takeEntry_24 : decode prog_5_method_5_code 24 = .ok (.if_icmp .ge (23), 3) := by decide +kernel
theorem d_G_takeEntry_27 : decode prog_5_method_5_code 27 = .ok (.aload_n 0, 1) := by decide +kernel
theorem d_G_takeEntry_28 : decode prog_5_method_5_code 28 = .ok (.getfield 25, 3) := by decide +kernel
theorem d_G_takeEntry_31 : decode prog_5_method_5_code 31 = .ok (.iload 5, 2) := by decide +kernel
theorem d_G_takeEntry_33 : decode prog_5_method_5_code 33 = .ok (.iload 6, 2) := by decide +kernel
theorem d_G_takeEntry_35 : decode prog_5_method_5_code 35 = .ok (.aload_n 3, 1) := by decide +kernel
theorem d_G_takeEntry_36 : decode prog_5_method_5_code 36 = .ok (.iload 4, 2) := by decide +kernel
theorem d_G_takeEntry_38 : decode prog_5_method_5_code 38 = .ok (.invokevirtual 74, 3) := by decide +kernel
theorem d_G_takeEntry_41 : decode prog_5_method_5_code 41 = .ok (.iinc 6 (1), 3) := by decide +kernel
theorem d_G_takeEntry_44 : decode prog_5_method_5_code 44 = .ok (.goto (-23), 3) := by decide +kernel
theorem d_G_takeEntry_47 : decode prog_5_method_5_code 47 = .ok (.return_, 1) := by decide +kernel
def Y_G_takeEntry : sdY := ("SettingsDesk$Merge", prog_5_method_5_code, 7, none, .code y_G_takeEntry prog_5_method_5_code 7 none :: sdB0, { frames := 3, cells := 0, slots := 0, locals := 64 }, 0, 0, [])
theorem cw_G_takeEntry_S_addEntry_71 : sd_cwV Y_G_takeEntry Y_S_addEntry y_S_addEntry 71 2 "SettingsDesk$Settings" := ⟨sd_goodV q106 q108 q109 q7 q107, ⟨_, rfl⟩, ⟨rfl, rfl, rfl, rfl⟩, ⟨rfl, by decide, by decide, by decide +kernel⟩, ⟨by decide, by decide⟩⟩
theorem cw_G_takeEntry_S_copyLeaf_74 : sd_cwV Y_G_takeEntry Y_S_copyLeaf y_S_copyLeaf 74 4 "SettingsDesk$Settings" := ⟨sd_goodV q110 q112 q113 q7 q111, ⟨_, rfl⟩, ⟨rfl, rfl, rfl, rfl⟩, ⟨rfl, by decide, by decide, by decide +kernel⟩, ⟨by decide, by decide⟩⟩
section
variable {l : Launch} {D : va_G} {dA : Nat → ClassId} {b n : Nat} {ad : Nat → Nat} {L : Nat → sdL} {sc : Option (Nat × Nat × (Nat → Int32))}
def h_G_takeEntry_21 (o : Nat) (ca : Nat) (ba : Nat) (ru : Nat) (ou : Nat) (tr : Nat) (Q : sdM → Prop) : Nat → sdM → Nat → Int32 → Int32 → Int32 → Prop
  | 0, _, _, _, _, _ => False
  | N + 1, M, o3, x4, x5, x6 => ((4 : Int32) ≤ x6 → Q M) ∧ (¬ (4 : Int32) ≤ x6 → w_S_copyLeaf ou M x5 x6 o3 x4 (fun M4 => h_G_takeEntry_21 o ca ba ru ou tr Q N M4 o3 x4 x5 (x6 + 1)))
set_option maxHeartbeats 1000000 in
theorem t_G_takeEntry_21 {o : Nat} {ca : Nat} {ba : Nat} {ru : Nat} {ou : Nat} {tr : Nat} (hA : sd_ad b n ad) (hT : l.stackTraces = false) (ho : isG n L dA o ca ba ru ou tr) {Q : sdM → Prop} (N : Nat) : ∀ (M : sdM) (o3 : Nat) (x4 : Int32) (x5 : Int32) (x6 : Int32) (ho3 : isS n L dA o3), h_G_takeEntry_21 o ca ba ru ou tr Q N M o3 x4 x5 x6 → sdW l (sdE0 sc) Y_G_takeEntry D (sd_tys dA) b n ad L ad (sd_H D (sdE0 sc).1 n ad L) (sd_qv Q) sd_xf 21 [(0, .ref o), (3, .ref o3), (4, .int x4), (5, .int x5), (6, .int x6)] [] M 0 0 := by
  induction N with
  | zero => intro M o3 x4 x5 x6 ho3 hw; exact hw.elim
  | succ N ih =>
    intro M o3 x4 x5 x6 ho3 hw
    rw [h_G_takeEntry_21] at hw
    refine x_iload 6 4 d_G_takeEntry_21 rfl ?_
    refine x_iconst (v := 4) d_G_takeEntry_23 (by decide) ?_
    refine x_icmp_ge 47 d_G_takeEntry_24 rfl (fun hc => ?_) (fun hc => ?_)
    · have hw := hw.1 hc
      exact x_vret d_G_takeEntry_47 rfl (fun _ h => h) ⟨rfl, hw⟩
    · have hw := hw.2 hc
      refine x_aload_n 0 0 d_G_takeEntry_27 rfl rfl ?_
      refine x_getr 3 ou d_G_takeEntry_28 ho.1 ho.2.1 rfl rfl (by decide) lay_G (List.mem_cons_of_mem _ q105) rfl ?_
      refine x_iload 5 3 d_G_takeEntry_31 rfl ?_
      refine x_iload 6 4 d_G_takeEntry_33 rfl ?_
      refine x_aload_n 3 1 d_G_takeEntry_35 rfl rfl ?_
      refine x_iload 4 2 d_G_takeEntry_36 rfl ?_
      refine x_callVv (As := [.int x5, .int x6, .ref o3, .int x4]) (t := ou) (rest := []) (rc := 0) (rs := 0) (c_S_copyLeaf hA hT ho.outcome ho3 hw) cw_G_takeEntry_S_copyLeaf_74 ho.outcome.1 ho.outcome.2.1 rfl d_G_takeEntry_38 rfl rfl (Nat.le_of_ble_eq_true rfl) rfl (fun _ _ h => h.elim) (fun _ _ h => h) (fun M4 hw => ?_)
      refine x_iinc 6 4 [(6, .int (x6 + 1)), (0, .ref o), (3, .ref o3), (4, .int x4), (5, .int x5)] d_G_takeEntry_41 rfl (congrArg (HAdd.hAdd x6) (show Int32.ofInt 1 = 1 by decide)) (by decide) rfl ?_
      refine x_goto 21 d_G_takeEntry_44 rfl ?_
      refine x_sub [1, 2, 3, 4, 0] [(0, .ref o), (3, .ref o3), (4, .int x4), (5, .int x5), (6, .int (x6 + 1))] rfl ?_
      exact ih M4 o3 x4 x5 (x6 + 1) ho3 hw
def w_G_takeEntry (o : Nat) (ca : Nat) (ba : Nat) (ru : Nat) (ou : Nat) (tr : Nat) (M : sdM) (a1 : Int32) (a2 : Int32) (p3 : Nat) (a4 : Int32) (Q : sdM → Prop) : Prop := (¬ a4 = (-1 : Int32) → w_S_addEntry ou M a1 a2 (fun r6 M5 => ∃ N9 : Nat, h_G_takeEntry_21 o ca ba ru ou tr Q N9 M5 p3 a4 r6 (0 : Int32))) ∧ (a4 = (-1 : Int32) → Q M)
set_option maxHeartbeats 1000000 in
theorem c_G_takeEntry {a1 : Int32} {a2 : Int32} {p3 : Nat} {a4 : Int32} {o : Nat} {ca : Nat} {ba : Nat} {ru : Nat} {ou : Nat} {tr : Nat} (hA : sd_ad b n ad) (hT : l.stackTraces = false) (ho : isG n L dA o ca ba ru ou tr) (hp3 : isS n L dA p3) {Q : sdM → Prop} {M : sdM} (hw : w_G_takeEntry o ca ba ru ou tr M a1 a2 p3 a4 Q) : sd_Cn l (sdE0 sc) y_G_takeEntry Y_G_takeEntry.2.2.2.2.1 Y_G_takeEntry.2.2.2.2.2.1 0 0 D (sd_tys dA) b n ad L M [.ref o, .int a1, .int a2, .ref p3, .int a4] (sd_qv Q) sd_xf := by
  refine sd_enter (Y := Y_G_takeEntry) rfl rfl rfl rfl (Nat.le_of_ble_eq_true rfl) ?_
  show sdW l (sdE0 sc) Y_G_takeEntry D (sd_tys dA) b n ad L ad (sd_H D (sdE0 sc).1 n ad L) (sd_qv Q) sd_xf 0 [(0, .ref o), (1, .int a1), (2, .int a2), (3, .ref p3), (4, .int a4)] [] M 0 0
  unfold w_G_takeEntry at hw
  refine x_iload 4 4 d_G_takeEntry_0 rfl ?_
  refine x_iconst (v := (-1)) d_G_takeEntry_2 (by decide) ?_
  refine x_icmp_ne 7 d_G_takeEntry_3 rfl (fun hc => ?_) (fun hc => ?_)
  · have hw := hw.1 hc
    refine x_aload_n 0 0 d_G_takeEntry_7 rfl rfl ?_
    refine x_getr 3 ou d_G_takeEntry_8 ho.1 ho.2.1 rfl rfl (by decide) lay_G (List.mem_cons_of_mem _ q105) rfl ?_
    refine x_iload_n 1 1 d_G_takeEntry_11 rfl rfl ?_
    refine x_iload_n 2 2 d_G_takeEntry_12 rfl rfl ?_
    refine x_callVi (As := [.int a1, .int a2]) (t := ou) (rest := []) (rc := 0) (rs := 0) (c_S_addEntry hA hT ho.outcome hw) cw_G_takeEntry_S_addEntry_71 ho.outcome.1 ho.outcome.2.1 rfl d_G_takeEntry_13 rfl rfl (Nat.le_of_ble_eq_true rfl) rfl (fun _ _ h => h.elim) (fun _ _ h => h) (fun r6 M5 hw => ?_)
    refine x_istore 5 [(5, .int r6), (0, .ref o), (1, .int a1), (2, .int a2), (3, .ref p3), (4, .int a4)] d_G_takeEntry_16 (by decide) rfl ?_
    refine x_iconst (v := 0) d_G_takeEntry_18 (by decide) ?_
    refine x_istore 6 [(6, .int (0 : Int32)), (5, .int r6), (0, .ref o), (1, .int a1), (2, .int a2), (3, .ref p3), (4, .int a4)] d_G_takeEntry_19 (by decide) rfl ?_
    refine x_sub [2, 5, 6, 1, 0] [(0, .ref o), (3, .ref p3), (4, .int a4), (5, .int r6), (6, .int (0 : Int32))] rfl ?_
    obtain ⟨N9, hw⟩ := hw
    exact t_G_takeEntry_21 hA hT ho N9 M5 p3 a4 r6 (0 : Int32) hp3 hw
  · have hw := hw.2 hc
    exact x_vret d_G_takeEntry_6 rfl (fun _ h => h) ⟨rfl, hw⟩
end
theorem q114 : (.fieldLink "SettingsDesk$Merge" 15 "SettingsDesk$Merge" "candidate" "LSettingsDesk$Settings;" : Cond) ∈ sdB0 := sd_tb3 216 rfl rfl
theorem q115 : (.fieldLink "SettingsDesk$Merge" 21 "SettingsDesk$Merge" "base" "LSettingsDesk$Settings;" : Cond) ∈ sdB0 := sd_tb3 217 rfl rfl
theorem q116 : (.fieldLink "SettingsDesk$Merge" 22 "SettingsDesk$Merge" "running" "LSettingsDesk$Settings;" : Cond) ∈ sdB0 := sd_tb3 218 rfl rfl
theorem q117 : (.fieldLink "SettingsDesk$Merge" 28 "SettingsDesk$Merge" "trouble" "LSettingsDesk$Trouble;" : Cond) ∈ sdB0 := sd_tb3 220 rfl rfl
theorem q118 : (.methodLink "SettingsDesk$Merge" 77 ⟨"SettingsDesk$Settings", "sameLeaf", "(IILSettingsDesk$Settings;I)Z"⟩ : Cond) ∈ sdB0 := sd_tb4 37 rfl rfl
theorem q119 : (.methodLink "SettingsDesk$Merge" 61 ⟨"SettingsDesk$Trouble", "note", "(IIII)V"⟩ : Cond) ∈ sdB0 := sd_tb4 32 rfl rfl
theorem q120 : (.code ⟨"SettingsDesk$Trouble", "note", "(IIII)V"⟩ prog_10_method_2_code 5 none : Cond) ∈ sdB0 := sd_tb3 31 rfl rfl
theorem q121 : (.instanceMethod ⟨"SettingsDesk$Trouble", "note", "(IIII)V"⟩ : Cond) ∈ sdB0 := sd_tb3 29 rfl rfl
theorem q122 : (.selects "SettingsDesk$Trouble" ⟨"SettingsDesk$Trouble", "note", "(IIII)V"⟩ ⟨"SettingsDesk$Trouble", "note", "(IIII)V"⟩ : Cond) ∈ sdB0 := sd_tb3 30 rfl rfl
theorem q123 : (.initialized "SettingsDesk$Trouble" : Cond) ∈ sdB0 := sd_tb1 6 rfl rfl
abbrev y_G_mergesLeaves : MethodName := ⟨"SettingsDesk$Merge", "mergesLeaves", "(IIIII)Z"⟩
theorem d_G_mergesLeaves_0 : decode prog_5_method_6_code 0 = .ok (.aload_n 0, 1) := by decide +kernel
theorem d_G_mergesLeaves_1 : decode prog_5_method_6_code 1 = .ok (.getfield 25, 3) := by decide +kernel
theorem d_G_mergesLeaves_4 : decode prog_5_method_6_code 4 = .ok (.iload_n 1, 1) := by decide +kernel
theorem d_G_mergesLeaves_5 : decode prog_5_method_6_code 5 = .ok (.iload_n 2, 1) := by decide +kernel
theorem d_G_mergesLeaves_6 : decode prog_5_method_6_code 6 = .ok (.invokevirtual 71, 3) := by decide +kernel
theorem d_G_mergesLeaves_9 : decode prog_5_method_6_code 9 = .ok (.istore 6, 2) := by decide +kernel
theorem d_G_mergesLeaves_11 : decode prog_5_method_6_code 11 = .ok (.iconst 0, 1) := by decide +kernel
theorem d_G_mergesLeaves_12 : decode prog_5_method_6_code 12 = .ok (.istore 7, 2) := by decide +kernel
theorem d_G_mergesLeaves_14 : decode prog_5_method_6_code 14 = .ok (.iload 7, 2) := by decide +kernel
theorem d_G_mergesLeaves_16 : decode prog_5_method_6_code 16 = .ok (.iconst 4, 1) := by decide +kernel
theorem d_G_mergesLeaves_17 : decode prog_5_method_6_code 17 = .ok (.if_icmp .ge (120), 3) := by decide +kernel
theorem d_G_mergesLeaves_20 : decode prog_5_method_6_code 20 = .ok (.aload_n 0, 1) := by decide +kernel
theorem d_G_mergesLeaves_21 : decode prog_5_method_6_code 21 = .ok (.getfield 15, 3) := by decide +kernel
theorem d_G_mergesLeaves_24 : decode prog_5_method_6_code 24 = .ok (.iload_n 3, 1) := by decide +kernel
theorem d_G_mergesLeaves_25 : decode prog_5_method_6_code 25 = .ok (.iload 7, 2) := by decide +kernel
theorem d_G_mergesLeaves_27 : decode prog_5_method_6_code 27 = .ok (.aload_n 0, 1) := by decide +kernel
theorem d_G_mergesLeaves_28 : decode prog_5_method_6_code 28 = .ok (.getfield 21, 3) := by decide +kernel
theorem d_G_mergesLeaves_31 : decode prog_5_method_6_code 31 = .ok (.iload 4, 2) := by decide +kernel
theorem d_G_mergesLeaves_33 : decode prog_5_method_6_code 33 = .ok (.invokevirtual 77, 3) := by decide +kernel
theorem d_G_mergesLeaves_36 : decode prog_5_method_6_code 36 = .ok (.ifCond .eq (23), 3) := by decide +kernel
theorem d_G_mergesLeaves_39 : decode prog_5_method_6_code 39 = .ok (.aload_n 0, 1) := by decide +kernel
theorem d_G_mergesLeaves_40 : decode prog_5_method_6_code 40 = .ok (.getfield 25, 3) := by decide +kernel
theorem d_G_mergesLeaves_43 : decode prog_5_method_6_code 43 = .ok (.iload 6, 2) := by decide +kernel
theorem d_G_mergesLeaves_45 : decode prog_5_method_6_code 45 = .ok (.iload 7, 2) := by decide +kernel
theorem d_G_mergesLeaves_47 : decode prog_5_method_6_code 47 = .ok (.aload_n 0, 1) := by decide +kernel
theorem d_G_mergesLeaves_48 : decode prog_5_method_6_code 48 = .ok (.getfield 22, 3) := by decide +kernel
theorem d_G_mergesLeaves_51 : decode prog_5_method_6_code 51 = .ok (.iload 5, 2) := by decide +kernel
theorem d_G_mergesLeaves_53 : decode prog_5_method_6_code 53 = .ok (.invokevirtual 74, 3) := by decide +kernel
theorem d_G_mergesLeaves_56 : decode prog_5_method_6_code 56 = .ok (.goto (75), 3) := by decide +kernel
theorem d_G_mergesLeaves_59 : decode prog_5_method_6_code 59 = .ok (.aload_n 0, 1) := by decide +kernel
theorem d_G_mergesLeaves_60 : decode prog_5_method_6_code 60 = .ok (.getfield 22, 3) := by decide +kernel
theorem d_G_mergesLeaves_63 : decode prog_5_method_6_code 63 = .ok (.iload 5, 2) := by decide +kernel
theorem d_G_mergesLeaves_65 : decode prog_5_method_6_code 65 = .ok (.iload 7, 2) := by decide +kernel
theorem d_G_mergesLeaves_67 : decode prog_5_method_6_code 67 = .ok (.aload_n 0, 1) := by decide +kernel
theorem d_G_mergesLeaves_68 : decode prog_5_method_6_code 68 = .ok (.getfield 21, 3) := by decide +kernel
theorem d_G_mergesLeaves_71 : decode prog_5_method_6_code 71 = .ok (.iload 4, 2) := by decide +kernel
theorem d_G_mergesLeaves_73 : decode prog_5_method_6_code 73 = .ok (.invokevirtual 77, 3) := by decide +kernel
theorem d_G_mergesLeaves_76 : decode prog_5_method_6_code 76 = .ok (.ifCond .ne (22), 3) := by decide +kernel
theorem d_G_mergesLeaves_79 : decode prog_5_method_6_code 79 = .ok (.aload_n 0, 1) := by decide +kernel
theorem d_G_mergesLeaves_80 : decode prog_5_method_6_code 80 = .ok (.getfield 22, 3) := by decide +kernel
theorem d_G_mergesLeaves_83 : decode prog_5_method_6_code 83 = .ok (.iload 5, 2) := by decide +kernel
theorem d_G_mergesLeaves_85 : decode prog_5_method_6_code 85 = .ok (.iload 7, 2) := by decide +kernel
theorem d_G_mergesLeaves_87 : decode prog_5_method_6_code 87 = .ok (.aload_n 0, 1) := by decide +kernel
theorem d_G_mergesLeaves_88 : decode prog_5_method_6_code 88 = .ok (.getfield 15, 3) := by decide +kernel
theorem d_G_mergesLeaves_91 : decode prog_5_method_6_code 91 = .ok (.iload_n 3, 1) := by decide +kernel
theorem d_G_mergesLeaves_92 : decode prog_5_method_6_code 92 = .ok (.invokevirtual 77, 3) := by decide +kernel
theorem d_G_mergesLeaves_95 : decode prog_5_method_6_code 95 = .ok (.ifCond .eq (22), 3) := by decide +kernel
theorem d_G_mergesLeaves_98 : decode prog_5_method_6_code 98 = .ok (.aload_n 0, 1) := by decide +kernel
theorem d_G_mergesLeaves_99 : decode prog_5_method_6_code 99 = .ok (.getfield 25, 3) := by decide +kernel
theorem d_G_mergesLeaves_102 : decode prog_5_method_6_code 102 = .ok (.iload 6, 2) := by decide +kernel
theorem d_G_mergesLeaves_104 : decode prog_5_method_6_code 104 = .ok (.iload 7, 2) := by decide +kernel
theorem d_G_mergesLeaves_106 : decode prog_5_method_6_code 106 = .ok (.aload_n 0, 1) := by decide +kernel
theorem d_G_mergesLeaves_107 : decode prog_5_method_6_code 107 = .ok (.getfield 15, 3) := by decide +kernel
theorem d_G_mergesLeaves_110 : decode prog_5_method_6_code 110 = .ok (.iload_n 3, 1) := by decide +kernel
theorem d_G_mergesLeaves_111 : decode prog_5_method_6_code 111 = .ok (.invokevirtual 74, 3) := by decide +kernel
theorem d_G_mergesLeaves_114 : decode prog_5_method_6_code 114 = .ok (.goto (17), 3) := by decide +kernel
theorem d_G_mergesLeaves_117 : decode prog_5_method_6_code 117 = .ok (.aload_n 0, 1) := by decide +kernel
theorem d_G_mergesLeaves_118 : decode prog_5_method_6_code 118 = .ok (.getfield 28, 3) := by decide +kernel
theorem d_G_mergesLeaves_121 : decode prog_5_method_6_code 121 = .ok (.iconst 0, 1) := by decide +kernel
theorem d_G_mergesLeaves_122 : decode prog_5_method_6_code 122 = .ok (.iload_n 1, 1) := by decide +kernel
theorem d_G_mergesLeaves_123 : decode prog_5_method_6_code 123 = .ok (.iload_n 2, 1) := by decide +kernel
theorem d_G_mergesLeaves_124 : decode prog_5_method_6_code 124 = .ok (.iload 7, 2) := by decide +kernel
theorem d_G_mergesLeaves_126 : decode prog_5_method_6_code 126 = .ok (.invokevirtual 61, 3) := by decide +kernel
theorem d_G_mergesLeaves_129 : decode prog_5_method_6_code 129 = .ok (.iconst 0, 1) := by decide +kernel
theorem d_G_mergesLeaves_130 : decode prog_5_method_6_code 130 = .ok (.ireturn, 1) := by decide +kernel
theorem d_G_mergesLeaves_131 : decode prog_5_method_6_code 131 = .ok (.iinc 7 (1), 3) := by decide +kernel
theorem d_G_mergesLeaves_134 : decode prog_5_method_6_code 134 = .ok (.goto (-120), 3) := by decide +kernel
theorem d_G_mergesLeaves_137 : decode prog_5_method_6_code 137 = .ok (.iconst 1, 1) := by decide +kernel
theorem d_G_mergesLeaves_138 : decode prog_5_method_6_code 138 = .ok (.ireturn, 1) := by decide +kernel
def Y_G_mergesLeaves : sdY := ("SettingsDesk$Merge", prog_5_method_6_code, 8, (some .boolean), .code y_G_mergesLeaves prog_5_method_6_code 8 (some .boolean) :: sdB0, { frames := 3, cells := 0, slots := 0, locals := 64 }, 0, 0, [])
theorem cw_G_mergesLeaves_S_addEntry_71 : sd_cwV Y_G_mergesLeaves Y_S_addEntry y_S_addEntry 71 2 "SettingsDesk$Settings" := ⟨sd_goodV q106 q108 q109 q7 q107, ⟨_, rfl⟩, ⟨rfl, rfl, rfl, rfl⟩, ⟨rfl, by decide, by decide, by decide +kernel⟩, ⟨by decide, by decide⟩⟩
theorem cw_G_mergesLeaves_S_sameLeaf_77 : sd_cwV Y_G_mergesLeaves Y_S_sameLeaf y_S_sameLeaf 77 4 "SettingsDesk$Settings" := ⟨sd_goodV q118 q14 q15 q7 q13, ⟨_, rfl⟩, ⟨rfl, rfl, rfl, rfl⟩, ⟨rfl, by decide, by decide, by decide +kernel⟩, ⟨by decide, by decide⟩⟩
theorem cw_G_mergesLeaves_T_note_61 : sd_cwV Y_G_mergesLeaves Y_T_note y_T_note 61 4 "SettingsDesk$Trouble" := ⟨sd_goodV q119 q121 q122 q123 q120, ⟨_, rfl⟩, ⟨rfl, rfl, rfl, rfl⟩, ⟨rfl, by decide, by decide, by decide +kernel⟩, ⟨by decide, by decide⟩⟩
theorem cw_G_mergesLeaves_S_copyLeaf_74 : sd_cwV Y_G_mergesLeaves Y_S_copyLeaf y_S_copyLeaf 74 4 "SettingsDesk$Settings" := ⟨sd_goodV q110 q112 q113 q7 q111, ⟨_, rfl⟩, ⟨rfl, rfl, rfl, rfl⟩, ⟨rfl, by decide, by decide, by decide +kernel⟩, ⟨by decide, by decide⟩⟩
section
variable {l : Launch} {D : va_G} {dA : Nat → ClassId} {b n : Nat} {ad : Nat → Nat} {L : Nat → sdL} {sc : Option (Nat × Nat × (Nat → Int32))}
def k_G_mergesLeaves_131 (o : Nat) (ca : Nat) (ba : Nat) (ru : Nat) (ou : Nat) (tr : Nat) (Q : Int32 → sdM → Prop) (k14 : sdM → Int32 → Int32 → Int32 → Int32 → Int32 → Int32 → Int32 → Prop) (M : sdM) (x1 : Int32) (x2 : Int32) (x3 : Int32) (x4 : Int32) (x5 : Int32) (x6 : Int32) (x7 : Int32) : Prop := k14 M x1 x2 x3 x4 x5 x6 (x7 + 1)
set_option maxHeartbeats 1000000 in
theorem t_G_mergesLeaves_131 {o : Nat} {ca : Nat} {ba : Nat} {ru : Nat} {ou : Nat} {tr : Nat} (hA : sd_ad b n ad) (hT : l.stackTraces = false) (ho : isG n L dA o ca ba ru ou tr) {Q : Int32 → sdM → Prop} {k14 : sdM → Int32 → Int32 → Int32 → Int32 → Int32 → Int32 → Int32 → Prop} (hk14 : ∀ (M : sdM) (x1 : Int32) (x2 : Int32) (x3 : Int32) (x4 : Int32) (x5 : Int32) (x6 : Int32) (x7 : Int32), k14 M x1 x2 x3 x4 x5 x6 x7 → sdW l (sdE0 sc) Y_G_mergesLeaves D (sd_tys dA) b n ad L ad (sd_H D (sdE0 sc).1 n ad L) (sd_qi Q) sd_xf 14 [(0, .ref o), (1, .int x1), (2, .int x2), (3, .int x3), (4, .int x4), (5, .int x5), (6, .int x6), (7, .int x7)] [] M 0 0) (M : sdM) (x1 : Int32) (x2 : Int32) (x3 : Int32) (x4 : Int32) (x5 : Int32) (x6 : Int32) (x7 : Int32) (hw : k_G_mergesLeaves_131 o ca ba ru ou tr Q k14 M x1 x2 x3 x4 x5 x6 x7) : sdW l (sdE0 sc) Y_G_mergesLeaves D (sd_tys dA) b n ad L ad (sd_H D (sdE0 sc).1 n ad L) (sd_qi Q) sd_xf 131 [(0, .ref o), (1, .int x1), (2, .int x2), (3, .int x3), (4, .int x4), (5, .int x5), (6, .int x6), (7, .int x7)] [] M 0 0 := by
  unfold k_G_mergesLeaves_131 at hw
  refine x_iinc 7 7 [(7, .int (x7 + 1)), (0, .ref o), (1, .int x1), (2, .int x2), (3, .int x3), (4, .int x4), (5, .int x5), (6, .int x6)] d_G_mergesLeaves_131 rfl (congrArg (HAdd.hAdd x7) (show Int32.ofInt 1 = 1 by decide)) (by decide) rfl ?_
  refine x_goto 14 d_G_mergesLeaves_134 rfl ?_
  refine x_sub [1, 2, 3, 4, 5, 6, 7, 0] [(0, .ref o), (1, .int x1), (2, .int x2), (3, .int x3), (4, .int x4), (5, .int x5), (6, .int x6), (7, .int (x7 + 1))] rfl ?_
  exact hk14 M x1 x2 x3 x4 x5 x6 (x7 + 1) hw
def k_G_mergesLeaves_98 (o : Nat) (ca : Nat) (ba : Nat) (ru : Nat) (ou : Nat) (tr : Nat) (Q : Int32 → sdM → Prop) (k14 : sdM → Int32 → Int32 → Int32 → Int32 → Int32 → Int32 → Int32 → Prop) (M : sdM) (x1 : Int32) (x2 : Int32) (x3 : Int32) (x4 : Int32) (x5 : Int32) (x6 : Int32) (x7 : Int32) : Prop := w_S_copyLeaf ou M x6 x7 ca x3 (fun M12 => k_G_mergesLeaves_131 o ca ba ru ou tr Q k14 M12 x1 x2 x3 x4 x5 x6 x7)
set_option maxHeartbeats 1000000 in
theorem t_G_mergesLeaves_98 {o : Nat} {ca : Nat} {ba : Nat} {ru : Nat} {ou : Nat} {tr : Nat} (hA : sd_ad b n ad) (hT : l.stackTraces = false) (ho : isG n L dA o ca ba ru ou tr) {Q : Int32 → sdM → Prop} {k14 : sdM → Int32 → Int32 → Int32 → Int32 → Int32 → Int32 → Int32 → Prop} (hk14 : ∀ (M : sdM) (x1 : Int32) (x2 : Int32) (x3 : Int32) (x4 : Int32) (x5 : Int32) (x6 : Int32) (x7 : Int32), k14 M x1 x2 x3 x4 x5 x6 x7 → sdW l (sdE0 sc) Y_G_mergesLeaves D (sd_tys dA) b n ad L ad (sd_H D (sdE0 sc).1 n ad L) (sd_qi Q) sd_xf 14 [(0, .ref o), (1, .int x1), (2, .int x2), (3, .int x3), (4, .int x4), (5, .int x5), (6, .int x6), (7, .int x7)] [] M 0 0) (M : sdM) (x1 : Int32) (x2 : Int32) (x3 : Int32) (x4 : Int32) (x5 : Int32) (x6 : Int32) (x7 : Int32) (hw : k_G_mergesLeaves_98 o ca ba ru ou tr Q k14 M x1 x2 x3 x4 x5 x6 x7) : sdW l (sdE0 sc) Y_G_mergesLeaves D (sd_tys dA) b n ad L ad (sd_H D (sdE0 sc).1 n ad L) (sd_qi Q) sd_xf 98 [(0, .ref o), (1, .int x1), (2, .int x2), (3, .int x3), (4, .int x4), (5, .int x5), (6, .int x6), (7, .int x7)] [] M 0 0 := by
  unfold k_G_mergesLeaves_98 at hw
  refine x_aload_n 0 0 d_G_mergesLeaves_98 rfl rfl ?_
  refine x_getr 3 ou d_G_mergesLeaves_99 ho.1 ho.2.1 rfl rfl (by decide) lay_G (List.mem_cons_of_mem _ q105) rfl ?_
  refine x_iload 6 6 d_G_mergesLeaves_102 rfl ?_
  refine x_iload 7 7 d_G_mergesLeaves_104 rfl ?_
  refine x_aload_n 0 0 d_G_mergesLeaves_106 rfl rfl ?_
  refine x_getr 0 ca d_G_mergesLeaves_107 ho.1 ho.2.1 rfl rfl (by decide) lay_G (List.mem_cons_of_mem _ q114) rfl ?_
  refine x_iload_n 3 3 d_G_mergesLeaves_110 rfl rfl ?_
  refine x_callVv (As := [.int x6, .int x7, .ref ca, .int x3]) (t := ou) (rest := []) (rc := 0) (rs := 0) (c_S_copyLeaf hA hT ho.outcome ho.candidate hw) cw_G_mergesLeaves_S_copyLeaf_74 ho.outcome.1 ho.outcome.2.1 rfl d_G_mergesLeaves_111 rfl rfl (Nat.le_of_ble_eq_true rfl) rfl (fun _ _ h => h.elim) (fun _ _ h => h) (fun M12 hw => ?_)
  refine x_goto 131 d_G_mergesLeaves_114 rfl ?_
  exact t_G_mergesLeaves_131 hA hT ho hk14 M12 x1 x2 x3 x4 x5 x6 x7 hw
def h_G_mergesLeaves_14 (o : Nat) (ca : Nat) (ba : Nat) (ru : Nat) (ou : Nat) (tr : Nat) (Q : Int32 → sdM → Prop) : Nat → sdM → Int32 → Int32 → Int32 → Int32 → Int32 → Int32 → Int32 → Prop
  | 0, _, _, _, _, _, _, _, _ => False
  | N + 1, M, x1, x2, x3, x4, x5, x6, x7 => ((4 : Int32) ≤ x7 → sdB (1 : Int32) ∧ Q (1 : Int32) M) ∧ (¬ (4 : Int32) ≤ x7 → w_S_sameLeaf ca M x3 x7 ba x4 (fun r14 M13 => (r14 = 0 → w_S_sameLeaf ru M13 x5 x7 ba x4 (fun r16 M15 => (¬ r16 = 0 → k_G_mergesLeaves_98 o ca ba ru ou tr Q (fun M x1 x2 x3 x4 x5 x6 x7 => h_G_mergesLeaves_14 o ca ba ru ou tr Q N M x1 x2 x3 x4 x5 x6 x7) M15 x1 x2 x3 x4 x5 x6 x7) ∧ (r16 = 0 → w_S_sameLeaf ru M15 x5 x7 ca x3 (fun r18 M17 => (r18 = 0 → w_T_note tr M17 (0 : Int32) x1 x2 x7 (fun M19 => sdB (0 : Int32) ∧ Q (0 : Int32) M19)) ∧ (¬ r18 = 0 → k_G_mergesLeaves_98 o ca ba ru ou tr Q (fun M x1 x2 x3 x4 x5 x6 x7 => h_G_mergesLeaves_14 o ca ba ru ou tr Q N M x1 x2 x3 x4 x5 x6 x7) M17 x1 x2 x3 x4 x5 x6 x7))))) ∧ (¬ r14 = 0 → w_S_copyLeaf ou M13 x6 x7 ru x5 (fun M20 => k_G_mergesLeaves_131 o ca ba ru ou tr Q (fun M x1 x2 x3 x4 x5 x6 x7 => h_G_mergesLeaves_14 o ca ba ru ou tr Q N M x1 x2 x3 x4 x5 x6 x7) M20 x1 x2 x3 x4 x5 x6 x7))))
set_option maxHeartbeats 1000000 in
theorem t_G_mergesLeaves_14 {o : Nat} {ca : Nat} {ba : Nat} {ru : Nat} {ou : Nat} {tr : Nat} (hA : sd_ad b n ad) (hT : l.stackTraces = false) (ho : isG n L dA o ca ba ru ou tr) {Q : Int32 → sdM → Prop} (N : Nat) : ∀ (M : sdM) (x1 : Int32) (x2 : Int32) (x3 : Int32) (x4 : Int32) (x5 : Int32) (x6 : Int32) (x7 : Int32), h_G_mergesLeaves_14 o ca ba ru ou tr Q N M x1 x2 x3 x4 x5 x6 x7 → sdW l (sdE0 sc) Y_G_mergesLeaves D (sd_tys dA) b n ad L ad (sd_H D (sdE0 sc).1 n ad L) (sd_qi Q) sd_xf 14 [(0, .ref o), (1, .int x1), (2, .int x2), (3, .int x3), (4, .int x4), (5, .int x5), (6, .int x6), (7, .int x7)] [] M 0 0 := by
  induction N with
  | zero => intro M x1 x2 x3 x4 x5 x6 x7 hw; exact hw.elim
  | succ N ih =>
    intro M x1 x2 x3 x4 x5 x6 x7 hw
    rw [h_G_mergesLeaves_14] at hw
    refine x_iload 7 7 d_G_mergesLeaves_14 rfl ?_
    refine x_iconst (v := 4) d_G_mergesLeaves_16 (by decide) ?_
    refine x_icmp_ge 137 d_G_mergesLeaves_17 rfl (fun hc => ?_) (fun hc => ?_)
    · have hw := hw.1 hc
      refine x_iconst (v := 1) d_G_mergesLeaves_137 (by decide) ?_
      exact x_zret d_G_mergesLeaves_138 rfl (sdB_n hw.1) (fun _ h => h) ⟨_, rfl, hw.2⟩
    · have hw := hw.2 hc
      refine x_aload_n 0 0 d_G_mergesLeaves_20 rfl rfl ?_
      refine x_getr 0 ca d_G_mergesLeaves_21 ho.1 ho.2.1 rfl rfl (by decide) lay_G (List.mem_cons_of_mem _ q114) rfl ?_
      refine x_iload_n 3 3 d_G_mergesLeaves_24 rfl rfl ?_
      refine x_iload 7 7 d_G_mergesLeaves_25 rfl ?_
      refine x_aload_n 0 0 d_G_mergesLeaves_27 rfl rfl ?_
      refine x_getr 1 ba d_G_mergesLeaves_28 ho.1 ho.2.1 rfl rfl (by decide) lay_G (List.mem_cons_of_mem _ q115) rfl ?_
      refine x_iload 4 4 d_G_mergesLeaves_31 rfl ?_
      refine x_callVi (As := [.int x3, .int x7, .ref ba, .int x4]) (t := ca) (rest := []) (rc := 0) (rs := 0) (c_S_sameLeaf hA hT ho.candidate ho.base hw) cw_G_mergesLeaves_S_sameLeaf_77 ho.candidate.1 ho.candidate.2.1 rfl d_G_mergesLeaves_33 rfl rfl (Nat.le_of_ble_eq_true rfl) rfl (fun _ _ h => h.elim) (fun _ _ h => h) (fun r14 M13 hw => ?_)
      refine x_if_eq 59 d_G_mergesLeaves_36 rfl (fun hc => ?_) (fun hc => ?_)
      · have hw := hw.1 hc
        refine x_aload_n 0 0 d_G_mergesLeaves_59 rfl rfl ?_
        refine x_getr 2 ru d_G_mergesLeaves_60 ho.1 ho.2.1 rfl rfl (by decide) lay_G (List.mem_cons_of_mem _ q116) rfl ?_
        refine x_iload 5 5 d_G_mergesLeaves_63 rfl ?_
        refine x_iload 7 7 d_G_mergesLeaves_65 rfl ?_
        refine x_aload_n 0 0 d_G_mergesLeaves_67 rfl rfl ?_
        refine x_getr 1 ba d_G_mergesLeaves_68 ho.1 ho.2.1 rfl rfl (by decide) lay_G (List.mem_cons_of_mem _ q115) rfl ?_
        refine x_iload 4 4 d_G_mergesLeaves_71 rfl ?_
        refine x_callVi (As := [.int x5, .int x7, .ref ba, .int x4]) (t := ru) (rest := []) (rc := 0) (rs := 0) (c_S_sameLeaf hA hT ho.running ho.base hw) cw_G_mergesLeaves_S_sameLeaf_77 ho.running.1 ho.running.2.1 rfl d_G_mergesLeaves_73 rfl rfl (Nat.le_of_ble_eq_true rfl) rfl (fun _ _ h => h.elim) (fun _ _ h => h) (fun r16 M15 hw => ?_)
        refine x_if_ne 98 d_G_mergesLeaves_76 rfl (fun hc => ?_) (fun hc => ?_)
        · have hw := hw.1 hc
          exact t_G_mergesLeaves_98 hA hT ho (fun M x1 x2 x3 x4 x5 x6 x7  hw => ih M x1 x2 x3 x4 x5 x6 x7 hw) M15 x1 x2 x3 x4 x5 x6 x7 hw
        · have hw := hw.2 hc
          refine x_aload_n 0 0 d_G_mergesLeaves_79 rfl rfl ?_
          refine x_getr 2 ru d_G_mergesLeaves_80 ho.1 ho.2.1 rfl rfl (by decide) lay_G (List.mem_cons_of_mem _ q116) rfl ?_
          refine x_iload 5 5 d_G_mergesLeaves_83 rfl ?_
          refine x_iload 7 7 d_G_mergesLeaves_85 rfl ?_
          refine x_aload_n 0 0 d_G_mergesLeaves_87 rfl rfl ?_
          refine x_getr 0 ca d_G_mergesLeaves_88 ho.1 ho.2.1 rfl rfl (by decide) lay_G (List.mem_cons_of_mem _ q114) rfl ?_
          refine x_iload_n 3 3 d_G_mergesLeaves_91 rfl rfl ?_
          refine x_callVi (As := [.int x5, .int x7, .ref ca, .int x3]) (t := ru) (rest := []) (rc := 0) (rs := 0) (c_S_sameLeaf hA hT ho.running ho.candidate hw) cw_G_mergesLeaves_S_sameLeaf_77 ho.running.1 ho.running.2.1 rfl d_G_mergesLeaves_92 rfl rfl (Nat.le_of_ble_eq_true rfl) rfl (fun _ _ h => h.elim) (fun _ _ h => h) (fun r18 M17 hw => ?_)
          refine x_if_eq 117 d_G_mergesLeaves_95 rfl (fun hc => ?_) (fun hc => ?_)
          · have hw := hw.1 hc
            refine x_aload_n 0 0 d_G_mergesLeaves_117 rfl rfl ?_
            refine x_getr 4 tr d_G_mergesLeaves_118 ho.1 ho.2.1 rfl rfl (by decide) lay_G (List.mem_cons_of_mem _ q117) rfl ?_
            refine x_iconst (v := 0) d_G_mergesLeaves_121 (by decide) ?_
            refine x_iload_n 1 1 d_G_mergesLeaves_122 rfl rfl ?_
            refine x_iload_n 2 2 d_G_mergesLeaves_123 rfl rfl ?_
            refine x_iload 7 7 d_G_mergesLeaves_124 rfl ?_
            refine x_callVv (As := [.int (0 : Int32), .int x1, .int x2, .int x7]) (t := tr) (rest := []) (rc := 0) (rs := 0) (c_T_note hA hT ho.trouble hw) cw_G_mergesLeaves_T_note_61 ho.trouble.1 ho.trouble.2 rfl d_G_mergesLeaves_126 rfl rfl (Nat.le_of_ble_eq_true rfl) rfl (fun _ _ h => h.elim) (fun _ _ h => h) (fun M19 hw => ?_)
            refine x_iconst (v := 0) d_G_mergesLeaves_129 (by decide) ?_
            exact x_zret d_G_mergesLeaves_130 rfl (sdB_n hw.1) (fun _ h => h) ⟨_, rfl, hw.2⟩
          · have hw := hw.2 hc
            exact t_G_mergesLeaves_98 hA hT ho (fun M x1 x2 x3 x4 x5 x6 x7  hw => ih M x1 x2 x3 x4 x5 x6 x7 hw) M17 x1 x2 x3 x4 x5 x6 x7 hw
      · have hw := hw.2 hc
        refine x_aload_n 0 0 d_G_mergesLeaves_39 rfl rfl ?_
        refine x_getr 3 ou d_G_mergesLeaves_40 ho.1 ho.2.1 rfl rfl (by decide) lay_G (List.mem_cons_of_mem _ q105) rfl ?_
        refine x_iload 6 6 d_G_mergesLeaves_43 rfl ?_
        refine x_iload 7 7 d_G_mergesLeaves_45 rfl ?_
        refine x_aload_n 0 0 d_G_mergesLeaves_47 rfl rfl ?_
        refine x_getr 2 ru d_G_mergesLeaves_48 ho.1 ho.2.1 rfl rfl (by decide) lay_G (List.mem_cons_of_mem _ q116) rfl ?_
        refine x_iload 5 5 d_G_mergesLeaves_51 rfl ?_
        refine x_callVv (As := [.int x6, .int x7, .ref ru, .int x5]) (t := ou) (rest := []) (rc := 0) (rs := 0) (c_S_copyLeaf hA hT ho.outcome ho.running hw) cw_G_mergesLeaves_S_copyLeaf_74 ho.outcome.1 ho.outcome.2.1 rfl d_G_mergesLeaves_53 rfl rfl (Nat.le_of_ble_eq_true rfl) rfl (fun _ _ h => h.elim) (fun _ _ h => h) (fun M20 hw => ?_)
        refine x_goto 131 d_G_mergesLeaves_56 rfl ?_
        exact t_G_mergesLeaves_131 hA hT ho (fun M x1 x2 x3 x4 x5 x6 x7  hw => ih M x1 x2 x3 x4 x5 x6 x7 hw) M20 x1 x2 x3 x4 x5 x6 x7 hw
def w_G_mergesLeaves (o : Nat) (ca : Nat) (ba : Nat) (ru : Nat) (ou : Nat) (tr : Nat) (M : sdM) (a1 : Int32) (a2 : Int32) (a3 : Int32) (a4 : Int32) (a5 : Int32) (Q : Int32 → sdM → Prop) : Prop := w_S_addEntry ou M a1 a2 (fun r22 M21 => ∃ N9 : Nat, h_G_mergesLeaves_14 o ca ba ru ou tr Q N9 M21 a1 a2 a3 a4 a5 r22 (0 : Int32))
set_option maxHeartbeats 1000000 in
theorem c_G_mergesLeaves {a1 : Int32} {a2 : Int32} {a3 : Int32} {a4 : Int32} {a5 : Int32} {o : Nat} {ca : Nat} {ba : Nat} {ru : Nat} {ou : Nat} {tr : Nat} (hA : sd_ad b n ad) (hT : l.stackTraces = false) (ho : isG n L dA o ca ba ru ou tr) {Q : Int32 → sdM → Prop} {M : sdM} (hw : w_G_mergesLeaves o ca ba ru ou tr M a1 a2 a3 a4 a5 Q) : sd_Cn l (sdE0 sc) y_G_mergesLeaves Y_G_mergesLeaves.2.2.2.2.1 Y_G_mergesLeaves.2.2.2.2.2.1 0 0 D (sd_tys dA) b n ad L M [.ref o, .int a1, .int a2, .int a3, .int a4, .int a5] (sd_qi Q) sd_xf := by
  refine sd_enter (Y := Y_G_mergesLeaves) rfl rfl rfl rfl (Nat.le_of_ble_eq_true rfl) ?_
  show sdW l (sdE0 sc) Y_G_mergesLeaves D (sd_tys dA) b n ad L ad (sd_H D (sdE0 sc).1 n ad L) (sd_qi Q) sd_xf 0 [(0, .ref o), (1, .int a1), (2, .int a2), (3, .int a3), (4, .int a4), (5, .int a5)] [] M 0 0
  unfold w_G_mergesLeaves at hw
  refine x_aload_n 0 0 d_G_mergesLeaves_0 rfl rfl ?_
  refine x_getr 3 ou d_G_mergesLeaves_1 ho.1 ho.2.1 rfl rfl (by decide) lay_G (List.mem_cons_of_mem _ q105) rfl ?_
  refine x_iload_n 1 1 d_G_mergesLeaves_4 rfl rfl ?_
  refine x_iload_n 2 2 d_G_mergesLeaves_5 rfl rfl ?_
  refine x_callVi (As := [.int a1, .int a2]) (t := ou) (rest := []) (rc := 0) (rs := 0) (c_S_addEntry hA hT ho.outcome hw) cw_G_mergesLeaves_S_addEntry_71 ho.outcome.1 ho.outcome.2.1 rfl d_G_mergesLeaves_6 rfl rfl (Nat.le_of_ble_eq_true rfl) rfl (fun _ _ h => h.elim) (fun _ _ h => h) (fun r22 M21 hw => ?_)
  refine x_istore 6 [(6, .int r22), (0, .ref o), (1, .int a1), (2, .int a2), (3, .int a3), (4, .int a4), (5, .int a5)] d_G_mergesLeaves_9 (by decide) rfl ?_
  refine x_iconst (v := 0) d_G_mergesLeaves_11 (by decide) ?_
  refine x_istore 7 [(7, .int (0 : Int32)), (6, .int r22), (0, .ref o), (1, .int a1), (2, .int a2), (3, .int a3), (4, .int a4), (5, .int a5)] d_G_mergesLeaves_12 (by decide) rfl ?_
  refine x_sub [2, 3, 4, 5, 6, 7, 1, 0] [(0, .ref o), (1, .int a1), (2, .int a2), (3, .int a3), (4, .int a4), (5, .int a5), (6, .int r22), (7, .int (0 : Int32))] rfl ?_
  obtain ⟨N9, hw⟩ := hw
  exact t_G_mergesLeaves_14 hA hT ho N9 M21 a1 a2 a3 a4 a5 r22 (0 : Int32) hw
end
theorem q124 : (.methodLink "SettingsDesk$Merge" 49 ⟨"SettingsDesk$Settings", "rowOf", "(II)I"⟩ : Cond) ∈ sdB0 := sd_tb4 20 rfl rfl
theorem q125 : (.code ⟨"SettingsDesk$Settings", "rowOf", "(II)I"⟩ prog_9_method_6_code 4 (some .int) : Cond) ∈ sdB0 := sd_tb3 56 rfl rfl
theorem q126 : (.instanceMethod ⟨"SettingsDesk$Settings", "rowOf", "(II)I"⟩ : Cond) ∈ sdB0 := sd_tb3 54 rfl rfl
theorem q127 : (.selects "SettingsDesk$Settings" ⟨"SettingsDesk$Settings", "rowOf", "(II)I"⟩ ⟨"SettingsDesk$Settings", "rowOf", "(II)I"⟩ : Cond) ∈ sdB0 := sd_tb3 55 rfl rfl
theorem q128 : (.methodLink "SettingsDesk$Merge" 53 ⟨"SettingsDesk$Settings", "sameEntry", "(ILSettingsDesk$Settings;I)Z"⟩ : Cond) ∈ sdB0 := sd_tb4 21 rfl rfl
theorem q129 : (.methodLink "SettingsDesk$Merge" 67 ⟨"SettingsDesk$Merge", "mergesLeaves", "(IIIII)Z"⟩ : Cond) ∈ sdB0 := sd_tb4 33 rfl rfl
theorem q130 : (.code ⟨"SettingsDesk$Merge", "mergesLeaves", "(IIIII)Z"⟩ prog_5_method_6_code 8 (some .boolean) : Cond) ∈ sdB0 := sd_tb4 36 rfl rfl
theorem q131 : (.instanceMethod ⟨"SettingsDesk$Merge", "mergesLeaves", "(IIIII)Z"⟩ : Cond) ∈ sdB0 := sd_tb4 34 rfl rfl
theorem q132 : (.selects "SettingsDesk$Merge" ⟨"SettingsDesk$Merge", "mergesLeaves", "(IIIII)Z"⟩ ⟨"SettingsDesk$Merge", "mergesLeaves", "(IIIII)Z"⟩ : Cond) ∈ sdB0 := sd_tb4 35 rfl rfl
theorem q133 : (.initialized "SettingsDesk$Merge" : Cond) ∈ sdB0 := sd_tb1 18 rfl rfl
theorem q134 : (.methodLink "SettingsDesk$Merge" 57 ⟨"SettingsDesk$Merge", "takeEntry", "(IILSettingsDesk$Settings;I)V"⟩ : Cond) ∈ sdB0 := sd_tb4 22 rfl rfl
theorem q135 : (.code ⟨"SettingsDesk$Merge", "takeEntry", "(IILSettingsDesk$Settings;I)V"⟩ prog_5_method_5_code 7 none : Cond) ∈ sdB0 := sd_tb4 25 rfl rfl
theorem q136 : (.instanceMethod ⟨"SettingsDesk$Merge", "takeEntry", "(IILSettingsDesk$Settings;I)V"⟩ : Cond) ∈ sdB0 := sd_tb4 23 rfl rfl
theorem q137 : (.selects "SettingsDesk$Merge" ⟨"SettingsDesk$Merge", "takeEntry", "(IILSettingsDesk$Settings;I)V"⟩ ⟨"SettingsDesk$Merge", "takeEntry", "(IILSettingsDesk$Settings;I)V"⟩ : Cond) ∈ sdB0 := sd_tb4 24 rfl rfl
abbrev y_G_mergesEntry : MethodName := ⟨"SettingsDesk$Merge", "mergesEntry", "(II)Z"⟩
theorem d_G_mergesEntry_0 : decode prog_5_method_4_code 0 = .ok (.aload_n 0, 1) := by decide +kernel
theorem d_G_mergesEntry_1 : decode prog_5_method_4_code 1 = .ok (.getfield 15, 3) := by decide +kernel
theorem d_G_mergesEntry_4 : decode prog_5_method_4_code 4 = .ok (.iload_n 1, 1) := by decide +kernel
theorem d_G_mergesEntry_5 : decode prog_5_method_4_code 5 = .ok (.iload_n 2, 1) := by decide +kernel
theorem d_G_mergesEntry_6 : decode prog_5_method_4_code 6 = .ok (.invokevirtual 49, 3) := by decide +kernel
theorem d_G_mergesEntry_9 : decode prog_5_method_4_code 9 = .ok (.istore_n 3, 1) := by decide +kernel
theorem d_G_mergesEntry_10 : decode prog_5_method_4_code 10 = .ok (.aload_n 0, 1) := by decide +kernel
theorem d_G_mergesEntry_11 : decode prog_5_method_4_code 11 = .ok (.getfield 21, 3) := by decide +kernel
theorem d_G_mergesEntry_14 : decode prog_5_method_4_code 14 = .ok (.iload_n 1, 1) := by decide +kernel
theorem d_G_mergesEntry_15 : decode prog_5_method_4_code 15 = .ok (.iload_n 2, 1) := by decide +kernel
theorem d_G_mergesEntry_16 : decode prog_5_method_4_code 16 = .ok (.invokevirtual 49, 3) := by decide +kernel
theorem d_G_mergesEntry_19 : decode prog_5_method_4_code 19 = .ok (.istore 4, 2) := by decide +kernel
theorem d_G_mergesEntry_21 : decode prog_5_method_4_code 21 = .ok (.aload_n 0, 1) := by decide +kernel
theorem d_G_mergesEntry_22 : decode prog_5_method_4_code 22 = .ok (.getfield 22, 3) := by decide +kernel
theorem d_G_mergesEntry_25 : decode prog_5_method_4_code 25 = .ok (.iload_n 1, 1) := by decide +kernel
theorem d_G_mergesEntry_26 : decode prog_5_method_4_code 26 = .ok (.iload_n 2, 1) := by decide +kernel
theorem d_G_mergesEntry_27 : decode prog_5_method_4_code 27 = .ok (.invokevirtual 49, 3) := by decide +kernel
theorem d_G_mergesEntry_30 : decode prog_5_method_4_code 30 = .ok (.istore 5, 2) := by decide +kernel
theorem d_G_mergesEntry_32 : decode prog_5_method_4_code 32 = .ok (.aload_n 0, 1) := by decide +kernel
theorem d_G_mergesEntry_33 : decode prog_5_method_4_code 33 = .ok (.getfield 15, 3) := by decide +kernel
theorem d_G_mergesEntry_36 : decode prog_5_method_4_code 36 = .ok (.iload_n 3, 1) := by decide +kernel
theorem d_G_mergesEntry_37 : decode prog_5_method_4_code 37 = .ok (.aload_n 0, 1) := by decide +kernel
theorem d_G_mergesEntry_38 : decode prog_5_method_4_code 38 = .ok (.getfield 21, 3) := by decide +kernel
theorem d_G_mergesEntry_41 : decode prog_5_method_4_code 41 = .ok (.iload 4, 2) := by decide +kernel
theorem d_G_mergesEntry_43 : decode prog_5_method_4_code 43 = .ok (.invokevirtual 53, 3) := by decide +kernel
theorem d_G_mergesEntry_46 : decode prog_5_method_4_code 46 = .ok (.ifCond .eq (17), 3) := by decide +kernel
theorem d_G_mergesEntry_49 : decode prog_5_method_4_code 49 = .ok (.aload_n 0, 1) := by decide +kernel
theorem d_G_mergesEntry_50 : decode prog_5_method_4_code 50 = .ok (.iload_n 1, 1) := by decide +kernel
theorem d_G_mergesEntry_51 : decode prog_5_method_4_code 51 = .ok (.iload_n 2, 1) := by decide +kernel
theorem d_G_mergesEntry_52 : decode prog_5_method_4_code 52 = .ok (.aload_n 0, 1) := by decide +kernel
theorem d_G_mergesEntry_53 : decode prog_5_method_4_code 53 = .ok (.getfield 22, 3) := by decide +kernel
theorem d_G_mergesEntry_56 : decode prog_5_method_4_code 56 = .ok (.iload 5, 2) := by decide +kernel
theorem d_G_mergesEntry_58 : decode prog_5_method_4_code 58 = .ok (.invokevirtual 57, 3) := by decide +kernel
theorem d_G_mergesEntry_61 : decode prog_5_method_4_code 61 = .ok (.iconst 1, 1) := by decide +kernel
theorem d_G_mergesEntry_62 : decode prog_5_method_4_code 62 = .ok (.ireturn, 1) := by decide +kernel
theorem d_G_mergesEntry_63 : decode prog_5_method_4_code 63 = .ok (.aload_n 0, 1) := by decide +kernel
theorem d_G_mergesEntry_64 : decode prog_5_method_4_code 64 = .ok (.getfield 22, 3) := by decide +kernel
theorem d_G_mergesEntry_67 : decode prog_5_method_4_code 67 = .ok (.iload 5, 2) := by decide +kernel
theorem d_G_mergesEntry_69 : decode prog_5_method_4_code 69 = .ok (.aload_n 0, 1) := by decide +kernel
theorem d_G_mergesEntry_70 : decode prog_5_method_4_code 70 = .ok (.getfield 21, 3) := by decide +kernel
theorem d_G_mergesEntry_73 : decode prog_5_method_4_code 73 = .ok (.iload 4, 2) := by decide +kernel
theorem d_G_mergesEntry_75 : decode prog_5_method_4_code 75 = .ok (.invokevirtual 53, 3) := by decide +kernel
theorem d_G_mergesEntry_78 : decode prog_5_method_4_code 78 = .ok (.ifCond .eq (16), 3) := by decide +kernel
theorem d_G_mergesEntry_81 : decode prog_5_method_4_code 81 = .ok (.aload_n 0, 1) := by decide +kernel
theorem d_G_mergesEntry_82 : decode prog_5_method_4_code 82 = .ok (.iload_n 1, 1) := by decide +kernel
theorem d_G_mergesEntry_83 : decode prog_5_method_4_code 83 = .ok (.iload_n 2, 1) := by decide +kernel
theorem d_G_mergesEntry_84 : decode prog_5_method_4_code 84 = .ok (.aload_n 0, 1) := by decide +kernel
theorem d_G_mergesEntry_85 : decode prog_5_method_4_code 85 = .ok (.getfield 15, 3) := by decide +kernel
theorem d_G_mergesEntry_88 : decode prog_5_method_4_code 88 = .ok (.iload_n 3, 1) := by decide +kernel
theorem d_G_mergesEntry_89 : decode prog_5_method_4_code 89 = .ok (.invokevirtual 57, 3) := by decide +kernel
theorem d_G_mergesEntry_92 : decode prog_5_method_4_code 92 = .ok (.iconst 1, 1) := by decide +kernel
theorem d_G_mergesEntry_93 : decode prog_5_method_4_code 93 = .ok (.ireturn, 1) := by decide +kernel
theorem d_G_mergesEntry_94 : decode prog_5_method_4_code 94 = .ok (.iload_n 3, 1) := by decide +kernel
theorem d_G_mergesEntry_95 : decode prog_5_method_4_code 95 = .ok (.iconst (-1), 1) := by decide +kernel
theorem d_G_mergesEntry_96 : decode prog_5_method_4_code 96 = .ok (.if_icmp .eq (9), 3) := by decide +kernel
theorem d_G_mergesEntry_99 : decode prog_5_method_4_code 99 = .ok (.iload 5, 2) := by decide +kernel
theorem d_G_mergesEntry_101 : decode prog_5_method_4_code 101 = .ok (.iconst (-1), 1) := by decide +kernel
theorem d_G_mergesEntry_102 : decode prog_5_method_4_code 102 = .ok (.if_icmp .ne (16), 3) := by decide +kernel
theorem d_G_mergesEntry_105 : decode prog_5_method_4_code 105 = .ok (.aload_n 0, 1) := by decide +kernel
theorem d_G_mergesEntry_106 : decode prog_5_method_4_code 106 = .ok (.getfield 28, 3) := by decide +kernel
theorem d_G_mergesEntry_109 : decode prog_5_method_4_code 109 = .ok (.iconst 0, 1) := by decide +kernel
theorem d_G_mergesEntry_110 : decode prog_5_method_4_code 110 = .ok (.iload_n 1, 1) := by decide +kernel
theorem d_G_mergesEntry_111 : decode prog_5_method_4_code 111 = .ok (.iload_n 2, 1) := by decide +kernel
theorem d_G_mergesEntry_112 : decode prog_5_method_4_code 112 = .ok (.iconst (-1), 1) := by decide +kernel
theorem d_G_mergesEntry_113 : decode prog_5_method_4_code 113 = .ok (.invokevirtual 61, 3) := by decide +kernel
theorem d_G_mergesEntry_116 : decode prog_5_method_4_code 116 = .ok (.iconst 0, 1) := by decide +kernel
theorem d_G_mergesEntry_117 : decode prog_5_method_4_code 117 = .ok (.ireturn, 1) := by decide +kernel
theorem d_G_mergesEntry_118 : decode prog_5_method_4_code 118 = .ok (.aload_n 0, 1) := by decide +kernel
theorem d_G_mergesEntry_119 : decode prog_5_method_4_code 119 = .ok (.iload_n 1, 1) := by decide +kernel
theorem d_G_mergesEntry_120 : decode prog_5_method_4_code 120 = .ok (.iload_n 2, 1) := by decide +kernel
theorem d_G_mergesEntry_121 : decode prog_5_method_4_code 121 = .ok (.iload_n 3, 1) := by decide +kernel
theorem d_G_mergesEntry_122 : decode prog_5_method_4_code 122 = .ok (.iload 4, 2) := by decide +kernel
theorem d_G_mergesEntry_124 : decode prog_5_method_4_code 124 = .ok (.iload 5, 2) := by decide +kernel
theorem d_G_mergesEntry_126 : decode prog_5_method_4_code 126 = .ok (.invokevirtual 67, 3) := by decide +kernel
theorem d_G_mergesEntry_129 : decode prog_5_method_4_code 129 = .ok (.ireturn, 1) := by decide +kernel
def Y_G_mergesEntry : sdY := ("SettingsDesk$Merge", prog_5_method_4_code, 6, (some .boolean), .code y_G_mergesEntry prog_5_method_4_code 6 (some .boolean) :: sdB0, { frames := 4, cells := 0, slots := 0, locals := 91 }, 0, 0, [])
theorem cw_G_mergesEntry_S_rowOf_49 : sd_cwV Y_G_mergesEntry Y_S_rowOf y_S_rowOf 49 2 "SettingsDesk$Settings" := ⟨sd_goodV q124 q126 q127 q7 q125, ⟨_, rfl⟩, ⟨rfl, rfl, rfl, rfl⟩, ⟨rfl, by decide, by decide, by decide +kernel⟩, ⟨by decide, by decide⟩⟩
theorem cw_G_mergesEntry_S_sameEntry_53 : sd_cwV Y_G_mergesEntry Y_S_sameEntry y_S_sameEntry 53 3 "SettingsDesk$Settings" := ⟨sd_goodV q128 q27 q28 q7 q26, ⟨_, rfl⟩, ⟨rfl, rfl, rfl, rfl⟩, ⟨rfl, by decide, by decide, by decide +kernel⟩, ⟨by decide, by decide⟩⟩
theorem cw_G_mergesEntry_G_mergesLeaves_67 : sd_cwV Y_G_mergesEntry Y_G_mergesLeaves y_G_mergesLeaves 67 5 "SettingsDesk$Merge" := ⟨sd_goodV q129 q131 q132 q133 q130, ⟨_, rfl⟩, ⟨rfl, rfl, rfl, rfl⟩, ⟨rfl, by decide, by decide, by decide +kernel⟩, ⟨by decide, by decide⟩⟩
theorem cw_G_mergesEntry_G_takeEntry_57 : sd_cwV Y_G_mergesEntry Y_G_takeEntry y_G_takeEntry 57 4 "SettingsDesk$Merge" := ⟨sd_goodV q134 q136 q137 q133 q135, ⟨_, rfl⟩, ⟨rfl, rfl, rfl, rfl⟩, ⟨rfl, by decide, by decide, by decide +kernel⟩, ⟨by decide, by decide⟩⟩
theorem cw_G_mergesEntry_T_note_61 : sd_cwV Y_G_mergesEntry Y_T_note y_T_note 61 4 "SettingsDesk$Trouble" := ⟨sd_goodV q119 q121 q122 q123 q120, ⟨_, rfl⟩, ⟨rfl, rfl, rfl, rfl⟩, ⟨rfl, by decide, by decide, by decide +kernel⟩, ⟨by decide, by decide⟩⟩
section
variable {l : Launch} {D : va_G} {dA : Nat → ClassId} {b n : Nat} {ad : Nat → Nat} {L : Nat → sdL} {sc : Option (Nat × Nat × (Nat → Int32))}
def k_G_mergesEntry_105 (o : Nat) (ca : Nat) (ba : Nat) (ru : Nat) (ou : Nat) (tr : Nat) (Q : Int32 → sdM → Prop) (M : sdM) (x1 : Int32) (x2 : Int32) : Prop := w_T_note tr M (0 : Int32) x1 x2 (-1 : Int32) (fun M16 => sdB (0 : Int32) ∧ Q (0 : Int32) M16)
set_option maxHeartbeats 1000000 in
theorem t_G_mergesEntry_105 {o : Nat} {ca : Nat} {ba : Nat} {ru : Nat} {ou : Nat} {tr : Nat} (hA : sd_ad b n ad) (hT : l.stackTraces = false) (ho : isG n L dA o ca ba ru ou tr) {Q : Int32 → sdM → Prop} (M : sdM) (x1 : Int32) (x2 : Int32) (hw : k_G_mergesEntry_105 o ca ba ru ou tr Q M x1 x2) : sdW l (sdE0 sc) Y_G_mergesEntry D (sd_tys dA) b n ad L ad (sd_H D (sdE0 sc).1 n ad L) (sd_qi Q) sd_xf 105 [(0, .ref o), (1, .int x1), (2, .int x2)] [] M 0 0 := by
  unfold k_G_mergesEntry_105 at hw
  refine x_aload_n 0 0 d_G_mergesEntry_105 rfl rfl ?_
  refine x_getr 4 tr d_G_mergesEntry_106 ho.1 ho.2.1 rfl rfl (by decide) lay_G (List.mem_cons_of_mem _ q117) rfl ?_
  refine x_iconst (v := 0) d_G_mergesEntry_109 (by decide) ?_
  refine x_iload_n 1 1 d_G_mergesEntry_110 rfl rfl ?_
  refine x_iload_n 2 2 d_G_mergesEntry_111 rfl rfl ?_
  refine x_iconst (v := (-1)) d_G_mergesEntry_112 (by decide) ?_
  refine x_callVv (As := [.int (0 : Int32), .int x1, .int x2, .int (-1 : Int32)]) (t := tr) (rest := []) (rc := 0) (rs := 0) (c_T_note hA hT ho.trouble hw) cw_G_mergesEntry_T_note_61 ho.trouble.1 ho.trouble.2 rfl d_G_mergesEntry_113 rfl rfl (Nat.le_of_ble_eq_true rfl) rfl (fun _ _ h => h.elim) (fun _ _ h => h) (fun M16 hw => ?_)
  refine x_iconst (v := 0) d_G_mergesEntry_116 (by decide) ?_
  exact x_zret d_G_mergesEntry_117 rfl (sdB_n hw.1) (fun _ h => h) ⟨_, rfl, hw.2⟩
def w_G_mergesEntry (o : Nat) (ca : Nat) (ba : Nat) (ru : Nat) (ou : Nat) (tr : Nat) (M : sdM) (a1 : Int32) (a2 : Int32) (Q : Int32 → sdM → Prop) : Prop := w_S_rowOf ca M a1 a2 (fun r18 M17 => w_S_rowOf ba M17 a1 a2 (fun r20 M19 => w_S_rowOf ru M19 a1 a2 (fun r22 M21 => w_S_sameEntry ca M21 r18 ba r20 (fun r24 M23 => (r24 = 0 → w_S_sameEntry ru M23 r22 ba r20 (fun r26 M25 => (r26 = 0 → (r18 = (-1 : Int32) → k_G_mergesEntry_105 o ca ba ru ou tr Q M25 a1 a2) ∧ (¬ r18 = (-1 : Int32) → (¬ r22 = (-1 : Int32) → w_G_mergesLeaves o ca ba ru ou tr M25 a1 a2 r18 r20 r22 (fun r28 M27 => sdB r28 ∧ Q r28 M27)) ∧ (r22 = (-1 : Int32) → k_G_mergesEntry_105 o ca ba ru ou tr Q M25 a1 a2))) ∧ (¬ r26 = 0 → w_G_takeEntry o ca ba ru ou tr M25 a1 a2 ca r18 (fun M29 => sdB (1 : Int32) ∧ Q (1 : Int32) M29)))) ∧ (¬ r24 = 0 → w_G_takeEntry o ca ba ru ou tr M23 a1 a2 ru r22 (fun M30 => sdB (1 : Int32) ∧ Q (1 : Int32) M30))))))
set_option maxHeartbeats 1000000 in
theorem c_G_mergesEntry {a1 : Int32} {a2 : Int32} {o : Nat} {ca : Nat} {ba : Nat} {ru : Nat} {ou : Nat} {tr : Nat} (hA : sd_ad b n ad) (hT : l.stackTraces = false) (ho : isG n L dA o ca ba ru ou tr) {Q : Int32 → sdM → Prop} {M : sdM} (hw : w_G_mergesEntry o ca ba ru ou tr M a1 a2 Q) : sd_Cn l (sdE0 sc) y_G_mergesEntry Y_G_mergesEntry.2.2.2.2.1 Y_G_mergesEntry.2.2.2.2.2.1 0 0 D (sd_tys dA) b n ad L M [.ref o, .int a1, .int a2] (sd_qi Q) sd_xf := by
  refine sd_enter (Y := Y_G_mergesEntry) rfl rfl rfl rfl (Nat.le_of_ble_eq_true rfl) ?_
  show sdW l (sdE0 sc) Y_G_mergesEntry D (sd_tys dA) b n ad L ad (sd_H D (sdE0 sc).1 n ad L) (sd_qi Q) sd_xf 0 [(0, .ref o), (1, .int a1), (2, .int a2)] [] M 0 0
  unfold w_G_mergesEntry at hw
  refine x_aload_n 0 0 d_G_mergesEntry_0 rfl rfl ?_
  refine x_getr 0 ca d_G_mergesEntry_1 ho.1 ho.2.1 rfl rfl (by decide) lay_G (List.mem_cons_of_mem _ q114) rfl ?_
  refine x_iload_n 1 1 d_G_mergesEntry_4 rfl rfl ?_
  refine x_iload_n 2 2 d_G_mergesEntry_5 rfl rfl ?_
  refine x_callVi (As := [.int a1, .int a2]) (t := ca) (rest := []) (rc := 0) (rs := 0) (c_S_rowOf hA hT ho.candidate hw) cw_G_mergesEntry_S_rowOf_49 ho.candidate.1 ho.candidate.2.1 rfl d_G_mergesEntry_6 rfl rfl (Nat.le_of_ble_eq_true rfl) rfl (fun _ _ h => h.elim) (fun _ _ h => h) (fun r18 M17 hw => ?_)
  refine x_istore_n 3 [(3, .int r18), (0, .ref o), (1, .int a1), (2, .int a2)] d_G_mergesEntry_9 rfl (by decide) rfl ?_
  refine x_aload_n 0 1 d_G_mergesEntry_10 rfl rfl ?_
  refine x_getr 1 ba d_G_mergesEntry_11 ho.1 ho.2.1 rfl rfl (by decide) lay_G (List.mem_cons_of_mem _ q115) rfl ?_
  refine x_iload_n 1 2 d_G_mergesEntry_14 rfl rfl ?_
  refine x_iload_n 2 3 d_G_mergesEntry_15 rfl rfl ?_
  refine x_callVi (As := [.int a1, .int a2]) (t := ba) (rest := []) (rc := 0) (rs := 0) (c_S_rowOf hA hT ho.base hw) cw_G_mergesEntry_S_rowOf_49 ho.base.1 ho.base.2.1 rfl d_G_mergesEntry_16 rfl rfl (Nat.le_of_ble_eq_true rfl) rfl (fun _ _ h => h.elim) (fun _ _ h => h) (fun r20 M19 hw => ?_)
  refine x_istore 4 [(4, .int r20), (3, .int r18), (0, .ref o), (1, .int a1), (2, .int a2)] d_G_mergesEntry_19 (by decide) rfl ?_
  refine x_aload_n 0 2 d_G_mergesEntry_21 rfl rfl ?_
  refine x_getr 2 ru d_G_mergesEntry_22 ho.1 ho.2.1 rfl rfl (by decide) lay_G (List.mem_cons_of_mem _ q116) rfl ?_
  refine x_iload_n 1 3 d_G_mergesEntry_25 rfl rfl ?_
  refine x_iload_n 2 4 d_G_mergesEntry_26 rfl rfl ?_
  refine x_callVi (As := [.int a1, .int a2]) (t := ru) (rest := []) (rc := 0) (rs := 0) (c_S_rowOf hA hT ho.running hw) cw_G_mergesEntry_S_rowOf_49 ho.running.1 ho.running.2.1 rfl d_G_mergesEntry_27 rfl rfl (Nat.le_of_ble_eq_true rfl) rfl (fun _ _ h => h.elim) (fun _ _ h => h) (fun r22 M21 hw => ?_)
  refine x_istore 5 [(5, .int r22), (4, .int r20), (3, .int r18), (0, .ref o), (1, .int a1), (2, .int a2)] d_G_mergesEntry_30 (by decide) rfl ?_
  refine x_aload_n 0 3 d_G_mergesEntry_32 rfl rfl ?_
  refine x_getr 0 ca d_G_mergesEntry_33 ho.1 ho.2.1 rfl rfl (by decide) lay_G (List.mem_cons_of_mem _ q114) rfl ?_
  refine x_iload_n 3 2 d_G_mergesEntry_36 rfl rfl ?_
  refine x_aload_n 0 3 d_G_mergesEntry_37 rfl rfl ?_
  refine x_getr 1 ba d_G_mergesEntry_38 ho.1 ho.2.1 rfl rfl (by decide) lay_G (List.mem_cons_of_mem _ q115) rfl ?_
  refine x_iload 4 1 d_G_mergesEntry_41 rfl ?_
  refine x_callVi (As := [.int r18, .ref ba, .int r20]) (t := ca) (rest := []) (rc := 0) (rs := 0) (c_S_sameEntry hA hT ho.candidate ho.base hw) cw_G_mergesEntry_S_sameEntry_53 ho.candidate.1 ho.candidate.2.1 rfl d_G_mergesEntry_43 rfl rfl (Nat.le_of_ble_eq_true rfl) rfl (fun _ _ h => h.elim) (fun _ _ h => h) (fun r24 M23 hw => ?_)
  refine x_if_eq 63 d_G_mergesEntry_46 rfl (fun hc => ?_) (fun hc => ?_)
  · have hw := hw.1 hc
    refine x_aload_n 0 3 d_G_mergesEntry_63 rfl rfl ?_
    refine x_getr 2 ru d_G_mergesEntry_64 ho.1 ho.2.1 rfl rfl (by decide) lay_G (List.mem_cons_of_mem _ q116) rfl ?_
    refine x_iload 5 0 d_G_mergesEntry_67 rfl ?_
    refine x_aload_n 0 3 d_G_mergesEntry_69 rfl rfl ?_
    refine x_getr 1 ba d_G_mergesEntry_70 ho.1 ho.2.1 rfl rfl (by decide) lay_G (List.mem_cons_of_mem _ q115) rfl ?_
    refine x_iload 4 1 d_G_mergesEntry_73 rfl ?_
    refine x_callVi (As := [.int r22, .ref ba, .int r20]) (t := ru) (rest := []) (rc := 0) (rs := 0) (c_S_sameEntry hA hT ho.running ho.base hw) cw_G_mergesEntry_S_sameEntry_53 ho.running.1 ho.running.2.1 rfl d_G_mergesEntry_75 rfl rfl (Nat.le_of_ble_eq_true rfl) rfl (fun _ _ h => h.elim) (fun _ _ h => h) (fun r26 M25 hw => ?_)
    refine x_if_eq 94 d_G_mergesEntry_78 rfl (fun hc => ?_) (fun hc => ?_)
    · have hw := hw.1 hc
      refine x_iload_n 3 2 d_G_mergesEntry_94 rfl rfl ?_
      refine x_iconst (v := (-1)) d_G_mergesEntry_95 (by decide) ?_
      refine x_icmp_eq 105 d_G_mergesEntry_96 rfl (fun hc => ?_) (fun hc => ?_)
      · have hw := hw.1 hc
        refine x_sub [3, 4, 5] [(0, .ref o), (1, .int a1), (2, .int a2)] rfl ?_
        exact t_G_mergesEntry_105 hA hT ho M25 a1 a2 hw
      · have hw := hw.2 hc
        refine x_iload 5 0 d_G_mergesEntry_99 rfl ?_
        refine x_iconst (v := (-1)) d_G_mergesEntry_101 (by decide) ?_
        refine x_icmp_ne 118 d_G_mergesEntry_102 rfl (fun hc => ?_) (fun hc => ?_)
        · have hw := hw.1 hc
          refine x_aload_n 0 3 d_G_mergesEntry_118 rfl rfl ?_
          refine x_iload_n 1 4 d_G_mergesEntry_119 rfl rfl ?_
          refine x_iload_n 2 5 d_G_mergesEntry_120 rfl rfl ?_
          refine x_iload_n 3 2 d_G_mergesEntry_121 rfl rfl ?_
          refine x_iload 4 1 d_G_mergesEntry_122 rfl ?_
          refine x_iload 5 0 d_G_mergesEntry_124 rfl ?_
          refine x_callVi (As := [.int a1, .int a2, .int r18, .int r20, .int r22]) (t := o) (rest := []) (rc := 0) (rs := 0) (c_G_mergesLeaves hA hT ho hw) cw_G_mergesEntry_G_mergesLeaves_67 ho.1 ho.2.1 rfl d_G_mergesEntry_126 rfl rfl (Nat.le_of_ble_eq_true rfl) rfl (fun _ _ h => h.elim) (fun _ _ h => h) (fun r28 M27 hw => ?_)
          exact x_zret d_G_mergesEntry_129 rfl (sdB_n hw.1) (fun _ h => h) ⟨_, rfl, hw.2⟩
        · have hw := hw.2 hc
          refine x_sub [3, 4, 5] [(0, .ref o), (1, .int a1), (2, .int a2)] rfl ?_
          exact t_G_mergesEntry_105 hA hT ho M25 a1 a2 hw
    · have hw := hw.2 hc
      refine x_aload_n 0 3 d_G_mergesEntry_81 rfl rfl ?_
      refine x_iload_n 1 4 d_G_mergesEntry_82 rfl rfl ?_
      refine x_iload_n 2 5 d_G_mergesEntry_83 rfl rfl ?_
      refine x_aload_n 0 3 d_G_mergesEntry_84 rfl rfl ?_
      refine x_getr 0 ca d_G_mergesEntry_85 ho.1 ho.2.1 rfl rfl (by decide) lay_G (List.mem_cons_of_mem _ q114) rfl ?_
      refine x_iload_n 3 2 d_G_mergesEntry_88 rfl rfl ?_
      refine x_callVv (As := [.int a1, .int a2, .ref ca, .int r18]) (t := o) (rest := []) (rc := 0) (rs := 0) (c_G_takeEntry hA hT ho ho.candidate hw) cw_G_mergesEntry_G_takeEntry_57 ho.1 ho.2.1 rfl d_G_mergesEntry_89 rfl rfl (Nat.le_of_ble_eq_true rfl) rfl (fun _ _ h => h.elim) (fun _ _ h => h) (fun M29 hw => ?_)
      refine x_iconst (v := 1) d_G_mergesEntry_92 (by decide) ?_
      exact x_zret d_G_mergesEntry_93 rfl (sdB_n hw.1) (fun _ h => h) ⟨_, rfl, hw.2⟩
  · have hw := hw.2 hc
    refine x_aload_n 0 3 d_G_mergesEntry_49 rfl rfl ?_
    refine x_iload_n 1 4 d_G_mergesEntry_50 rfl rfl ?_
    refine x_iload_n 2 5 d_G_mergesEntry_51 rfl rfl ?_
    refine x_aload_n 0 3 d_G_mergesEntry_52 rfl rfl ?_
    refine x_getr 2 ru d_G_mergesEntry_53 ho.1 ho.2.1 rfl rfl (by decide) lay_G (List.mem_cons_of_mem _ q116) rfl ?_
    refine x_iload 5 0 d_G_mergesEntry_56 rfl ?_
    refine x_callVv (As := [.int a1, .int a2, .ref ru, .int r22]) (t := o) (rest := []) (rc := 0) (rs := 0) (c_G_takeEntry hA hT ho ho.running hw) cw_G_mergesEntry_G_takeEntry_57 ho.1 ho.2.1 rfl d_G_mergesEntry_58 rfl rfl (Nat.le_of_ble_eq_true rfl) rfl (fun _ _ h => h.elim) (fun _ _ h => h) (fun M30 hw => ?_)
    refine x_iconst (v := 1) d_G_mergesEntry_61 (by decide) ?_
    exact x_zret d_G_mergesEntry_62 rfl (sdB_n hw.1) (fun _ h => h) ⟨_, rfl, hw.2⟩
end
theorem q138 : (.methodLink "SettingsDesk$Merge" 41 ⟨"SettingsDesk$Settings", "keyAfterInEither", "(LSettingsDesk$Settings;II)I"⟩ : Cond) ∈ sdB0 := sd_tb4 7 rfl rfl
theorem q139 : (.code ⟨"SettingsDesk$Settings", "keyAfterInEither", "(LSettingsDesk$Settings;II)I"⟩ prog_9_method_8_code 4 (some .int) : Cond) ∈ sdB0 := sd_tb4 10 rfl rfl
theorem q140 : (.instanceMethod ⟨"SettingsDesk$Settings", "keyAfterInEither", "(LSettingsDesk$Settings;II)I"⟩ : Cond) ∈ sdB0 := sd_tb4 8 rfl rfl
theorem q141 : (.selects "SettingsDesk$Settings" ⟨"SettingsDesk$Settings", "keyAfterInEither", "(LSettingsDesk$Settings;II)I"⟩ ⟨"SettingsDesk$Settings", "keyAfterInEither", "(LSettingsDesk$Settings;II)I"⟩ : Cond) ∈ sdB0 := sd_tb4 9 rfl rfl
theorem q142 : (.methodLink "SettingsDesk$Merge" 45 ⟨"SettingsDesk$Merge", "mergesEntry", "(II)Z"⟩ : Cond) ∈ sdB0 := sd_tb4 16 rfl rfl
theorem q143 : (.code ⟨"SettingsDesk$Merge", "mergesEntry", "(II)Z"⟩ prog_5_method_4_code 6 (some .boolean) : Cond) ∈ sdB0 := sd_tb4 19 rfl rfl
theorem q144 : (.instanceMethod ⟨"SettingsDesk$Merge", "mergesEntry", "(II)Z"⟩ : Cond) ∈ sdB0 := sd_tb4 17 rfl rfl
theorem q145 : (.selects "SettingsDesk$Merge" ⟨"SettingsDesk$Merge", "mergesEntry", "(II)Z"⟩ ⟨"SettingsDesk$Merge", "mergesEntry", "(II)Z"⟩ : Cond) ∈ sdB0 := sd_tb4 18 rfl rfl
abbrev y_G_mergesList : MethodName := ⟨"SettingsDesk$Merge", "mergesList", "(I)Z"⟩
theorem d_G_mergesList_0 : decode prog_5_method_3_code 0 = .ok (.aload_n 0, 1) := by decide +kernel
theorem d_G_mergesList_1 : decode prog_5_method_3_code 1 = .ok (.getfield 15, 3) := by decide +kernel
theorem d_G_mergesList_4 : decode prog_5_method_3_code 4 = .ok (.aload_n 0, 1) := by decide +kernel
theorem d_G_mergesList_5 : decode prog_5_method_3_code 5 = .ok (.getfield 22, 3) := by decide +kernel
theorem d_G_mergesList_8 : decode prog_5_method_3_code 8 = .ok (.iload_n 1, 1) := by decide +kernel
theorem d_G_mergesList_9 : decode prog_5_method_3_code 9 = .ok (.iconst (-1), 1) := by decide +kernel
theorem d_G_mergesList_10 : decode prog_5_method_3_code 10 = .ok (.invokevirtual 41, 3) := by decide +kernel
theorem d_G_mergesList_13 : decode prog_5_method_3_code 13 = .ok (.istore_n 2, 1) := by decide +kernel
theorem d_G_mergesList_14 : decode prog_5_method_3_code 14 = .ok (.iconst 0, 1) := by decide +kernel
theorem d_G_mergesList_15 : decode prog_5_method_3_code 15 = .ok (.istore_n 3, 1) := by decide +kernel
theorem d_G_mergesList_16 : decode prog_5_method_3_code 16 = .ok (.iload_n 3, 1) := by decide +kernel
theorem d_G_mergesList_17 : decode prog_5_method_3_code 17 = .ok (.bipush (12), 2) := by decide +kernel
theorem d_G_mergesList_19 : decode prog_5_method_3_code 19 = .ok (.if_icmp .ge (40), 3) := by decide +kernel
theorem d_G_mergesList_22 : decode prog_5_method_3_code 22 = .ok (.iload_n 2, 1) := by decide +kernel
theorem d_G_mergesList_23 : decode prog_5_method_3_code 23 = .ok (.bipush (101), 2) := by decide +kernel
theorem d_G_mergesList_25 : decode prog_5_method_3_code 25 = .ok (.if_icmp .eq (34), 3) := by decide +kernel
theorem d_G_mergesList_28 : decode prog_5_method_3_code 28 = .ok (.aload_n 0, 1) := by decide +kernel
theorem d_G_mergesList_29 : decode prog_5_method_3_code 29 = .ok (.iload_n 1, 1) := by decide +kernel
theorem d_G_mergesList_30 : decode prog_5_method_3_code 30 = .ok (.iload_n 2, 1) := by decide +kernel
theorem d_G_mergesList_31 : decode prog_5_method_3_code 31 = .ok (.invokevirtual 45, 3) := by decide +kernel
theorem d_G_mergesList_34 : decode prog_5_method_3_code 34 = .ok (.ifCond .ne (5), 3) := by decide +kernel
theorem d_G_mergesList_37 : decode prog_5_method_3_code 37 = .ok (.iconst 0, 1) := by decide +kernel
theorem d_G_mergesList_38 : decode prog_5_method_3_code 38 = .ok (.ireturn, 1) := by decide +kernel
theorem d_G_mergesList_39 : decode prog_5_method_3_code 39 = .ok (.aload_n 0, 1) := by decide +kernel
theorem d_G_mergesList_40 : decode prog_5_method_3_code 40 = .ok (.getfield 15, 3) := by decide +kernel
theorem d_G_mergesList_43 : decode prog_5_method_3_code 43 = .ok (.aload_n 0, 1) := by decide +kernel
theorem d_G_mergesList_44 : decode prog_5_method_3_code 44 = .ok (.getfield 22, 3) := by decide +kernel
theorem d_G_mergesList_47 : decode prog_5_method_3_code 47 = .ok (.iload_n 1, 1) := by decide +kernel
theorem d_G_mergesList_48 : decode prog_5_method_3_code 48 = .ok (.iload_n 2, 1) := by decide +kernel
theorem d_G_mergesList_49 : decode prog_5_method_3_code 49 = .ok (.invokevirtual 41, 3) := by decide +kernel
theorem d_G_mergesList_52 : decode prog_5_method_3_code 52 = .ok (.istore_n 2, 1) := by decide +kernel
theorem d_G_mergesList_53 : decode prog_5_method_3_code 53 = .ok (.iinc 3 (1), 3) := by decide +kernel
theorem d_G_mergesList_56 : decode prog_5_method_3_code 56 = .ok (.goto (-40), 3) := by decide +kernel
theorem d_G_mergesList_59 : decode prog_5_method_3_code 59 = .ok (.iconst 1, 1) := by decide +kernel
theorem d_G_mergesList_60 : decode prog_5_method_3_code 60 = .ok (.ireturn, 1) := by decide +kernel
def Y_G_mergesList : sdY := ("SettingsDesk$Merge", prog_5_method_3_code, 4, (some .boolean), .code y_G_mergesList prog_5_method_3_code 4 (some .boolean) :: sdB0, { frames := 5, cells := 0, slots := 0, locals := 116 }, 0, 0, [])
theorem cw_G_mergesList_S_keyAfterInEither_41 : sd_cwV Y_G_mergesList Y_S_keyAfterInEither y_S_keyAfterInEither 41 3 "SettingsDesk$Settings" := ⟨sd_goodV q138 q140 q141 q7 q139, ⟨_, rfl⟩, ⟨rfl, rfl, rfl, rfl⟩, ⟨rfl, by decide, by decide, by decide +kernel⟩, ⟨by decide, by decide⟩⟩
theorem cw_G_mergesList_G_mergesEntry_45 : sd_cwV Y_G_mergesList Y_G_mergesEntry y_G_mergesEntry 45 2 "SettingsDesk$Merge" := ⟨sd_goodV q142 q144 q145 q133 q143, ⟨_, rfl⟩, ⟨rfl, rfl, rfl, rfl⟩, ⟨rfl, by decide, by decide, by decide +kernel⟩, ⟨by decide, by decide⟩⟩
section
variable {l : Launch} {D : va_G} {dA : Nat → ClassId} {b n : Nat} {ad : Nat → Nat} {L : Nat → sdL} {sc : Option (Nat × Nat × (Nat → Int32))}
def k_G_mergesList_59 (o : Nat) (ca : Nat) (ba : Nat) (ru : Nat) (ou : Nat) (tr : Nat) (Q : Int32 → sdM → Prop) (M : sdM) : Prop := sdB (1 : Int32) ∧ Q (1 : Int32) M
set_option maxHeartbeats 1000000 in
theorem t_G_mergesList_59 {o : Nat} {ca : Nat} {ba : Nat} {ru : Nat} {ou : Nat} {tr : Nat} (hA : sd_ad b n ad) (hT : l.stackTraces = false) (ho : isG n L dA o ca ba ru ou tr) {Q : Int32 → sdM → Prop} (M : sdM) (hw : k_G_mergesList_59 o ca ba ru ou tr Q M ) : sdW l (sdE0 sc) Y_G_mergesList D (sd_tys dA) b n ad L ad (sd_H D (sdE0 sc).1 n ad L) (sd_qi Q) sd_xf 59 [] [] M 0 0 := by
  unfold k_G_mergesList_59 at hw
  refine x_iconst (v := 1) d_G_mergesList_59 (by decide) ?_
  exact x_zret d_G_mergesList_60 rfl (sdB_n hw.1) (fun _ h => h) ⟨_, rfl, hw.2⟩
def h_G_mergesList_16 (o : Nat) (ca : Nat) (ba : Nat) (ru : Nat) (ou : Nat) (tr : Nat) (Q : Int32 → sdM → Prop) : Nat → sdM → Int32 → Int32 → Int32 → Prop
  | 0, _, _, _, _ => False
  | N + 1, M, x1, x2, x3 => ((12 : Int32) ≤ x3 → k_G_mergesList_59 o ca ba ru ou tr Q M) ∧ (¬ (12 : Int32) ≤ x3 → (x2 = (101 : Int32) → k_G_mergesList_59 o ca ba ru ou tr Q M) ∧ (¬ x2 = (101 : Int32) → w_G_mergesEntry o ca ba ru ou tr M x1 x2 (fun r8 M7 => (¬ r8 = 0 → w_S_keyAfterInEither ca M7 ru x1 x2 (fun r10 M9 => h_G_mergesList_16 o ca ba ru ou tr Q N M9 x1 r10 (x3 + 1))) ∧ (r8 = 0 → sdB (0 : Int32) ∧ Q (0 : Int32) M7))))
set_option maxHeartbeats 1000000 in
theorem t_G_mergesList_16 {o : Nat} {ca : Nat} {ba : Nat} {ru : Nat} {ou : Nat} {tr : Nat} (hA : sd_ad b n ad) (hT : l.stackTraces = false) (ho : isG n L dA o ca ba ru ou tr) {Q : Int32 → sdM → Prop} (N : Nat) : ∀ (M : sdM) (x1 : Int32) (x2 : Int32) (x3 : Int32), h_G_mergesList_16 o ca ba ru ou tr Q N M x1 x2 x3 → sdW l (sdE0 sc) Y_G_mergesList D (sd_tys dA) b n ad L ad (sd_H D (sdE0 sc).1 n ad L) (sd_qi Q) sd_xf 16 [(0, .ref o), (1, .int x1), (2, .int x2), (3, .int x3)] [] M 0 0 := by
  induction N with
  | zero => intro M x1 x2 x3 hw; exact hw.elim
  | succ N ih =>
    intro M x1 x2 x3 hw
    rw [h_G_mergesList_16] at hw
    refine x_iload_n 3 3 d_G_mergesList_16 rfl rfl ?_
    refine x_bipush (v := 12) d_G_mergesList_17 (by decide) ?_
    refine x_icmp_ge 59 d_G_mergesList_19 rfl (fun hc => ?_) (fun hc => ?_)
    · have hw := hw.1 hc
      refine x_sub [] [] rfl ?_
      exact t_G_mergesList_59 hA hT ho M hw
    · have hw := hw.2 hc
      refine x_iload_n 2 2 d_G_mergesList_22 rfl rfl ?_
      refine x_bipush (v := 101) d_G_mergesList_23 (by decide) ?_
      refine x_icmp_eq 59 d_G_mergesList_25 rfl (fun hc => ?_) (fun hc => ?_)
      · have hw := hw.1 hc
        refine x_sub [] [] rfl ?_
        exact t_G_mergesList_59 hA hT ho M hw
      · have hw := hw.2 hc
        refine x_aload_n 0 0 d_G_mergesList_28 rfl rfl ?_
        refine x_iload_n 1 1 d_G_mergesList_29 rfl rfl ?_
        refine x_iload_n 2 2 d_G_mergesList_30 rfl rfl ?_
        refine x_callVi (As := [.int x1, .int x2]) (t := o) (rest := []) (rc := 0) (rs := 0) (c_G_mergesEntry hA hT ho hw) cw_G_mergesList_G_mergesEntry_45 ho.1 ho.2.1 rfl d_G_mergesList_31 rfl rfl (Nat.le_of_ble_eq_true rfl) rfl (fun _ _ h => h.elim) (fun _ _ h => h) (fun r8 M7 hw => ?_)
        refine x_if_ne 39 d_G_mergesList_34 rfl (fun hc => ?_) (fun hc => ?_)
        · have hw := hw.1 hc
          refine x_aload_n 0 0 d_G_mergesList_39 rfl rfl ?_
          refine x_getr 0 ca d_G_mergesList_40 ho.1 ho.2.1 rfl rfl (by decide) lay_G (List.mem_cons_of_mem _ q114) rfl ?_
          refine x_aload_n 0 0 d_G_mergesList_43 rfl rfl ?_
          refine x_getr 2 ru d_G_mergesList_44 ho.1 ho.2.1 rfl rfl (by decide) lay_G (List.mem_cons_of_mem _ q116) rfl ?_
          refine x_iload_n 1 1 d_G_mergesList_47 rfl rfl ?_
          refine x_iload_n 2 2 d_G_mergesList_48 rfl rfl ?_
          refine x_callVi (As := [.ref ru, .int x1, .int x2]) (t := ca) (rest := []) (rc := 0) (rs := 0) (c_S_keyAfterInEither hA hT ho.candidate ho.running hw) cw_G_mergesList_S_keyAfterInEither_41 ho.candidate.1 ho.candidate.2.1 rfl d_G_mergesList_49 rfl rfl (Nat.le_of_ble_eq_true rfl) rfl (fun _ _ h => h.elim) (fun _ _ h => h) (fun r10 M9 hw => ?_)
          refine x_istore_n 2 [(2, .int r10), (0, .ref o), (1, .int x1), (3, .int x3)] d_G_mergesList_52 rfl (by decide) rfl ?_
          refine x_iinc 3 3 [(3, .int (x3 + 1)), (2, .int r10), (0, .ref o), (1, .int x1)] d_G_mergesList_53 rfl (congrArg (HAdd.hAdd x3) (show Int32.ofInt 1 = 1 by decide)) (by decide) rfl ?_
          refine x_goto 16 d_G_mergesList_56 rfl ?_
          refine x_sub [2, 3, 1, 0] [(0, .ref o), (1, .int x1), (2, .int r10), (3, .int (x3 + 1))] rfl ?_
          exact ih M9 x1 r10 (x3 + 1) hw
        · have hw := hw.2 hc
          refine x_iconst (v := 0) d_G_mergesList_37 (by decide) ?_
          exact x_zret d_G_mergesList_38 rfl (sdB_n hw.1) (fun _ h => h) ⟨_, rfl, hw.2⟩
def w_G_mergesList (o : Nat) (ca : Nat) (ba : Nat) (ru : Nat) (ou : Nat) (tr : Nat) (M : sdM) (a1 : Int32) (Q : Int32 → sdM → Prop) : Prop := w_S_keyAfterInEither ca M ru a1 (-1 : Int32) (fun r12 M11 => ∃ N9 : Nat, h_G_mergesList_16 o ca ba ru ou tr Q N9 M11 a1 r12 (0 : Int32))
set_option maxHeartbeats 1000000 in
theorem c_G_mergesList {a1 : Int32} {o : Nat} {ca : Nat} {ba : Nat} {ru : Nat} {ou : Nat} {tr : Nat} (hA : sd_ad b n ad) (hT : l.stackTraces = false) (ho : isG n L dA o ca ba ru ou tr) {Q : Int32 → sdM → Prop} {M : sdM} (hw : w_G_mergesList o ca ba ru ou tr M a1 Q) : sd_Cn l (sdE0 sc) y_G_mergesList Y_G_mergesList.2.2.2.2.1 Y_G_mergesList.2.2.2.2.2.1 0 0 D (sd_tys dA) b n ad L M [.ref o, .int a1] (sd_qi Q) sd_xf := by
  refine sd_enter (Y := Y_G_mergesList) rfl rfl rfl rfl (Nat.le_of_ble_eq_true rfl) ?_
  show sdW l (sdE0 sc) Y_G_mergesList D (sd_tys dA) b n ad L ad (sd_H D (sdE0 sc).1 n ad L) (sd_qi Q) sd_xf 0 [(0, .ref o), (1, .int a1)] [] M 0 0
  unfold w_G_mergesList at hw
  refine x_aload_n 0 0 d_G_mergesList_0 rfl rfl ?_
  refine x_getr 0 ca d_G_mergesList_1 ho.1 ho.2.1 rfl rfl (by decide) lay_G (List.mem_cons_of_mem _ q114) rfl ?_
  refine x_aload_n 0 0 d_G_mergesList_4 rfl rfl ?_
  refine x_getr 2 ru d_G_mergesList_5 ho.1 ho.2.1 rfl rfl (by decide) lay_G (List.mem_cons_of_mem _ q116) rfl ?_
  refine x_iload_n 1 1 d_G_mergesList_8 rfl rfl ?_
  refine x_iconst (v := (-1)) d_G_mergesList_9 (by decide) ?_
  refine x_callVi (As := [.ref ru, .int a1, .int (-1 : Int32)]) (t := ca) (rest := []) (rc := 0) (rs := 0) (c_S_keyAfterInEither hA hT ho.candidate ho.running hw) cw_G_mergesList_S_keyAfterInEither_41 ho.candidate.1 ho.candidate.2.1 rfl d_G_mergesList_10 rfl rfl (Nat.le_of_ble_eq_true rfl) rfl (fun _ _ h => h.elim) (fun _ _ h => h) (fun r12 M11 hw => ?_)
  refine x_istore_n 2 [(2, .int r12), (0, .ref o), (1, .int a1)] d_G_mergesList_13 rfl (by decide) rfl ?_
  refine x_iconst (v := 0) d_G_mergesList_14 (by decide) ?_
  refine x_istore_n 3 [(3, .int (0 : Int32)), (2, .int r12), (0, .ref o), (1, .int a1)] d_G_mergesList_15 rfl (by decide) rfl ?_
  refine x_sub [2, 3, 1, 0] [(0, .ref o), (1, .int a1), (2, .int r12), (3, .int (0 : Int32))] rfl ?_
  obtain ⟨N9, hw⟩ := hw
  exact t_G_mergesList_16 hA hT ho N9 M11 a1 r12 (0 : Int32) hw
end
theorem q146 : (.methodLink "SettingsDesk$Merge" 32 ⟨"SettingsDesk$Settings", "removeAll", "()V"⟩ : Cond) ∈ sdB0 := sd_tb3 236 rfl rfl
theorem q147 : (.code ⟨"SettingsDesk$Settings", "removeAll", "()V"⟩ prog_9_method_3_code 1 none : Cond) ∈ sdB0 := sd_tb3 239 rfl rfl
theorem q148 : (.instanceMethod ⟨"SettingsDesk$Settings", "removeAll", "()V"⟩ : Cond) ∈ sdB0 := sd_tb3 237 rfl rfl
theorem q149 : (.selects "SettingsDesk$Settings" ⟨"SettingsDesk$Settings", "removeAll", "()V"⟩ ⟨"SettingsDesk$Settings", "removeAll", "()V"⟩ : Cond) ∈ sdB0 := sd_tb3 238 rfl rfl
theorem q150 : (.methodLink "SettingsDesk$Merge" 37 ⟨"SettingsDesk$Merge", "mergesList", "(I)Z"⟩ : Cond) ∈ sdB0 := sd_tb4 3 rfl rfl
theorem q151 : (.code ⟨"SettingsDesk$Merge", "mergesList", "(I)Z"⟩ prog_5_method_3_code 4 (some .boolean) : Cond) ∈ sdB0 := sd_tb4 6 rfl rfl
theorem q152 : (.instanceMethod ⟨"SettingsDesk$Merge", "mergesList", "(I)Z"⟩ : Cond) ∈ sdB0 := sd_tb4 4 rfl rfl
theorem q153 : (.selects "SettingsDesk$Merge" ⟨"SettingsDesk$Merge", "mergesList", "(I)Z"⟩ ⟨"SettingsDesk$Merge", "mergesList", "(I)Z"⟩ : Cond) ∈ sdB0 := sd_tb4 5 rfl rfl
abbrev y_G_succeeds : MethodName := ⟨"SettingsDesk$Merge", "succeeds", "()Z"⟩
theorem d_G_succeeds_0 : decode prog_5_method_2_code 0 = .ok (.aload_n 0, 1) := by decide +kernel
theorem d_G_succeeds_1 : decode prog_5_method_2_code 1 = .ok (.getfield 25, 3) := by decide +kernel
theorem d_G_succeeds_4 : decode prog_5_method_2_code 4 = .ok (.invokevirtual 32, 3) := by decide +kernel
theorem d_G_succeeds_7 : decode prog_5_method_2_code 7 = .ok (.iconst 0, 1) := by decide +kernel
theorem d_G_succeeds_8 : decode prog_5_method_2_code 8 = .ok (.istore_n 1, 1) := by decide +kernel
theorem d_G_succeeds_9 : decode prog_5_method_2_code 9 = .ok (.iload_n 1, 1) := by decide +kernel
theorem d_G_succeeds_10 : decode prog_5_method_2_code 10 = .ok (.iconst 4, 1) := by decide +kernel
theorem d_G_succeeds_11 : decode prog_5_method_2_code 11 = .ok (.if_icmp .ge (19), 3) := by decide +kernel
theorem d_G_succeeds_14 : decode prog_5_method_2_code 14 = .ok (.aload_n 0, 1) := by decide +kernel
theorem d_G_succeeds_15 : decode prog_5_method_2_code 15 = .ok (.iload_n 1, 1) := by decide +kernel
theorem d_G_succeeds_16 : decode prog_5_method_2_code 16 = .ok (.invokevirtual 37, 3) := by decide +kernel
theorem d_G_succeeds_19 : decode prog_5_method_2_code 19 = .ok (.ifCond .ne (5), 3) := by decide +kernel
theorem d_G_succeeds_22 : decode prog_5_method_2_code 22 = .ok (.iconst 0, 1) := by decide +kernel
theorem d_G_succeeds_23 : decode prog_5_method_2_code 23 = .ok (.ireturn, 1) := by decide +kernel
theorem d_G_succeeds_24 : decode prog_5_method_2_code 24 = .ok (.iinc 1 (1), 3) := by decide +kernel
theorem d_G_succeeds_27 : decode prog_5_method_2_code 27 = .ok (.goto (-18), 3) := by decide +kernel
theorem d_G_succeeds_30 : decode prog_5_method_2_code 30 = .ok (.iconst 1, 1) := by decide +kernel
theorem d_G_succeeds_31 : decode prog_5_method_2_code 31 = .ok (.ireturn, 1) := by decide +kernel
def Y_G_succeeds : sdY := ("SettingsDesk$Merge", prog_5_method_2_code, 2, (some .boolean), .code y_G_succeeds prog_5_method_2_code 2 (some .boolean) :: sdB0, { frames := 6, cells := 0, slots := 0, locals := 139 }, 0, 0, [])
theorem cw_G_succeeds_S_removeAll_32 : sd_cwV Y_G_succeeds Y_S_removeAll y_S_removeAll 32 0 "SettingsDesk$Settings" := ⟨sd_goodV q146 q148 q149 q7 q147, ⟨_, rfl⟩, ⟨rfl, rfl, rfl, rfl⟩, ⟨rfl, by decide, by decide, by decide +kernel⟩, ⟨by decide, by decide⟩⟩
theorem cw_G_succeeds_G_mergesList_37 : sd_cwV Y_G_succeeds Y_G_mergesList y_G_mergesList 37 1 "SettingsDesk$Merge" := ⟨sd_goodV q150 q152 q153 q133 q151, ⟨_, rfl⟩, ⟨rfl, rfl, rfl, rfl⟩, ⟨rfl, by decide, by decide, by decide +kernel⟩, ⟨by decide, by decide⟩⟩
section
variable {l : Launch} {D : va_G} {dA : Nat → ClassId} {b n : Nat} {ad : Nat → Nat} {L : Nat → sdL} {sc : Option (Nat × Nat × (Nat → Int32))}
def h_G_succeeds_9 (o : Nat) (ca : Nat) (ba : Nat) (ru : Nat) (ou : Nat) (tr : Nat) (Q : Int32 → sdM → Prop) : Nat → sdM → Int32 → Prop
  | 0, _, _ => False
  | N + 1, M, x1 => ((4 : Int32) ≤ x1 → sdB (1 : Int32) ∧ Q (1 : Int32) M) ∧ (¬ (4 : Int32) ≤ x1 → w_G_mergesList o ca ba ru ou tr M x1 (fun r5 M4 => (¬ r5 = 0 → h_G_succeeds_9 o ca ba ru ou tr Q N M4 (x1 + 1)) ∧ (r5 = 0 → sdB (0 : Int32) ∧ Q (0 : Int32) M4)))
set_option maxHeartbeats 1000000 in
theorem t_G_succeeds_9 {o : Nat} {ca : Nat} {ba : Nat} {ru : Nat} {ou : Nat} {tr : Nat} (hA : sd_ad b n ad) (hT : l.stackTraces = false) (ho : isG n L dA o ca ba ru ou tr) {Q : Int32 → sdM → Prop} (N : Nat) : ∀ (M : sdM) (x1 : Int32), h_G_succeeds_9 o ca ba ru ou tr Q N M x1 → sdW l (sdE0 sc) Y_G_succeeds D (sd_tys dA) b n ad L ad (sd_H D (sdE0 sc).1 n ad L) (sd_qi Q) sd_xf 9 [(0, .ref o), (1, .int x1)] [] M 0 0 := by
  induction N with
  | zero => intro M x1 hw; exact hw.elim
  | succ N ih =>
    intro M x1 hw
    rw [h_G_succeeds_9] at hw
    refine x_iload_n 1 1 d_G_succeeds_9 rfl rfl ?_
    refine x_iconst (v := 4) d_G_succeeds_10 (by decide) ?_
    refine x_icmp_ge 30 d_G_succeeds_11 rfl (fun hc => ?_) (fun hc => ?_)
    · have hw := hw.1 hc
      refine x_iconst (v := 1) d_G_succeeds_30 (by decide) ?_
      exact x_zret d_G_succeeds_31 rfl (sdB_n hw.1) (fun _ h => h) ⟨_, rfl, hw.2⟩
    · have hw := hw.2 hc
      refine x_aload_n 0 0 d_G_succeeds_14 rfl rfl ?_
      refine x_iload_n 1 1 d_G_succeeds_15 rfl rfl ?_
      refine x_callVi (As := [.int x1]) (t := o) (rest := []) (rc := 0) (rs := 0) (c_G_mergesList hA hT ho hw) cw_G_succeeds_G_mergesList_37 ho.1 ho.2.1 rfl d_G_succeeds_16 rfl rfl (Nat.le_of_ble_eq_true rfl) rfl (fun _ _ h => h.elim) (fun _ _ h => h) (fun r5 M4 hw => ?_)
      refine x_if_ne 24 d_G_succeeds_19 rfl (fun hc => ?_) (fun hc => ?_)
      · have hw := hw.1 hc
        refine x_iinc 1 1 [(1, .int (x1 + 1)), (0, .ref o)] d_G_succeeds_24 rfl (congrArg (HAdd.hAdd x1) (show Int32.ofInt 1 = 1 by decide)) (by decide) rfl ?_
        refine x_goto 9 d_G_succeeds_27 rfl ?_
        refine x_sub [1, 0] [(0, .ref o), (1, .int (x1 + 1))] rfl ?_
        exact ih M4 (x1 + 1) hw
      · have hw := hw.2 hc
        refine x_iconst (v := 0) d_G_succeeds_22 (by decide) ?_
        exact x_zret d_G_succeeds_23 rfl (sdB_n hw.1) (fun _ h => h) ⟨_, rfl, hw.2⟩
def w_G_succeeds (o : Nat) (ca : Nat) (ba : Nat) (ru : Nat) (ou : Nat) (tr : Nat) (M : sdM) (Q : Int32 → sdM → Prop) : Prop := w_S_removeAll ou M (fun M6 => ∃ N9 : Nat, h_G_succeeds_9 o ca ba ru ou tr Q N9 M6 (0 : Int32))
set_option maxHeartbeats 1000000 in
theorem c_G_succeeds {o : Nat} {ca : Nat} {ba : Nat} {ru : Nat} {ou : Nat} {tr : Nat} (hA : sd_ad b n ad) (hT : l.stackTraces = false) (ho : isG n L dA o ca ba ru ou tr) {Q : Int32 → sdM → Prop} {M : sdM} (hw : w_G_succeeds o ca ba ru ou tr M Q) : sd_Cn l (sdE0 sc) y_G_succeeds Y_G_succeeds.2.2.2.2.1 Y_G_succeeds.2.2.2.2.2.1 0 0 D (sd_tys dA) b n ad L M [.ref o] (sd_qi Q) sd_xf := by
  refine sd_enter (Y := Y_G_succeeds) rfl rfl rfl rfl (Nat.le_of_ble_eq_true rfl) ?_
  show sdW l (sdE0 sc) Y_G_succeeds D (sd_tys dA) b n ad L ad (sd_H D (sdE0 sc).1 n ad L) (sd_qi Q) sd_xf 0 [(0, .ref o)] [] M 0 0
  unfold w_G_succeeds at hw
  refine x_aload_n 0 0 d_G_succeeds_0 rfl rfl ?_
  refine x_getr 3 ou d_G_succeeds_1 ho.1 ho.2.1 rfl rfl (by decide) lay_G (List.mem_cons_of_mem _ q105) rfl ?_
  refine x_callVv (As := []) (t := ou) (rest := []) (rc := 0) (rs := 0) (c_S_removeAll hA hT ho.outcome hw) cw_G_succeeds_S_removeAll_32 ho.outcome.1 ho.outcome.2.1 rfl d_G_succeeds_4 rfl rfl (Nat.le_of_ble_eq_true rfl) rfl (fun _ _ h => h.elim) (fun _ _ h => h) (fun M6 hw => ?_)
  refine x_iconst (v := 0) d_G_succeeds_7 (by decide) ?_
  refine x_istore_n 1 [(1, .int (0 : Int32)), (0, .ref o)] d_G_succeeds_8 rfl (by decide) rfl ?_
  refine x_sub [1, 0] [(0, .ref o), (1, .int (0 : Int32))] rfl ?_
  obtain ⟨N9, hw⟩ := hw
  exact t_G_succeeds_9 hA hT ho N9 M6 (0 : Int32) hw
end
theorem q154 : (.fieldLink "SettingsDesk$Difference" 35 "SettingsDesk$Difference" "toPass" "I" : Cond) ∈ sdB0 := sd_tb4 79 rfl rfl
theorem q155 : (.fieldLink "SettingsDesk$Difference" 9 "SettingsDesk$Difference" "found" "Z" : Cond) ∈ sdB0 := sd_tb4 80 rfl rfl
theorem q156 : (.fieldLink "SettingsDesk$Difference" 15 "SettingsDesk$Difference" "atList" "I" : Cond) ∈ sdB0 := sd_tb4 81 rfl rfl
theorem q157 : (.fieldLink "SettingsDesk$Difference" 19 "SettingsDesk$Difference" "atKey" "I" : Cond) ∈ sdB0 := sd_tb4 83 rfl rfl
theorem q158 : (.fieldLink "SettingsDesk$Difference" 22 "SettingsDesk$Difference" "atLeaf" "I" : Cond) ∈ sdB0 := sd_tb4 85 rfl rfl
theorem q159 : (.fieldLink "SettingsDesk$Difference" 25 "SettingsDesk$Difference" "kind" "I" : Cond) ∈ sdB0 := sd_tb4 87 rfl rfl
abbrev y_E_pass : MethodName := ⟨"SettingsDesk$Difference", "pass", "(IIII)V"⟩
theorem d_E_pass_0 : decode prog_3_method_5_code 0 = .ok (.aload_n 0, 1) := by decide +kernel
theorem d_E_pass_1 : decode prog_3_method_5_code 1 = .ok (.getfield 35, 3) := by decide +kernel
theorem d_E_pass_4 : decode prog_3_method_5_code 4 = .ok (.ifCond .ne (29), 3) := by decide +kernel
theorem d_E_pass_7 : decode prog_3_method_5_code 7 = .ok (.aload_n 0, 1) := by decide +kernel
theorem d_E_pass_8 : decode prog_3_method_5_code 8 = .ok (.iconst 1, 1) := by decide +kernel
theorem d_E_pass_9 : decode prog_3_method_5_code 9 = .ok (.putfield 9, 3) := by decide +kernel
theorem d_E_pass_12 : decode prog_3_method_5_code 12 = .ok (.aload_n 0, 1) := by decide +kernel
theorem d_E_pass_13 : decode prog_3_method_5_code 13 = .ok (.iload_n 1, 1) := by decide +kernel
theorem d_E_pass_14 : decode prog_3_method_5_code 14 = .ok (.putfield 15, 3) := by decide +kernel
theorem d_E_pass_17 : decode prog_3_method_5_code 17 = .ok (.aload_n 0, 1) := by decide +kernel
theorem d_E_pass_18 : decode prog_3_method_5_code 18 = .ok (.iload_n 2, 1) := by decide +kernel
theorem d_E_pass_19 : decode prog_3_method_5_code 19 = .ok (.putfield 19, 3) := by decide +kernel
theorem d_E_pass_22 : decode prog_3_method_5_code 22 = .ok (.aload_n 0, 1) := by decide +kernel
theorem d_E_pass_23 : decode prog_3_method_5_code 23 = .ok (.iload_n 3, 1) := by decide +kernel
theorem d_E_pass_24 : decode prog_3_method_5_code 24 = .ok (.putfield 22, 3) := by decide +kernel
theorem d_E_pass_27 : decode prog_3_method_5_code 27 = .ok (.aload_n 0, 1) := by decide +kernel
theorem d_E_pass_28 : decode prog_3_method_5_code 28 = .ok (.iload 4, 2) := by decide +kernel
theorem d_E_pass_30 : decode prog_3_method_5_code 30 = .ok (.putfield 25, 3) := by decide +kernel
theorem d_E_pass_33 : decode prog_3_method_5_code 33 = .ok (.aload_n 0, 1) := by decide +kernel
theorem d_E_pass_34 : decode prog_3_method_5_code 34 = .ok (.dup, 1) := by decide +kernel
theorem d_E_pass_35 : decode prog_3_method_5_code 35 = .ok (.getfield 35, 3) := by decide +kernel
theorem d_E_pass_38 : decode prog_3_method_5_code 38 = .ok (.iconst 1, 1) := by decide +kernel
theorem d_E_pass_39 : decode prog_3_method_5_code 39 = .ok (.isub, 1) := by decide +kernel
theorem d_E_pass_40 : decode prog_3_method_5_code 40 = .ok (.putfield 35, 3) := by decide +kernel
theorem d_E_pass_43 : decode prog_3_method_5_code 43 = .ok (.return_, 1) := by decide +kernel
def Y_E_pass : sdY := ("SettingsDesk$Difference", prog_3_method_5_code, 5, none, .code y_E_pass prog_3_method_5_code 5 none :: sdB0, { frames := 0, cells := 0, slots := 0, locals := 0 }, 0, 0, [])
section
variable {l : Launch} {D : va_G} {dA : Nat → ClassId} {b n : Nat} {ad : Nat → Nat} {L : Nat → sdL} {sc : Option (Nat × Nat × (Nat → Int32))}
def k_E_pass_33 (o : Nat) (ca : Nat) (ru : Nat) (Q : sdM → Prop) (M : sdM) : Prop := ∀ M14 : sdM, M14 = sd_s M o 2 ((M o 2) - (1 : Int32)) → Q M14
set_option maxHeartbeats 1000000 in
theorem t_E_pass_33 {o : Nat} {ca : Nat} {ru : Nat} (hA : sd_ad b n ad) (hT : l.stackTraces = false) (ho : isE n L dA o ca ru) {Q : sdM → Prop} (M : sdM) (hw : k_E_pass_33 o ca ru Q M ) : sdW l (sdE0 sc) Y_E_pass D (sd_tys dA) b n ad L ad (sd_H D (sdE0 sc).1 n ad L) (sd_qv Q) sd_xf 33 [(0, .ref o)] [] M 0 0 := by
  unfold k_E_pass_33 at hw
  refine x_aload_n 0 0 d_E_pass_33 rfl rfl ?_
  refine x_dup d_E_pass_34 rfl ?_
  refine x_geti 2 d_E_pass_35 ho.1 ho.2.1 rfl rfl (by decide) lay_E (List.mem_cons_of_mem _ q154) rfl ?_
  refine x_iconst (v := 1) d_E_pass_38 (by decide) ?_
  refine x_isub d_E_pass_39 ?_
  refine x_puti 2 (ty := .int) hA d_E_pass_40 ho.1 ho.2.1 rfl rfl (by decide) lay_E (List.mem_cons_of_mem _ q154) rfl ty_E ty_E_ok nm_E rfl (by decide +kernel) rfl rfl (fun M14 e15 => ?_)
  have hw := hw M14 e15
  clear e15
  exact x_vret d_E_pass_43 rfl (fun _ h => h) ⟨rfl, hw⟩
def w_E_pass (o : Nat) (ca : Nat) (ru : Nat) (M : sdM) (a1 : Int32) (a2 : Int32) (a3 : Int32) (a4 : Int32) (Q : sdM → Prop) : Prop := (¬ (M o 2) = 0 → k_E_pass_33 o ca ru Q M) ∧ ((M o 2) = 0 → sdB (1 : Int32) ∧ ∀ M16 : sdM, M16 = sd_s M o 3 (1 : Int32) → ∀ M19 : sdM, M19 = sd_s M16 o 4 a1 → ∀ M21 : sdM, M21 = sd_s M19 o 5 a2 → ∀ M23 : sdM, M23 = sd_s M21 o 6 a3 → ∀ M25 : sdM, M25 = sd_s M23 o 7 a4 → k_E_pass_33 o ca ru Q M25)
set_option maxHeartbeats 1000000 in
theorem c_E_pass {a1 : Int32} {a2 : Int32} {a3 : Int32} {a4 : Int32} {o : Nat} {ca : Nat} {ru : Nat} (hA : sd_ad b n ad) (hT : l.stackTraces = false) (ho : isE n L dA o ca ru) {Q : sdM → Prop} {M : sdM} (hw : w_E_pass o ca ru M a1 a2 a3 a4 Q) : sd_Cn l (sdE0 sc) y_E_pass Y_E_pass.2.2.2.2.1 Y_E_pass.2.2.2.2.2.1 0 0 D (sd_tys dA) b n ad L M [.ref o, .int a1, .int a2, .int a3, .int a4] (sd_qv Q) sd_xf := by
  refine sd_enter (Y := Y_E_pass) rfl rfl rfl rfl (Nat.le_of_ble_eq_true rfl) ?_
  show sdW l (sdE0 sc) Y_E_pass D (sd_tys dA) b n ad L ad (sd_H D (sdE0 sc).1 n ad L) (sd_qv Q) sd_xf 0 [(0, .ref o), (1, .int a1), (2, .int a2), (3, .int a3), (4, .int a4)] [] M 0 0
  unfold w_E_pass at hw
  refine x_aload_n 0 0 d_E_pass_0 rfl rfl ?_
  refine x_geti 2 d_E_pass_1 ho.1 ho.2.1 rfl rfl (by decide) lay_E (List.mem_cons_of_mem _ q154) rfl ?_
  refine x_if_ne 33 d_E_pass_4 rfl (fun hc => ?_) (fun hc => ?_)
  · have hw := hw.1 hc
    refine x_sub [0] [(0, .ref o)] rfl ?_
    exact t_E_pass_33 hA hT ho M hw
  · have hw := hw.2 hc
    refine x_aload_n 0 0 d_E_pass_7 rfl rfl ?_
    refine x_iconst (v := 1) d_E_pass_8 (by decide) ?_
    obtain ⟨hb18, hw⟩ := hw
    refine x_puti 3 (ty := .boolean) hA d_E_pass_9 ho.1 ho.2.1 rfl rfl (by decide) lay_E (List.mem_cons_of_mem _ q155) rfl ty_E ty_E_ok nm_E rfl (by decide +kernel) (sdB_n hb18) (sdB_f hb18) (fun M16 e17 => ?_)
    have hw := hw M16 e17
    clear e17
    refine x_aload_n 0 0 d_E_pass_12 rfl rfl ?_
    refine x_iload_n 1 1 d_E_pass_13 rfl rfl ?_
    refine x_puti 4 (ty := .int) hA d_E_pass_14 ho.1 ho.2.1 rfl rfl (by decide) lay_E (List.mem_cons_of_mem _ q156) rfl ty_E ty_E_ok nm_E rfl (by decide +kernel) rfl rfl (fun M19 e20 => ?_)
    have hw := hw M19 e20
    clear e20
    refine x_aload_n 0 0 d_E_pass_17 rfl rfl ?_
    refine x_iload_n 2 2 d_E_pass_18 rfl rfl ?_
    refine x_puti 5 (ty := .int) hA d_E_pass_19 ho.1 ho.2.1 rfl rfl (by decide) lay_E (List.mem_cons_of_mem _ q157) rfl ty_E ty_E_ok nm_E rfl (by decide +kernel) rfl rfl (fun M21 e22 => ?_)
    have hw := hw M21 e22
    clear e22
    refine x_aload_n 0 0 d_E_pass_22 rfl rfl ?_
    refine x_iload_n 3 3 d_E_pass_23 rfl rfl ?_
    refine x_puti 6 (ty := .int) hA d_E_pass_24 ho.1 ho.2.1 rfl rfl (by decide) lay_E (List.mem_cons_of_mem _ q158) rfl ty_E ty_E_ok nm_E rfl (by decide +kernel) rfl rfl (fun M23 e24 => ?_)
    have hw := hw M23 e24
    clear e24
    refine x_aload_n 0 0 d_E_pass_27 rfl rfl ?_
    refine x_iload 4 4 d_E_pass_28 rfl ?_
    refine x_puti 7 (ty := .int) hA d_E_pass_30 ho.1 ho.2.1 rfl rfl (by decide) lay_E (List.mem_cons_of_mem _ q159) rfl ty_E ty_E_ok nm_E rfl (by decide +kernel) rfl rfl (fun M25 e26 => ?_)
    have hw := hw M25 e26
    clear e26
    refine x_sub [0] [(0, .ref o)] rfl ?_
    exact t_E_pass_33 hA hT ho M25 hw
end
theorem q160 : (.fieldLink "SettingsDesk$Difference" 28 "SettingsDesk$Difference" "candidate" "LSettingsDesk$Settings;" : Cond) ∈ sdB0 := sd_tb4 77 rfl rfl
theorem q161 : (.fieldLink "SettingsDesk$Difference" 32 "SettingsDesk$Difference" "running" "LSettingsDesk$Settings;" : Cond) ∈ sdB0 := sd_tb4 78 rfl rfl
theorem q162 : (.methodLink "SettingsDesk$Difference" 52 ⟨"SettingsDesk$Settings", "rowOf", "(II)I"⟩ : Cond) ∈ sdB0 := sd_tb4 119 rfl rfl
theorem q163 : (.methodLink "SettingsDesk$Difference" 56 ⟨"SettingsDesk$Difference", "pass", "(IIII)V"⟩ : Cond) ∈ sdB0 := sd_tb4 120 rfl rfl
theorem q164 : (.code ⟨"SettingsDesk$Difference", "pass", "(IIII)V"⟩ prog_3_method_5_code 5 none : Cond) ∈ sdB0 := sd_tb4 123 rfl rfl
theorem q165 : (.instanceMethod ⟨"SettingsDesk$Difference", "pass", "(IIII)V"⟩ : Cond) ∈ sdB0 := sd_tb4 121 rfl rfl
theorem q166 : (.selects "SettingsDesk$Difference" ⟨"SettingsDesk$Difference", "pass", "(IIII)V"⟩ ⟨"SettingsDesk$Difference", "pass", "(IIII)V"⟩ : Cond) ∈ sdB0 := sd_tb4 122 rfl rfl
theorem q167 : (.initialized "SettingsDesk$Difference" : Cond) ∈ sdB0 := sd_tb1 21 rfl rfl
theorem q168 : (.methodLink "SettingsDesk$Difference" 60 ⟨"SettingsDesk$Settings", "sameLeaf", "(IILSettingsDesk$Settings;I)Z"⟩ : Cond) ∈ sdB0 := sd_tb4 124 rfl rfl
abbrev y_E_passEntry : MethodName := ⟨"SettingsDesk$Difference", "passEntry", "(II)V"⟩
theorem d_E_passEntry_0 : decode prog_3_method_4_code 0 = .ok (.aload_n 0, 1) := by decide +kernel
theorem d_E_passEntry_1 : decode prog_3_method_4_code 1 = .ok (.getfield 28, 3) := by decide +kernel
theorem d_E_passEntry_4 : decode prog_3_method_4_code 4 = .ok (.iload_n 1, 1) := by decide +kernel
theorem d_E_passEntry_5 : decode prog_3_method_4_code 5 = .ok (.iload_n 2, 1) := by decide +kernel
theorem d_E_passEntry_6 : decode prog_3_method_4_code 6 = .ok (.invokevirtual 52, 3) := by decide +kernel
theorem d_E_passEntry_9 : decode prog_3_method_4_code 9 = .ok (.istore_n 3, 1) := by decide +kernel
theorem d_E_passEntry_10 : decode prog_3_method_4_code 10 = .ok (.aload_n 0, 1) := by decide +kernel
theorem d_E_passEntry_11 : decode prog_3_method_4_code 11 = .ok (.getfield 32, 3) := by decide +kernel
theorem d_E_passEntry_14 : decode prog_3_method_4_code 14 = .ok (.iload_n 1, 1) := by decide +kernel
theorem d_E_passEntry_15 : decode prog_3_method_4_code 15 = .ok (.iload_n 2, 1) := by decide +kernel
theorem d_E_passEntry_16 : decode prog_3_method_4_code 16 = .ok (.invokevirtual 52, 3) := by decide +kernel
theorem d_E_passEntry_19 : decode prog_3_method_4_code 19 = .ok (.istore 4, 2) := by decide +kernel
theorem d_E_passEntry_21 : decode prog_3_method_4_code 21 = .ok (.iload_n 3, 1) := by decide +kernel
theorem d_E_passEntry_22 : decode prog_3_method_4_code 22 = .ok (.iconst (-1), 1) := by decide +kernel
theorem d_E_passEntry_23 : decode prog_3_method_4_code 23 = .ok (.if_icmp .ne (12), 3) := by decide +kernel
theorem d_E_passEntry_26 : decode prog_3_method_4_code 26 = .ok (.aload_n 0, 1) := by decide +kernel
theorem d_E_passEntry_27 : decode prog_3_method_4_code 27 = .ok (.iload_n 1, 1) := by decide +kernel
theorem d_E_passEntry_28 : decode prog_3_method_4_code 28 = .ok (.iload_n 2, 1) := by decide +kernel
theorem d_E_passEntry_29 : decode prog_3_method_4_code 29 = .ok (.iconst (-1), 1) := by decide +kernel
theorem d_E_passEntry_30 : decode prog_3_method_4_code 30 = .ok (.iconst 2, 1) := by decide +kernel
theorem d_E_passEntry_31 : decode prog_3_method_4_code 31 = .ok (.invokevirtual 56, 3) := by decide +kernel
theorem d_E_passEntry_34 : decode prog_3_method_4_code 34 = .ok (.return_, 1) := by decide +kernel
theorem d_E_passEntry_35 : decode prog_3_method_4_code 35 = .ok (.iload 4, 2) := by decide +kernel
theorem d_E_passEntry_37 : decode prog_3_method_4_code 37 = .ok (.iconst (-1), 1) := by decide +kernel
theorem d_E_passEntry_38 : decode prog_3_method_4_code 38 = .ok (.if_icmp .ne (11), 3) := by decide +kernel
theorem d_E_passEntry_41 : decode prog_3_method_4_code 41 = .ok (.aload_n 0, 1) := by decide +kernel
theorem d_E_passEntry_42 : decode prog_3_method_4_code 42 = .ok (.iload_n 1, 1) := by decide +kernel
theorem d_E_passEntry_43 : decode prog_3_method_4_code 43 = .ok (.iload_n 2, 1) := by decide +kernel
theorem d_E_passEntry_44 : decode prog_3_method_4_code 44 = .ok (.iconst (-1), 1) := by decide +kernel
theorem d_E_passEntry_45 : decode prog_3_method_4_code 45 = .ok (.iconst 1, 1) := by decide +kernel
theorem d_E_passEntry_46 : decode prog_3_method_4_code 46 = .ok (.invokevirtual 56, 3) := by decide +kernel
theorem d_E_passEntry_49 : decode prog_3_method_4_code 49 = .ok (.iconst 0, 1) := by decide +kernel
theorem d_E_passEntry_50 : decode prog_3_method_4_code 50 = .ok (.istore 5, 2) := by decide +kernel
theorem d_E_passEntry_52 : decode prog_3_method_4_code 52 = .ok (.iload 5, 2) := by decide +kernel
theorem d_E_passEntry_54 : decode prog_3_method_4_code 54 = .ok (.iconst 4, 1) := by decide +kernel
theorem d_E_passEntry_55 : decode prog_3_method_4_code 55 = .ok (.if_icmp .ge (37), 3) := by decide +kernel
theorem d_E_passEntry_58 : decode prog_3_method_4_code 58 = .ok (.aload_n 0, 1) := by decide +kernel
theorem d_E_passEntry_59 : decode prog_3_method_4_code 59 = .ok (.getfield 28, 3) := by decide +kernel
theorem d_E_passEntry_62 : decode prog_3_method_4_code 62 = .ok (.iload_n 3, 1) := by decide +kernel
theorem d_E_passEntry_63 : decode prog_3_method_4_code 63 = .ok (.iload 5, 2) := by decide +kernel
theorem d_E_passEntry_65 : decode prog_3_method_4_code 65 = .ok (.aload_n 0, 1) := by decide +kernel
theorem d_E_passEntry_66 : decode prog_3_method_4_code 66 = .ok (.getfield 32, 3) := by decide +kernel
theorem d_E_passEntry_69 : decode prog_3_method_4_code 69 = .ok (.iload 4, 2) := by decide +kernel
theorem d_E_passEntry_71 : decode prog_3_method_4_code 71 = .ok (.invokevirtual 60, 3) := by decide +kernel
theorem d_E_passEntry_74 : decode prog_3_method_4_code 74 = .ok (.ifCond .ne (12), 3) := by decide +kernel
theorem d_E_passEntry_77 : decode prog_3_method_4_code 77 = .ok (.aload_n 0, 1) := by decide +kernel
theorem d_E_passEntry_78 : decode prog_3_method_4_code 78 = .ok (.iload_n 1, 1) := by decide +kernel
theorem d_E_passEntry_79 : decode prog_3_method_4_code 79 = .ok (.iload_n 2, 1) := by decide +kernel
theorem d_E_passEntry_80 : decode prog_3_method_4_code 80 = .ok (.iload 5, 2) := by decide +kernel
theorem d_E_passEntry_82 : decode prog_3_method_4_code 82 = .ok (.iconst 3, 1) := by decide +kernel
theorem d_E_passEntry_83 : decode prog_3_method_4_code 83 = .ok (.invokevirtual 56, 3) := by decide +kernel
theorem d_E_passEntry_86 : decode prog_3_method_4_code 86 = .ok (.iinc 5 (1), 3) := by decide +kernel
theorem d_E_passEntry_89 : decode prog_3_method_4_code 89 = .ok (.goto (-37), 3) := by decide +kernel
theorem d_E_passEntry_92 : decode prog_3_method_4_code 92 = .ok (.return_, 1) := by decide +kernel
def Y_E_passEntry : sdY := ("SettingsDesk$Difference", prog_3_method_4_code, 6, none, .code y_E_passEntry prog_3_method_4_code 6 none :: sdB0, { frames := 2, cells := 0, slots := 0, locals := 46 }, 0, 0, [])
theorem cw_E_passEntry_S_rowOf_52 : sd_cwV Y_E_passEntry Y_S_rowOf y_S_rowOf 52 2 "SettingsDesk$Settings" := ⟨sd_goodV q162 q126 q127 q7 q125, ⟨_, rfl⟩, ⟨rfl, rfl, rfl, rfl⟩, ⟨rfl, by decide, by decide, by decide +kernel⟩, ⟨by decide, by decide⟩⟩
theorem cw_E_passEntry_E_pass_56 : sd_cwV Y_E_passEntry Y_E_pass y_E_pass 56 4 "SettingsDesk$Difference" := ⟨sd_goodV q163 q165 q166 q167 q164, ⟨_, rfl⟩, ⟨rfl, rfl, rfl, rfl⟩, ⟨rfl, by decide, by decide, by decide +kernel⟩, ⟨by decide, by decide⟩⟩
theorem cw_E_passEntry_S_sameLeaf_60 : sd_cwV Y_E_passEntry Y_S_sameLeaf y_S_sameLeaf 60 4 "SettingsDesk$Settings" := ⟨sd_goodV q168 q14 q15 q7 q13, ⟨_, rfl⟩, ⟨rfl, rfl, rfl, rfl⟩, ⟨rfl, by decide, by decide, by decide +kernel⟩, ⟨by decide, by decide⟩⟩
section
variable {l : Launch} {D : va_G} {dA : Nat → ClassId} {b n : Nat} {ad : Nat → Nat} {L : Nat → sdL} {sc : Option (Nat × Nat × (Nat → Int32))}
def k_E_passEntry_86 (o : Nat) (ca : Nat) (ru : Nat) (Q : sdM → Prop) (k52 : sdM → Int32 → Int32 → Int32 → Int32 → Int32 → Prop) (M : sdM) (x1 : Int32) (x2 : Int32) (x3 : Int32) (x4 : Int32) (x5 : Int32) : Prop := k52 M x1 x2 x3 x4 (x5 + 1)
set_option maxHeartbeats 1000000 in
theorem t_E_passEntry_86 {o : Nat} {ca : Nat} {ru : Nat} (hA : sd_ad b n ad) (hT : l.stackTraces = false) (ho : isE n L dA o ca ru) {Q : sdM → Prop} {k52 : sdM → Int32 → Int32 → Int32 → Int32 → Int32 → Prop} (hk52 : ∀ (M : sdM) (x1 : Int32) (x2 : Int32) (x3 : Int32) (x4 : Int32) (x5 : Int32), k52 M x1 x2 x3 x4 x5 → sdW l (sdE0 sc) Y_E_passEntry D (sd_tys dA) b n ad L ad (sd_H D (sdE0 sc).1 n ad L) (sd_qv Q) sd_xf 52 [(0, .ref o), (1, .int x1), (2, .int x2), (3, .int x3), (4, .int x4), (5, .int x5)] [] M 0 0) (M : sdM) (x1 : Int32) (x2 : Int32) (x3 : Int32) (x4 : Int32) (x5 : Int32) (hw : k_E_passEntry_86 o ca ru Q k52 M x1 x2 x3 x4 x5) : sdW l (sdE0 sc) Y_E_passEntry D (sd_tys dA) b n ad L ad (sd_H D (sdE0 sc).1 n ad L) (sd_qv Q) sd_xf 86 [(0, .ref o), (1, .int x1), (2, .int x2), (3, .int x3), (4, .int x4), (5, .int x5)] [] M 0 0 := by
  unfold k_E_passEntry_86 at hw
  refine x_iinc 5 5 [(5, .int (x5 + 1)), (0, .ref o), (1, .int x1), (2, .int x2), (3, .int x3), (4, .int x4)] d_E_passEntry_86 rfl (congrArg (HAdd.hAdd x5) (show Int32.ofInt 1 = 1 by decide)) (by decide) rfl ?_
  refine x_goto 52 d_E_passEntry_89 rfl ?_
  refine x_sub [1, 2, 3, 4, 5, 0] [(0, .ref o), (1, .int x1), (2, .int x2), (3, .int x3), (4, .int x4), (5, .int (x5 + 1))] rfl ?_
  exact hk52 M x1 x2 x3 x4 (x5 + 1) hw
def h_E_passEntry_52 (o : Nat) (ca : Nat) (ru : Nat) (Q : sdM → Prop) : Nat → sdM → Int32 → Int32 → Int32 → Int32 → Int32 → Prop
  | 0, _, _, _, _, _, _ => False
  | N + 1, M, x1, x2, x3, x4, x5 => ((4 : Int32) ≤ x5 → Q M) ∧ (¬ (4 : Int32) ≤ x5 → w_S_sameLeaf ca M x3 x5 ru x4 (fun r11 M10 => (¬ r11 = 0 → k_E_passEntry_86 o ca ru Q (fun M x1 x2 x3 x4 x5 => h_E_passEntry_52 o ca ru Q N M x1 x2 x3 x4 x5) M10 x1 x2 x3 x4 x5) ∧ (r11 = 0 → w_E_pass o ca ru M10 x1 x2 x5 (3 : Int32) (fun M12 => k_E_passEntry_86 o ca ru Q (fun M x1 x2 x3 x4 x5 => h_E_passEntry_52 o ca ru Q N M x1 x2 x3 x4 x5) M12 x1 x2 x3 x4 x5))))
set_option maxHeartbeats 1000000 in
theorem t_E_passEntry_52 {o : Nat} {ca : Nat} {ru : Nat} (hA : sd_ad b n ad) (hT : l.stackTraces = false) (ho : isE n L dA o ca ru) {Q : sdM → Prop} (N : Nat) : ∀ (M : sdM) (x1 : Int32) (x2 : Int32) (x3 : Int32) (x4 : Int32) (x5 : Int32), h_E_passEntry_52 o ca ru Q N M x1 x2 x3 x4 x5 → sdW l (sdE0 sc) Y_E_passEntry D (sd_tys dA) b n ad L ad (sd_H D (sdE0 sc).1 n ad L) (sd_qv Q) sd_xf 52 [(0, .ref o), (1, .int x1), (2, .int x2), (3, .int x3), (4, .int x4), (5, .int x5)] [] M 0 0 := by
  induction N with
  | zero => intro M x1 x2 x3 x4 x5 hw; exact hw.elim
  | succ N ih =>
    intro M x1 x2 x3 x4 x5 hw
    rw [h_E_passEntry_52] at hw
    refine x_iload 5 5 d_E_passEntry_52 rfl ?_
    refine x_iconst (v := 4) d_E_passEntry_54 (by decide) ?_
    refine x_icmp_ge 92 d_E_passEntry_55 rfl (fun hc => ?_) (fun hc => ?_)
    · have hw := hw.1 hc
      exact x_vret d_E_passEntry_92 rfl (fun _ h => h) ⟨rfl, hw⟩
    · have hw := hw.2 hc
      refine x_aload_n 0 0 d_E_passEntry_58 rfl rfl ?_
      refine x_getr 0 ca d_E_passEntry_59 ho.1 ho.2.1 rfl rfl (by decide) lay_E (List.mem_cons_of_mem _ q160) rfl ?_
      refine x_iload_n 3 3 d_E_passEntry_62 rfl rfl ?_
      refine x_iload 5 5 d_E_passEntry_63 rfl ?_
      refine x_aload_n 0 0 d_E_passEntry_65 rfl rfl ?_
      refine x_getr 1 ru d_E_passEntry_66 ho.1 ho.2.1 rfl rfl (by decide) lay_E (List.mem_cons_of_mem _ q161) rfl ?_
      refine x_iload 4 4 d_E_passEntry_69 rfl ?_
      refine x_callVi (As := [.int x3, .int x5, .ref ru, .int x4]) (t := ca) (rest := []) (rc := 0) (rs := 0) (c_S_sameLeaf hA hT ho.candidate ho.running hw) cw_E_passEntry_S_sameLeaf_60 ho.candidate.1 ho.candidate.2.1 rfl d_E_passEntry_71 rfl rfl (Nat.le_of_ble_eq_true rfl) rfl (fun _ _ h => h.elim) (fun _ _ h => h) (fun r11 M10 hw => ?_)
      refine x_if_ne 86 d_E_passEntry_74 rfl (fun hc => ?_) (fun hc => ?_)
      · have hw := hw.1 hc
        exact t_E_passEntry_86 hA hT ho (fun M x1 x2 x3 x4 x5  hw => ih M x1 x2 x3 x4 x5 hw) M10 x1 x2 x3 x4 x5 hw
      · have hw := hw.2 hc
        refine x_aload_n 0 0 d_E_passEntry_77 rfl rfl ?_
        refine x_iload_n 1 1 d_E_passEntry_78 rfl rfl ?_
        refine x_iload_n 2 2 d_E_passEntry_79 rfl rfl ?_
        refine x_iload 5 5 d_E_passEntry_80 rfl ?_
        refine x_iconst (v := 3) d_E_passEntry_82 (by decide) ?_
        refine x_callVv (As := [.int x1, .int x2, .int x5, .int (3 : Int32)]) (t := o) (rest := []) (rc := 0) (rs := 0) (c_E_pass hA hT ho hw) cw_E_passEntry_E_pass_56 ho.1 ho.2.1 rfl d_E_passEntry_83 rfl rfl (Nat.le_of_ble_eq_true rfl) rfl (fun _ _ h => h.elim) (fun _ _ h => h) (fun M12 hw => ?_)
        exact t_E_passEntry_86 hA hT ho (fun M x1 x2 x3 x4 x5  hw => ih M x1 x2 x3 x4 x5 hw) M12 x1 x2 x3 x4 x5 hw
def k_E_passEntry_49 (o : Nat) (ca : Nat) (ru : Nat) (Q : sdM → Prop) (M : sdM) (x1 : Int32) (x2 : Int32) (x3 : Int32) (x4 : Int32) : Prop := ∃ N9 : Nat, h_E_passEntry_52 o ca ru Q N9 M x1 x2 x3 x4 (0 : Int32)
set_option maxHeartbeats 1000000 in
theorem t_E_passEntry_49 {o : Nat} {ca : Nat} {ru : Nat} (hA : sd_ad b n ad) (hT : l.stackTraces = false) (ho : isE n L dA o ca ru) {Q : sdM → Prop} (M : sdM) (x1 : Int32) (x2 : Int32) (x3 : Int32) (x4 : Int32) (hw : k_E_passEntry_49 o ca ru Q M x1 x2 x3 x4) : sdW l (sdE0 sc) Y_E_passEntry D (sd_tys dA) b n ad L ad (sd_H D (sdE0 sc).1 n ad L) (sd_qv Q) sd_xf 49 [(0, .ref o), (1, .int x1), (2, .int x2), (3, .int x3), (4, .int x4)] [] M 0 0 := by
  unfold k_E_passEntry_49 at hw
  refine x_iconst (v := 0) d_E_passEntry_49 (by decide) ?_
  refine x_istore 5 [(5, .int (0 : Int32)), (0, .ref o), (1, .int x1), (2, .int x2), (3, .int x3), (4, .int x4)] d_E_passEntry_50 (by decide) rfl ?_
  refine x_sub [1, 2, 3, 4, 5, 0] [(0, .ref o), (1, .int x1), (2, .int x2), (3, .int x3), (4, .int x4), (5, .int (0 : Int32))] rfl ?_
  obtain ⟨N9, hw⟩ := hw
  exact t_E_passEntry_52 hA hT ho N9 M x1 x2 x3 x4 (0 : Int32) hw
def w_E_passEntry (o : Nat) (ca : Nat) (ru : Nat) (M : sdM) (a1 : Int32) (a2 : Int32) (Q : sdM → Prop) : Prop := w_S_rowOf ca M a1 a2 (fun r14 M13 => w_S_rowOf ru M13 a1 a2 (fun r16 M15 => (¬ r14 = (-1 : Int32) → (¬ r16 = (-1 : Int32) → k_E_passEntry_49 o ca ru Q M15 a1 a2 r14 r16) ∧ (r16 = (-1 : Int32) → w_E_pass o ca ru M15 a1 a2 (-1 : Int32) (1 : Int32) (fun M17 => k_E_passEntry_49 o ca ru Q M17 a1 a2 r14 r16))) ∧ (r14 = (-1 : Int32) → w_E_pass o ca ru M15 a1 a2 (-1 : Int32) (2 : Int32) (fun M18 => Q M18))))
set_option maxHeartbeats 1000000 in
theorem c_E_passEntry {a1 : Int32} {a2 : Int32} {o : Nat} {ca : Nat} {ru : Nat} (hA : sd_ad b n ad) (hT : l.stackTraces = false) (ho : isE n L dA o ca ru) {Q : sdM → Prop} {M : sdM} (hw : w_E_passEntry o ca ru M a1 a2 Q) : sd_Cn l (sdE0 sc) y_E_passEntry Y_E_passEntry.2.2.2.2.1 Y_E_passEntry.2.2.2.2.2.1 0 0 D (sd_tys dA) b n ad L M [.ref o, .int a1, .int a2] (sd_qv Q) sd_xf := by
  refine sd_enter (Y := Y_E_passEntry) rfl rfl rfl rfl (Nat.le_of_ble_eq_true rfl) ?_
  show sdW l (sdE0 sc) Y_E_passEntry D (sd_tys dA) b n ad L ad (sd_H D (sdE0 sc).1 n ad L) (sd_qv Q) sd_xf 0 [(0, .ref o), (1, .int a1), (2, .int a2)] [] M 0 0
  unfold w_E_passEntry at hw
  refine x_aload_n 0 0 d_E_passEntry_0 rfl rfl ?_
  refine x_getr 0 ca d_E_passEntry_1 ho.1 ho.2.1 rfl rfl (by decide) lay_E (List.mem_cons_of_mem _ q160) rfl ?_
  refine x_iload_n 1 1 d_E_passEntry_4 rfl rfl ?_
  refine x_iload_n 2 2 d_E_passEntry_5 rfl rfl ?_
  refine x_callVi (As := [.int a1, .int a2]) (t := ca) (rest := []) (rc := 0) (rs := 0) (c_S_rowOf hA hT ho.candidate hw) cw_E_passEntry_S_rowOf_52 ho.candidate.1 ho.candidate.2.1 rfl d_E_passEntry_6 rfl rfl (Nat.le_of_ble_eq_true rfl) rfl (fun _ _ h => h.elim) (fun _ _ h => h) (fun r14 M13 hw => ?_)
  refine x_istore_n 3 [(3, .int r14), (0, .ref o), (1, .int a1), (2, .int a2)] d_E_passEntry_9 rfl (by decide) rfl ?_
  refine x_aload_n 0 1 d_E_passEntry_10 rfl rfl ?_
  refine x_getr 1 ru d_E_passEntry_11 ho.1 ho.2.1 rfl rfl (by decide) lay_E (List.mem_cons_of_mem _ q161) rfl ?_
  refine x_iload_n 1 2 d_E_passEntry_14 rfl rfl ?_
  refine x_iload_n 2 3 d_E_passEntry_15 rfl rfl ?_
  refine x_callVi (As := [.int a1, .int a2]) (t := ru) (rest := []) (rc := 0) (rs := 0) (c_S_rowOf hA hT ho.running hw) cw_E_passEntry_S_rowOf_52 ho.running.1 ho.running.2.1 rfl d_E_passEntry_16 rfl rfl (Nat.le_of_ble_eq_true rfl) rfl (fun _ _ h => h.elim) (fun _ _ h => h) (fun r16 M15 hw => ?_)
  refine x_istore 4 [(4, .int r16), (3, .int r14), (0, .ref o), (1, .int a1), (2, .int a2)] d_E_passEntry_19 (by decide) rfl ?_
  refine x_iload_n 3 1 d_E_passEntry_21 rfl rfl ?_
  refine x_iconst (v := (-1)) d_E_passEntry_22 (by decide) ?_
  refine x_icmp_ne 35 d_E_passEntry_23 rfl (fun hc => ?_) (fun hc => ?_)
  · have hw := hw.1 hc
    refine x_iload 4 0 d_E_passEntry_35 rfl ?_
    refine x_iconst (v := (-1)) d_E_passEntry_37 (by decide) ?_
    refine x_icmp_ne 49 d_E_passEntry_38 rfl (fun hc => ?_) (fun hc => ?_)
    · have hw := hw.1 hc
      refine x_sub [2, 3, 4, 1, 0] [(0, .ref o), (1, .int a1), (2, .int a2), (3, .int r14), (4, .int r16)] rfl ?_
      exact t_E_passEntry_49 hA hT ho M15 a1 a2 r14 r16 hw
    · have hw := hw.2 hc
      refine x_aload_n 0 2 d_E_passEntry_41 rfl rfl ?_
      refine x_iload_n 1 3 d_E_passEntry_42 rfl rfl ?_
      refine x_iload_n 2 4 d_E_passEntry_43 rfl rfl ?_
      refine x_iconst (v := (-1)) d_E_passEntry_44 (by decide) ?_
      refine x_iconst (v := 1) d_E_passEntry_45 (by decide) ?_
      refine x_callVv (As := [.int a1, .int a2, .int (-1 : Int32), .int (1 : Int32)]) (t := o) (rest := []) (rc := 0) (rs := 0) (c_E_pass hA hT ho hw) cw_E_passEntry_E_pass_56 ho.1 ho.2.1 rfl d_E_passEntry_46 rfl rfl (Nat.le_of_ble_eq_true rfl) rfl (fun _ _ h => h.elim) (fun _ _ h => h) (fun M17 hw => ?_)
      refine x_sub [2, 3, 4, 1, 0] [(0, .ref o), (1, .int a1), (2, .int a2), (3, .int r14), (4, .int r16)] rfl ?_
      exact t_E_passEntry_49 hA hT ho M17 a1 a2 r14 r16 hw
  · have hw := hw.2 hc
    refine x_aload_n 0 2 d_E_passEntry_26 rfl rfl ?_
    refine x_iload_n 1 3 d_E_passEntry_27 rfl rfl ?_
    refine x_iload_n 2 4 d_E_passEntry_28 rfl rfl ?_
    refine x_iconst (v := (-1)) d_E_passEntry_29 (by decide) ?_
    refine x_iconst (v := 2) d_E_passEntry_30 (by decide) ?_
    refine x_callVv (As := [.int a1, .int a2, .int (-1 : Int32), .int (2 : Int32)]) (t := o) (rest := []) (rc := 0) (rs := 0) (c_E_pass hA hT ho hw) cw_E_passEntry_E_pass_56 ho.1 ho.2.1 rfl d_E_passEntry_31 rfl rfl (Nat.le_of_ble_eq_true rfl) rfl (fun _ _ h => h.elim) (fun _ _ h => h) (fun M18 hw => ?_)
    exact x_vret d_E_passEntry_34 rfl (fun _ h => h) ⟨rfl, hw⟩
end
theorem q169 : (.methodLink "SettingsDesk$Difference" 42 ⟨"SettingsDesk$Settings", "keyAfterInEither", "(LSettingsDesk$Settings;II)I"⟩ : Cond) ∈ sdB0 := sd_tb4 114 rfl rfl
theorem q170 : (.methodLink "SettingsDesk$Difference" 48 ⟨"SettingsDesk$Difference", "passEntry", "(II)V"⟩ : Cond) ∈ sdB0 := sd_tb4 115 rfl rfl
theorem q171 : (.code ⟨"SettingsDesk$Difference", "passEntry", "(II)V"⟩ prog_3_method_4_code 6 none : Cond) ∈ sdB0 := sd_tb4 118 rfl rfl
theorem q172 : (.instanceMethod ⟨"SettingsDesk$Difference", "passEntry", "(II)V"⟩ : Cond) ∈ sdB0 := sd_tb4 116 rfl rfl
theorem q173 : (.selects "SettingsDesk$Difference" ⟨"SettingsDesk$Difference", "passEntry", "(II)V"⟩ ⟨"SettingsDesk$Difference", "passEntry", "(II)V"⟩ : Cond) ∈ sdB0 := sd_tb4 117 rfl rfl
abbrev y_E_passList : MethodName := ⟨"SettingsDesk$Difference", "passList", "(I)V"⟩
theorem d_E_passList_0 : decode prog_3_method_3_code 0 = .ok (.aload_n 0, 1) := by decide +kernel
theorem d_E_passList_1 : decode prog_3_method_3_code 1 = .ok (.getfield 28, 3) := by decide +kernel
theorem d_E_passList_4 : decode prog_3_method_3_code 4 = .ok (.aload_n 0, 1) := by decide +kernel
theorem d_E_passList_5 : decode prog_3_method_3_code 5 = .ok (.getfield 32, 3) := by decide +kernel
theorem d_E_passList_8 : decode prog_3_method_3_code 8 = .ok (.iload_n 1, 1) := by decide +kernel
theorem d_E_passList_9 : decode prog_3_method_3_code 9 = .ok (.iconst (-1), 1) := by decide +kernel
theorem d_E_passList_10 : decode prog_3_method_3_code 10 = .ok (.invokevirtual 42, 3) := by decide +kernel
theorem d_E_passList_13 : decode prog_3_method_3_code 13 = .ok (.istore_n 2, 1) := by decide +kernel
theorem d_E_passList_14 : decode prog_3_method_3_code 14 = .ok (.iconst 0, 1) := by decide +kernel
theorem d_E_passList_15 : decode prog_3_method_3_code 15 = .ok (.istore_n 3, 1) := by decide +kernel
theorem d_E_passList_16 : decode prog_3_method_3_code 16 = .ok (.iload_n 3, 1) := by decide +kernel
theorem d_E_passList_17 : decode prog_3_method_3_code 17 = .ok (.bipush (12), 2) := by decide +kernel
theorem d_E_passList_19 : decode prog_3_method_3_code 19 = .ok (.if_icmp .ge (42), 3) := by decide +kernel
theorem d_E_passList_22 : decode prog_3_method_3_code 22 = .ok (.iload_n 2, 1) := by decide +kernel
theorem d_E_passList_23 : decode prog_3_method_3_code 23 = .ok (.bipush (101), 2) := by decide +kernel
theorem d_E_passList_25 : decode prog_3_method_3_code 25 = .ok (.if_icmp .eq (36), 3) := by decide +kernel
theorem d_E_passList_28 : decode prog_3_method_3_code 28 = .ok (.aload_n 0, 1) := by decide +kernel
theorem d_E_passList_29 : decode prog_3_method_3_code 29 = .ok (.getfield 9, 3) := by decide +kernel
theorem d_E_passList_32 : decode prog_3_method_3_code 32 = .ok (.ifCond .ne (29), 3) := by decide +kernel
theorem d_E_passList_35 : decode prog_3_method_3_code 35 = .ok (.aload_n 0, 1) := by decide +kernel
theorem d_E_passList_36 : decode prog_3_method_3_code 36 = .ok (.iload_n 1, 1) := by decide +kernel
theorem d_E_passList_37 : decode prog_3_method_3_code 37 = .ok (.iload_n 2, 1) := by decide +kernel
theorem d_E_passList_38 : decode prog_3_method_3_code 38 = .ok (.invokevirtual 48, 3) := by decide +kernel
theorem d_E_passList_41 : decode prog_3_method_3_code 41 = .ok (.aload_n 0, 1) := by decide +kernel
theorem d_E_passList_42 : decode prog_3_method_3_code 42 = .ok (.getfield 28, 3) := by decide +kernel
theorem d_E_passList_45 : decode prog_3_method_3_code 45 = .ok (.aload_n 0, 1) := by decide +kernel
theorem d_E_passList_46 : decode prog_3_method_3_code 46 = .ok (.getfield 32, 3) := by decide +kernel
theorem d_E_passList_49 : decode prog_3_method_3_code 49 = .ok (.iload_n 1, 1) := by decide +kernel
theorem d_E_passList_50 : decode prog_3_method_3_code 50 = .ok (.iload_n 2, 1) := by decide +kernel
theorem d_E_passList_51 : decode prog_3_method_3_code 51 = .ok (.invokevirtual 42, 3) := by decide +kernel
theorem d_E_passList_54 : decode prog_3_method_3_code 54 = .ok (.istore_n 2, 1) := by decide +kernel
theorem d_E_passList_55 : decode prog_3_method_3_code 55 = .ok (.iinc 3 (1), 3) := by decide +kernel
theorem d_E_passList_58 : decode prog_3_method_3_code 58 = .ok (.goto (-42), 3) := by decide +kernel
theorem d_E_passList_61 : decode prog_3_method_3_code 61 = .ok (.return_, 1) := by decide +kernel
def Y_E_passList : sdY := ("SettingsDesk$Difference", prog_3_method_3_code, 4, none, .code y_E_passList prog_3_method_3_code 4 none :: sdB0, { frames := 3, cells := 0, slots := 0, locals := 71 }, 0, 0, [])
theorem cw_E_passList_S_keyAfterInEither_42 : sd_cwV Y_E_passList Y_S_keyAfterInEither y_S_keyAfterInEither 42 3 "SettingsDesk$Settings" := ⟨sd_goodV q169 q140 q141 q7 q139, ⟨_, rfl⟩, ⟨rfl, rfl, rfl, rfl⟩, ⟨rfl, by decide, by decide, by decide +kernel⟩, ⟨by decide, by decide⟩⟩
theorem cw_E_passList_E_passEntry_48 : sd_cwV Y_E_passList Y_E_passEntry y_E_passEntry 48 2 "SettingsDesk$Difference" := ⟨sd_goodV q170 q172 q173 q167 q171, ⟨_, rfl⟩, ⟨rfl, rfl, rfl, rfl⟩, ⟨rfl, by decide, by decide, by decide +kernel⟩, ⟨by decide, by decide⟩⟩
section
variable {l : Launch} {D : va_G} {dA : Nat → ClassId} {b n : Nat} {ad : Nat → Nat} {L : Nat → sdL} {sc : Option (Nat × Nat × (Nat → Int32))}
def k_E_passList_61 (o : Nat) (ca : Nat) (ru : Nat) (Q : sdM → Prop) (M : sdM) : Prop := Q M
set_option maxHeartbeats 1000000 in
theorem t_E_passList_61 {o : Nat} {ca : Nat} {ru : Nat} (hA : sd_ad b n ad) (hT : l.stackTraces = false) (ho : isE n L dA o ca ru) {Q : sdM → Prop} (M : sdM) (hw : k_E_passList_61 o ca ru Q M ) : sdW l (sdE0 sc) Y_E_passList D (sd_tys dA) b n ad L ad (sd_H D (sdE0 sc).1 n ad L) (sd_qv Q) sd_xf 61 [] [] M 0 0 := by
  unfold k_E_passList_61 at hw
  exact x_vret d_E_passList_61 rfl (fun _ h => h) ⟨rfl, hw⟩
def h_E_passList_16 (o : Nat) (ca : Nat) (ru : Nat) (Q : sdM → Prop) : Nat → sdM → Int32 → Int32 → Int32 → Prop
  | 0, _, _, _, _ => False
  | N + 1, M, x1, x2, x3 => ((12 : Int32) ≤ x3 → k_E_passList_61 o ca ru Q M) ∧ (¬ (12 : Int32) ≤ x3 → (x2 = (101 : Int32) → k_E_passList_61 o ca ru Q M) ∧ (¬ x2 = (101 : Int32) → (¬ (M o 3) = 0 → k_E_passList_61 o ca ru Q M) ∧ ((M o 3) = 0 → w_E_passEntry o ca ru M x1 x2 (fun M6 => w_S_keyAfterInEither ca M6 ru x1 x2 (fun r8 M7 => h_E_passList_16 o ca ru Q N M7 x1 r8 (x3 + 1))))))
set_option maxHeartbeats 1000000 in
theorem t_E_passList_16 {o : Nat} {ca : Nat} {ru : Nat} (hA : sd_ad b n ad) (hT : l.stackTraces = false) (ho : isE n L dA o ca ru) {Q : sdM → Prop} (N : Nat) : ∀ (M : sdM) (x1 : Int32) (x2 : Int32) (x3 : Int32), h_E_passList_16 o ca ru Q N M x1 x2 x3 → sdW l (sdE0 sc) Y_E_passList D (sd_tys dA) b n ad L ad (sd_H D (sdE0 sc).1 n ad L) (sd_qv Q) sd_xf 16 [(0, .ref o), (1, .int x1), (2, .int x2), (3, .int x3)] [] M 0 0 := by
  induction N with
  | zero => intro M x1 x2 x3 hw; exact hw.elim
  | succ N ih =>
    intro M x1 x2 x3 hw
    rw [h_E_passList_16] at hw
    refine x_iload_n 3 3 d_E_passList_16 rfl rfl ?_
    refine x_bipush (v := 12) d_E_passList_17 (by decide) ?_
    refine x_icmp_ge 61 d_E_passList_19 rfl (fun hc => ?_) (fun hc => ?_)
    · have hw := hw.1 hc
      refine x_sub [] [] rfl ?_
      exact t_E_passList_61 hA hT ho M hw
    · have hw := hw.2 hc
      refine x_iload_n 2 2 d_E_passList_22 rfl rfl ?_
      refine x_bipush (v := 101) d_E_passList_23 (by decide) ?_
      refine x_icmp_eq 61 d_E_passList_25 rfl (fun hc => ?_) (fun hc => ?_)
      · have hw := hw.1 hc
        refine x_sub [] [] rfl ?_
        exact t_E_passList_61 hA hT ho M hw
      · have hw := hw.2 hc
        refine x_aload_n 0 0 d_E_passList_28 rfl rfl ?_
        refine x_geti 3 d_E_passList_29 ho.1 ho.2.1 rfl rfl (by decide) lay_E (List.mem_cons_of_mem _ q155) rfl ?_
        refine x_if_ne 61 d_E_passList_32 rfl (fun hc => ?_) (fun hc => ?_)
        · have hw := hw.1 hc
          refine x_sub [] [] rfl ?_
          exact t_E_passList_61 hA hT ho M hw
        · have hw := hw.2 hc
          refine x_aload_n 0 0 d_E_passList_35 rfl rfl ?_
          refine x_iload_n 1 1 d_E_passList_36 rfl rfl ?_
          refine x_iload_n 2 2 d_E_passList_37 rfl rfl ?_
          refine x_callVv (As := [.int x1, .int x2]) (t := o) (rest := []) (rc := 0) (rs := 0) (c_E_passEntry hA hT ho hw) cw_E_passList_E_passEntry_48 ho.1 ho.2.1 rfl d_E_passList_38 rfl rfl (Nat.le_of_ble_eq_true rfl) rfl (fun _ _ h => h.elim) (fun _ _ h => h) (fun M6 hw => ?_)
          refine x_aload_n 0 0 d_E_passList_41 rfl rfl ?_
          refine x_getr 0 ca d_E_passList_42 ho.1 ho.2.1 rfl rfl (by decide) lay_E (List.mem_cons_of_mem _ q160) rfl ?_
          refine x_aload_n 0 0 d_E_passList_45 rfl rfl ?_
          refine x_getr 1 ru d_E_passList_46 ho.1 ho.2.1 rfl rfl (by decide) lay_E (List.mem_cons_of_mem _ q161) rfl ?_
          refine x_iload_n 1 1 d_E_passList_49 rfl rfl ?_
          refine x_iload_n 2 2 d_E_passList_50 rfl rfl ?_
          refine x_callVi (As := [.ref ru, .int x1, .int x2]) (t := ca) (rest := []) (rc := 0) (rs := 0) (c_S_keyAfterInEither hA hT ho.candidate ho.running hw) cw_E_passList_S_keyAfterInEither_42 ho.candidate.1 ho.candidate.2.1 rfl d_E_passList_51 rfl rfl (Nat.le_of_ble_eq_true rfl) rfl (fun _ _ h => h.elim) (fun _ _ h => h) (fun r8 M7 hw => ?_)
          refine x_istore_n 2 [(2, .int r8), (0, .ref o), (1, .int x1), (3, .int x3)] d_E_passList_54 rfl (by decide) rfl ?_
          refine x_iinc 3 3 [(3, .int (x3 + 1)), (2, .int r8), (0, .ref o), (1, .int x1)] d_E_passList_55 rfl (congrArg (HAdd.hAdd x3) (show Int32.ofInt 1 = 1 by decide)) (by decide) rfl ?_
          refine x_goto 16 d_E_passList_58 rfl ?_
          refine x_sub [2, 3, 1, 0] [(0, .ref o), (1, .int x1), (2, .int r8), (3, .int (x3 + 1))] rfl ?_
          exact ih M7 x1 r8 (x3 + 1) hw
def w_E_passList (o : Nat) (ca : Nat) (ru : Nat) (M : sdM) (a1 : Int32) (Q : sdM → Prop) : Prop := w_S_keyAfterInEither ca M ru a1 (-1 : Int32) (fun r10 M9 => ∃ N9 : Nat, h_E_passList_16 o ca ru Q N9 M9 a1 r10 (0 : Int32))
set_option maxHeartbeats 1000000 in
theorem c_E_passList {a1 : Int32} {o : Nat} {ca : Nat} {ru : Nat} (hA : sd_ad b n ad) (hT : l.stackTraces = false) (ho : isE n L dA o ca ru) {Q : sdM → Prop} {M : sdM} (hw : w_E_passList o ca ru M a1 Q) : sd_Cn l (sdE0 sc) y_E_passList Y_E_passList.2.2.2.2.1 Y_E_passList.2.2.2.2.2.1 0 0 D (sd_tys dA) b n ad L M [.ref o, .int a1] (sd_qv Q) sd_xf := by
  refine sd_enter (Y := Y_E_passList) rfl rfl rfl rfl (Nat.le_of_ble_eq_true rfl) ?_
  show sdW l (sdE0 sc) Y_E_passList D (sd_tys dA) b n ad L ad (sd_H D (sdE0 sc).1 n ad L) (sd_qv Q) sd_xf 0 [(0, .ref o), (1, .int a1)] [] M 0 0
  unfold w_E_passList at hw
  refine x_aload_n 0 0 d_E_passList_0 rfl rfl ?_
  refine x_getr 0 ca d_E_passList_1 ho.1 ho.2.1 rfl rfl (by decide) lay_E (List.mem_cons_of_mem _ q160) rfl ?_
  refine x_aload_n 0 0 d_E_passList_4 rfl rfl ?_
  refine x_getr 1 ru d_E_passList_5 ho.1 ho.2.1 rfl rfl (by decide) lay_E (List.mem_cons_of_mem _ q161) rfl ?_
  refine x_iload_n 1 1 d_E_passList_8 rfl rfl ?_
  refine x_iconst (v := (-1)) d_E_passList_9 (by decide) ?_
  refine x_callVi (As := [.ref ru, .int a1, .int (-1 : Int32)]) (t := ca) (rest := []) (rc := 0) (rs := 0) (c_S_keyAfterInEither hA hT ho.candidate ho.running hw) cw_E_passList_S_keyAfterInEither_42 ho.candidate.1 ho.candidate.2.1 rfl d_E_passList_10 rfl rfl (Nat.le_of_ble_eq_true rfl) rfl (fun _ _ h => h.elim) (fun _ _ h => h) (fun r10 M9 hw => ?_)
  refine x_istore_n 2 [(2, .int r10), (0, .ref o), (1, .int a1)] d_E_passList_13 rfl (by decide) rfl ?_
  refine x_iconst (v := 0) d_E_passList_14 (by decide) ?_
  refine x_istore_n 3 [(3, .int (0 : Int32)), (2, .int r10), (0, .ref o), (1, .int a1)] d_E_passList_15 rfl (by decide) rfl ?_
  refine x_sub [2, 3, 1, 0] [(0, .ref o), (1, .int a1), (2, .int r10), (3, .int (0 : Int32))] rfl ?_
  obtain ⟨N9, hw⟩ := hw
  exact t_E_passList_16 hA hT ho N9 M9 a1 r10 (0 : Int32) hw
end
theorem q174 : (.methodLink "SettingsDesk$Difference" 38 ⟨"SettingsDesk$Difference", "passList", "(I)V"⟩ : Cond) ∈ sdB0 := sd_tb4 110 rfl rfl
theorem q175 : (.code ⟨"SettingsDesk$Difference", "passList", "(I)V"⟩ prog_3_method_3_code 4 none : Cond) ∈ sdB0 := sd_tb4 113 rfl rfl
theorem q176 : (.instanceMethod ⟨"SettingsDesk$Difference", "passList", "(I)V"⟩ : Cond) ∈ sdB0 := sd_tb4 111 rfl rfl
theorem q177 : (.selects "SettingsDesk$Difference" ⟨"SettingsDesk$Difference", "passList", "(I)V"⟩ ⟨"SettingsDesk$Difference", "passList", "(I)V"⟩ : Cond) ∈ sdB0 := sd_tb4 112 rfl rfl
abbrev y_E_isThere : MethodName := ⟨"SettingsDesk$Difference", "isThere", "()Z"⟩
theorem d_E_isThere_0 : decode prog_3_method_2_code 0 = .ok (.iconst 0, 1) := by decide +kernel
theorem d_E_isThere_1 : decode prog_3_method_2_code 1 = .ok (.istore_n 1, 1) := by decide +kernel
theorem d_E_isThere_2 : decode prog_3_method_2_code 2 = .ok (.iload_n 1, 1) := by decide +kernel
theorem d_E_isThere_3 : decode prog_3_method_2_code 3 = .ok (.iconst 4, 1) := by decide +kernel
theorem d_E_isThere_4 : decode prog_3_method_2_code 4 = .ok (.if_icmp .ge (21), 3) := by decide +kernel
theorem d_E_isThere_7 : decode prog_3_method_2_code 7 = .ok (.aload_n 0, 1) := by decide +kernel
theorem d_E_isThere_8 : decode prog_3_method_2_code 8 = .ok (.getfield 9, 3) := by decide +kernel
theorem d_E_isThere_11 : decode prog_3_method_2_code 11 = .ok (.ifCond .ne (14), 3) := by decide +kernel
theorem d_E_isThere_14 : decode prog_3_method_2_code 14 = .ok (.aload_n 0, 1) := by decide +kernel
theorem d_E_isThere_15 : decode prog_3_method_2_code 15 = .ok (.iload_n 1, 1) := by decide +kernel
theorem d_E_isThere_16 : decode prog_3_method_2_code 16 = .ok (.invokevirtual 38, 3) := by decide +kernel
theorem d_E_isThere_19 : decode prog_3_method_2_code 19 = .ok (.iinc 1 (1), 3) := by decide +kernel
theorem d_E_isThere_22 : decode prog_3_method_2_code 22 = .ok (.goto (-20), 3) := by decide +kernel
theorem d_E_isThere_25 : decode prog_3_method_2_code 25 = .ok (.aload_n 0, 1) := by decide +kernel
theorem d_E_isThere_26 : decode prog_3_method_2_code 26 = .ok (.getfield 9, 3) := by decide +kernel
theorem d_E_isThere_29 : decode prog_3_method_2_code 29 = .ok (.ireturn, 1) := by decide +kernel
def Y_E_isThere : sdY := ("SettingsDesk$Difference", prog_3_method_2_code, 2, (some .boolean), .code y_E_isThere prog_3_method_2_code 2 (some .boolean) :: sdB0, { frames := 4, cells := 0, slots := 0, locals := 94 }, 0, 0, [])
theorem cw_E_isThere_E_passList_38 : sd_cwV Y_E_isThere Y_E_passList y_E_passList 38 1 "SettingsDesk$Difference" := ⟨sd_goodV q174 q176 q177 q167 q175, ⟨_, rfl⟩, ⟨rfl, rfl, rfl, rfl⟩, ⟨rfl, by decide, by decide, by decide +kernel⟩, ⟨by decide, by decide⟩⟩
section
variable {l : Launch} {D : va_G} {dA : Nat → ClassId} {b n : Nat} {ad : Nat → Nat} {L : Nat → sdL} {sc : Option (Nat × Nat × (Nat → Int32))}
def k_E_isThere_25 (o : Nat) (ca : Nat) (ru : Nat) (Q : Int32 → sdM → Prop) (M : sdM) : Prop := sdB (M o 3) ∧ Q (M o 3) M
set_option maxHeartbeats 1000000 in
theorem t_E_isThere_25 {o : Nat} {ca : Nat} {ru : Nat} (hA : sd_ad b n ad) (hT : l.stackTraces = false) (ho : isE n L dA o ca ru) {Q : Int32 → sdM → Prop} (M : sdM) (hw : k_E_isThere_25 o ca ru Q M ) : sdW l (sdE0 sc) Y_E_isThere D (sd_tys dA) b n ad L ad (sd_H D (sdE0 sc).1 n ad L) (sd_qi Q) sd_xf 25 [(0, .ref o)] [] M 0 0 := by
  unfold k_E_isThere_25 at hw
  refine x_aload_n 0 0 d_E_isThere_25 rfl rfl ?_
  refine x_geti 3 d_E_isThere_26 ho.1 ho.2.1 rfl rfl (by decide) lay_E (List.mem_cons_of_mem _ q155) rfl ?_
  exact x_zret d_E_isThere_29 rfl (sdB_n hw.1) (fun _ h => h) ⟨_, rfl, hw.2⟩
def h_E_isThere_2 (o : Nat) (ca : Nat) (ru : Nat) (Q : Int32 → sdM → Prop) : Nat → sdM → Int32 → Prop
  | 0, _, _ => False
  | N + 1, M, x1 => ((4 : Int32) ≤ x1 → k_E_isThere_25 o ca ru Q M) ∧ (¬ (4 : Int32) ≤ x1 → (¬ (M o 3) = 0 → k_E_isThere_25 o ca ru Q M) ∧ ((M o 3) = 0 → w_E_passList o ca ru M x1 (fun M2 => h_E_isThere_2 o ca ru Q N M2 (x1 + 1))))
set_option maxHeartbeats 1000000 in
theorem t_E_isThere_2 {o : Nat} {ca : Nat} {ru : Nat} (hA : sd_ad b n ad) (hT : l.stackTraces = false) (ho : isE n L dA o ca ru) {Q : Int32 → sdM → Prop} (N : Nat) : ∀ (M : sdM) (x1 : Int32), h_E_isThere_2 o ca ru Q N M x1 → sdW l (sdE0 sc) Y_E_isThere D (sd_tys dA) b n ad L ad (sd_H D (sdE0 sc).1 n ad L) (sd_qi Q) sd_xf 2 [(0, .ref o), (1, .int x1)] [] M 0 0 := by
  induction N with
  | zero => intro M x1 hw; exact hw.elim
  | succ N ih =>
    intro M x1 hw
    rw [h_E_isThere_2] at hw
    refine x_iload_n 1 1 d_E_isThere_2 rfl rfl ?_
    refine x_iconst (v := 4) d_E_isThere_3 (by decide) ?_
    refine x_icmp_ge 25 d_E_isThere_4 rfl (fun hc => ?_) (fun hc => ?_)
    · have hw := hw.1 hc
      refine x_sub [0] [(0, .ref o)] rfl ?_
      exact t_E_isThere_25 hA hT ho M hw
    · have hw := hw.2 hc
      refine x_aload_n 0 0 d_E_isThere_7 rfl rfl ?_
      refine x_geti 3 d_E_isThere_8 ho.1 ho.2.1 rfl rfl (by decide) lay_E (List.mem_cons_of_mem _ q155) rfl ?_
      refine x_if_ne 25 d_E_isThere_11 rfl (fun hc => ?_) (fun hc => ?_)
      · have hw := hw.1 hc
        refine x_sub [0] [(0, .ref o)] rfl ?_
        exact t_E_isThere_25 hA hT ho M hw
      · have hw := hw.2 hc
        refine x_aload_n 0 0 d_E_isThere_14 rfl rfl ?_
        refine x_iload_n 1 1 d_E_isThere_15 rfl rfl ?_
        refine x_callVv (As := [.int x1]) (t := o) (rest := []) (rc := 0) (rs := 0) (c_E_passList hA hT ho hw) cw_E_isThere_E_passList_38 ho.1 ho.2.1 rfl d_E_isThere_16 rfl rfl (Nat.le_of_ble_eq_true rfl) rfl (fun _ _ h => h.elim) (fun _ _ h => h) (fun M2 hw => ?_)
        refine x_iinc 1 1 [(1, .int (x1 + 1)), (0, .ref o)] d_E_isThere_19 rfl (congrArg (HAdd.hAdd x1) (show Int32.ofInt 1 = 1 by decide)) (by decide) rfl ?_
        refine x_goto 2 d_E_isThere_22 rfl ?_
        refine x_sub [1, 0] [(0, .ref o), (1, .int (x1 + 1))] rfl ?_
        exact ih M2 (x1 + 1) hw
def w_E_isThere (o : Nat) (ca : Nat) (ru : Nat) (M : sdM) (Q : Int32 → sdM → Prop) : Prop := ∃ N9 : Nat, h_E_isThere_2 o ca ru Q N9 M (0 : Int32)
set_option maxHeartbeats 1000000 in
theorem c_E_isThere {o : Nat} {ca : Nat} {ru : Nat} (hA : sd_ad b n ad) (hT : l.stackTraces = false) (ho : isE n L dA o ca ru) {Q : Int32 → sdM → Prop} {M : sdM} (hw : w_E_isThere o ca ru M Q) : sd_Cn l (sdE0 sc) y_E_isThere Y_E_isThere.2.2.2.2.1 Y_E_isThere.2.2.2.2.2.1 0 0 D (sd_tys dA) b n ad L M [.ref o] (sd_qi Q) sd_xf := by
  refine sd_enter (Y := Y_E_isThere) rfl rfl rfl rfl (Nat.le_of_ble_eq_true rfl) ?_
  show sdW l (sdE0 sc) Y_E_isThere D (sd_tys dA) b n ad L ad (sd_H D (sdE0 sc).1 n ad L) (sd_qi Q) sd_xf 0 [(0, .ref o)] [] M 0 0
  unfold w_E_isThere at hw
  refine x_iconst (v := 0) d_E_isThere_0 (by decide) ?_
  refine x_istore_n 1 [(1, .int (0 : Int32)), (0, .ref o)] d_E_isThere_1 rfl (by decide) rfl ?_
  refine x_sub [1, 0] [(0, .ref o), (1, .int (0 : Int32))] rfl ?_
  obtain ⟨N9, hw⟩ := hw
  exact t_E_isThere_2 hA hT ho N9 M (0 : Int32) hw
end
theorem q178 : (.methodLink "SettingsDesk$Check" 3 ⟨"java/lang/Object", "<init>", "()V"⟩ : Cond) ∈ sdB0 := sd_tb3 9 rfl rfl
theorem q179 : (.fieldLink "SettingsDesk$Check" 9 "SettingsDesk$Check" "schema" "LSettingsDesk$Schema;" : Cond) ∈ sdB0 := sd_tb3 10 rfl rfl
theorem q180 : (.fieldLink "SettingsDesk$Check" 15 "SettingsDesk$Check" "settings" "LSettingsDesk$Settings;" : Cond) ∈ sdB0 := sd_tb3 11 rfl rfl
theorem q181 : (.fieldLink "SettingsDesk$Check" 19 "SettingsDesk$Check" "trouble" "LSettingsDesk$Trouble;" : Cond) ∈ sdB0 := sd_tb3 12 rfl rfl
abbrev y_K_init : MethodName := ⟨"SettingsDesk$Check", "<init>", "(LSettingsDesk$Schema;LSettingsDesk$Settings;LSettingsDesk$Trouble;)V"⟩
theorem d_K_init_0 : decode prog_2_method_1_code 0 = .ok (.aload_n 0, 1) := by decide +kernel
theorem d_K_init_1 : decode prog_2_method_1_code 1 = .ok (.invokespecial 3, 3) := by decide +kernel
theorem d_K_init_4 : decode prog_2_method_1_code 4 = .ok (.aload_n 0, 1) := by decide +kernel
theorem d_K_init_5 : decode prog_2_method_1_code 5 = .ok (.aload_n 1, 1) := by decide +kernel
theorem d_K_init_6 : decode prog_2_method_1_code 6 = .ok (.putfield 9, 3) := by decide +kernel
theorem d_K_init_9 : decode prog_2_method_1_code 9 = .ok (.aload_n 0, 1) := by decide +kernel
theorem d_K_init_10 : decode prog_2_method_1_code 10 = .ok (.aload_n 2, 1) := by decide +kernel
theorem d_K_init_11 : decode prog_2_method_1_code 11 = .ok (.putfield 15, 3) := by decide +kernel
theorem d_K_init_14 : decode prog_2_method_1_code 14 = .ok (.aload_n 0, 1) := by decide +kernel
theorem d_K_init_15 : decode prog_2_method_1_code 15 = .ok (.aload_n 3, 1) := by decide +kernel
theorem d_K_init_16 : decode prog_2_method_1_code 16 = .ok (.putfield 19, 3) := by decide +kernel
theorem d_K_init_19 : decode prog_2_method_1_code 19 = .ok (.return_, 1) := by decide +kernel
def Y_K_init : sdY := ("SettingsDesk$Check", prog_2_method_1_code, 4, none, .code y_K_init prog_2_method_1_code 4 none :: sdB0, { frames := 1, cells := 0, slots := 0, locals := 12 }, 0, 0, [])
section
variable {l : Launch} {D : va_G} {dA : Nat → ClassId} {b n : Nat} {ad : Nat → Nat} {L : Nat → sdL} {sc : Option (Nat × Nat × (Nat → Int32))}
def w_K_init (o : Nat) (M : sdM) (Q : sdM → Prop) : Prop := Q M
set_option maxHeartbeats 1000000 in
theorem c_K_init {o p1 p2 p3 : Nat} (hA : sd_ad b n ad) (ho : o < n) (hlo : L o = sd_O 8 [some none, some none, some none]) {Q : sdM → Prop} {M : sdM} (hw : w_K_init o M  Q) : sd_CnF l (sdE0 sc) y_K_init Y_K_init.2.2.2.2.1 Y_K_init.2.2.2.2.2.1 0 0 D (sd_tys dA) b n ad L M [.ref o, .ref p1, .ref p2, .ref p3] (sd_H D (sdE0 sc).1 n ad (va_up L o (sd_O 8 [some (some p1), some (some p2), some (some p3)]))) (sd_qv Q) sd_xf := by
  refine sd_enterF (Y := Y_K_init) rfl rfl rfl rfl (Nat.le_of_ble_eq_true rfl) ?_
  unfold w_K_init at hw
  refine x_aload_n 0 0 d_K_init_0 rfl rfl ?_
  refine x_objInit d_K_init_1 (List.mem_cons_of_mem _ q178) (List.mem_cons_of_mem _ q64) (List.mem_cons_of_mem _ q65) (by decide) (Nat.le_of_ble_eq_true rfl) ?_
  refine x_aload_n 0 0 d_K_init_4 rfl rfl ?_
  refine x_aload_n 1 1 d_K_init_5 rfl rfl ?_
  refine x_putr 0 p1 (ty := .object "SettingsDesk$Schema") hA (fun _ _ _ _ _ _ h => h.2.2.2.2 y_K_init _ _ _ _ rfl) d_K_init_6 ho hlo (Nat.le_of_ble_eq_true rfl) rfl (by decide) lay_K (List.mem_cons_of_mem _ q179) rfl ty_K ty_K_ok nm_K rfl rfl (by decide +kernel) rfl rfl ?_
  refine x_aload_n 0 0 d_K_init_9 rfl rfl ?_
  refine x_aload_n 2 2 d_K_init_10 rfl rfl ?_
  refine x_putr 1 p2 (ty := .object "SettingsDesk$Settings") hA (fun _ _ _ _ _ _ h => h.2.2.2.2 y_K_init _ _ _ _ rfl) d_K_init_11 ho (va_up_self _ _ _) (Nat.le_of_ble_eq_true rfl) rfl (by decide) lay_K (List.mem_cons_of_mem _ q180) rfl ty_K ty_K_ok nm_K rfl rfl (by decide +kernel) rfl rfl ?_
  refine x_aload_n 0 0 d_K_init_14 rfl rfl ?_
  refine x_aload_n 3 3 d_K_init_15 rfl rfl ?_
  refine x_putr 2 p3 (ty := .object "SettingsDesk$Trouble") hA (fun _ _ _ _ _ _ h => h.2.2.2.2 y_K_init _ _ _ _ rfl) d_K_init_16 ho (va_up_self _ _ _) (Nat.le_of_ble_eq_true rfl) rfl (by decide) lay_K (List.mem_cons_of_mem _ q181) rfl ty_K ty_K_ok nm_K rfl rfl (by decide +kernel) rfl rfl ?_
  exact x_vret d_K_init_19 rfl (fun _ h => by rw [bx_uu, bx_uu] at h; exact h) ⟨rfl, hw⟩
end
theorem q182 : (.methodLink "SettingsDesk$Merge" 3 ⟨"java/lang/Object", "<init>", "()V"⟩ : Cond) ∈ sdB0 := sd_tb3 215 rfl rfl
theorem q183 : (.fieldLink "SettingsDesk$Merge" 9 "SettingsDesk$Session" "candidate" "LSettingsDesk$Settings;" : Cond) ∈ sdB0 := sd_tb1 188 rfl rfl
theorem q184 : (.fieldLink "SettingsDesk$Merge" 18 "SettingsDesk$Session" "base" "LSettingsDesk$Settings;" : Cond) ∈ sdB0 := sd_tb1 191 rfl rfl
abbrev y_G_init : MethodName := ⟨"SettingsDesk$Merge", "<init>", "(LSettingsDesk$Session;LSettingsDesk$Settings;LSettingsDesk$Settings;LSettingsDesk$Trouble;)V"⟩
theorem d_G_init_0 : decode prog_5_method_1_code 0 = .ok (.aload_n 0, 1) := by decide +kernel
theorem d_G_init_1 : decode prog_5_method_1_code 1 = .ok (.invokespecial 3, 3) := by decide +kernel
theorem d_G_init_4 : decode prog_5_method_1_code 4 = .ok (.aload_n 0, 1) := by decide +kernel
theorem d_G_init_5 : decode prog_5_method_1_code 5 = .ok (.aload_n 1, 1) := by decide +kernel
theorem d_G_init_6 : decode prog_5_method_1_code 6 = .ok (.getfield 9, 3) := by decide +kernel
theorem d_G_init_9 : decode prog_5_method_1_code 9 = .ok (.putfield 15, 3) := by decide +kernel
theorem d_G_init_12 : decode prog_5_method_1_code 12 = .ok (.aload_n 0, 1) := by decide +kernel
theorem d_G_init_13 : decode prog_5_method_1_code 13 = .ok (.aload_n 1, 1) := by decide +kernel
theorem d_G_init_14 : decode prog_5_method_1_code 14 = .ok (.getfield 18, 3) := by decide +kernel
theorem d_G_init_17 : decode prog_5_method_1_code 17 = .ok (.putfield 21, 3) := by decide +kernel
theorem d_G_init_20 : decode prog_5_method_1_code 20 = .ok (.aload_n 0, 1) := by decide +kernel
theorem d_G_init_21 : decode prog_5_method_1_code 21 = .ok (.aload_n 2, 1) := by decide +kernel
theorem d_G_init_22 : decode prog_5_method_1_code 22 = .ok (.putfield 22, 3) := by decide +kernel
theorem d_G_init_25 : decode prog_5_method_1_code 25 = .ok (.aload_n 0, 1) := by decide +kernel
theorem d_G_init_26 : decode prog_5_method_1_code 26 = .ok (.aload_n 3, 1) := by decide +kernel
theorem d_G_init_27 : decode prog_5_method_1_code 27 = .ok (.putfield 25, 3) := by decide +kernel
theorem d_G_init_30 : decode prog_5_method_1_code 30 = .ok (.aload_n 0, 1) := by decide +kernel
theorem d_G_init_31 : decode prog_5_method_1_code 31 = .ok (.aload 4, 2) := by decide +kernel
theorem d_G_init_33 : decode prog_5_method_1_code 33 = .ok (.putfield 28, 3) := by decide +kernel
theorem d_G_init_36 : decode prog_5_method_1_code 36 = .ok (.return_, 1) := by decide +kernel
def Y_G_init : sdY := ("SettingsDesk$Merge", prog_5_method_1_code, 5, none, .code y_G_init prog_5_method_1_code 5 none :: sdB0, { frames := 1, cells := 0, slots := 0, locals := 12 }, 0, 0, [])
section
variable {l : Launch} {D : va_G} {dA : Nat → ClassId} {b n : Nat} {ad : Nat → Nat} {L : Nat → sdL} {sc : Option (Nat × Nat × (Nat → Int32))}
def w_G_init (o : Nat) (M : sdM) (Q : sdM → Prop) : Prop := Q M
set_option maxHeartbeats 1000000 in
theorem c_G_init {o p1 p2 p3 p4 : Nat} (hA : sd_ad b n ad) (ho : o < n) (hlo : L o = sd_O 7 [some none, some none, some none, some none, some none]) (hp1 : p1 < n) (hq1 : L p1 = sd_O 3 [none, some (some (p1 + 1)), some (some (p1 + 6))]) (hne1 : p1 ≠ o) {Q : sdM → Prop} {M : sdM} (hw : w_G_init o M  Q) : sd_CnF l (sdE0 sc) y_G_init Y_G_init.2.2.2.2.1 Y_G_init.2.2.2.2.2.1 0 0 D (sd_tys dA) b n ad L M [.ref o, .ref p1, .ref p2, .ref p3, .ref p4] (sd_H D (sdE0 sc).1 n ad (va_up L o (sd_O 7 [some (some (p1 + 1)), some (some (p1 + 6)), some (some p2), some (some p3), some (some p4)]))) (sd_qv Q) sd_xf := by
  refine sd_enterF (Y := Y_G_init) rfl rfl rfl rfl (Nat.le_of_ble_eq_true rfl) ?_
  unfold w_G_init at hw
  refine x_aload_n 0 0 d_G_init_0 rfl rfl ?_
  refine x_objInit d_G_init_1 (List.mem_cons_of_mem _ q182) (List.mem_cons_of_mem _ q64) (List.mem_cons_of_mem _ q65) (by decide) (Nat.le_of_ble_eq_true rfl) ?_
  refine x_aload_n 0 0 d_G_init_4 rfl rfl ?_
  refine x_aload_n 1 1 d_G_init_5 rfl rfl ?_
  refine x_getr 1 (p1 + 1) d_G_init_6 hp1 hq1 rfl rfl (by decide) lay_N (List.mem_cons_of_mem _ q183) rfl ?_
  refine x_putr 0 (p1 + 1) (ty := .object "SettingsDesk$Settings") hA (fun _ _ _ _ _ _ h => h.2.2.2.2 y_G_init _ _ _ _ rfl) d_G_init_9 ho hlo (Nat.le_of_ble_eq_true rfl) rfl (by decide) lay_G (List.mem_cons_of_mem _ q114) rfl ty_G ty_G_ok nm_G rfl rfl (by decide +kernel) rfl rfl ?_
  refine x_aload_n 0 0 d_G_init_12 rfl rfl ?_
  refine x_aload_n 1 1 d_G_init_13 rfl rfl ?_
  refine x_getr 2 (p1 + 6) d_G_init_14 hp1 ((va_up_ne _ _ hne1).trans hq1) rfl rfl (by decide) lay_N (List.mem_cons_of_mem _ q184) rfl ?_
  refine x_putr 1 (p1 + 6) (ty := .object "SettingsDesk$Settings") hA (fun _ _ _ _ _ _ h => h.2.2.2.2 y_G_init _ _ _ _ rfl) d_G_init_17 ho (va_up_self _ _ _) (Nat.le_of_ble_eq_true rfl) rfl (by decide) lay_G (List.mem_cons_of_mem _ q115) rfl ty_G ty_G_ok nm_G rfl rfl (by decide +kernel) rfl rfl ?_
  refine x_aload_n 0 0 d_G_init_20 rfl rfl ?_
  refine x_aload_n 2 2 d_G_init_21 rfl rfl ?_
  refine x_putr 2 p2 (ty := .object "SettingsDesk$Settings") hA (fun _ _ _ _ _ _ h => h.2.2.2.2 y_G_init _ _ _ _ rfl) d_G_init_22 ho (va_up_self _ _ _) (Nat.le_of_ble_eq_true rfl) rfl (by decide) lay_G (List.mem_cons_of_mem _ q116) rfl ty_G ty_G_ok nm_G rfl rfl (by decide +kernel) rfl rfl ?_
  refine x_aload_n 0 0 d_G_init_25 rfl rfl ?_
  refine x_aload_n 3 3 d_G_init_26 rfl rfl ?_
  refine x_putr 3 p3 (ty := .object "SettingsDesk$Settings") hA (fun _ _ _ _ _ _ h => h.2.2.2.2 y_G_init _ _ _ _ rfl) d_G_init_27 ho (va_up_self _ _ _) (Nat.le_of_ble_eq_true rfl) rfl (by decide) lay_G (List.mem_cons_of_mem _ q105) rfl ty_G ty_G_ok nm_G rfl rfl (by decide +kernel) rfl rfl ?_
  refine x_aload_n 0 0 d_G_init_30 rfl rfl ?_
  refine x_aload 4 4 d_G_init_31 rfl ?_
  refine x_putr 4 p4 (ty := .object "SettingsDesk$Trouble") hA (fun _ _ _ _ _ _ h => h.2.2.2.2 y_G_init _ _ _ _ rfl) d_G_init_33 ho (va_up_self _ _ _) (Nat.le_of_ble_eq_true rfl) rfl (by decide) lay_G (List.mem_cons_of_mem _ q117) rfl ty_G ty_G_ok nm_G rfl rfl (by decide +kernel) rfl rfl ?_
  exact x_vret d_G_init_36 rfl (fun _ h => by rw [bx_uu, bx_uu, bx_uu, bx_uu] at h; exact h) ⟨rfl, hw⟩
end
theorem q185 : (.methodLink "SettingsDesk$Difference" 3 ⟨"java/lang/Object", "<init>", "()V"⟩ : Cond) ∈ sdB0 := sd_tb4 76 rfl rfl
abbrev y_E_init : MethodName := ⟨"SettingsDesk$Difference", "<init>", "(LSettingsDesk$Settings;LSettingsDesk$Settings;I)V"⟩
theorem d_E_init_0 : decode prog_3_method_1_code 0 = .ok (.aload_n 0, 1) := by decide +kernel
theorem d_E_init_1 : decode prog_3_method_1_code 1 = .ok (.invokespecial 3, 3) := by decide +kernel
theorem d_E_init_4 : decode prog_3_method_1_code 4 = .ok (.aload_n 0, 1) := by decide +kernel
theorem d_E_init_5 : decode prog_3_method_1_code 5 = .ok (.iconst 0, 1) := by decide +kernel
theorem d_E_init_6 : decode prog_3_method_1_code 6 = .ok (.putfield 9, 3) := by decide +kernel
theorem d_E_init_9 : decode prog_3_method_1_code 9 = .ok (.aload_n 0, 1) := by decide +kernel
theorem d_E_init_10 : decode prog_3_method_1_code 10 = .ok (.iconst 0, 1) := by decide +kernel
theorem d_E_init_11 : decode prog_3_method_1_code 11 = .ok (.putfield 15, 3) := by decide +kernel
theorem d_E_init_14 : decode prog_3_method_1_code 14 = .ok (.aload_n 0, 1) := by decide +kernel
theorem d_E_init_15 : decode prog_3_method_1_code 15 = .ok (.iconst 0, 1) := by decide +kernel
theorem d_E_init_16 : decode prog_3_method_1_code 16 = .ok (.putfield 19, 3) := by decide +kernel
theorem d_E_init_19 : decode prog_3_method_1_code 19 = .ok (.aload_n 0, 1) := by decide +kernel
theorem d_E_init_20 : decode prog_3_method_1_code 20 = .ok (.iconst 0, 1) := by decide +kernel
theorem d_E_init_21 : decode prog_3_method_1_code 21 = .ok (.putfield 22, 3) := by decide +kernel
theorem d_E_init_24 : decode prog_3_method_1_code 24 = .ok (.aload_n 0, 1) := by decide +kernel
theorem d_E_init_25 : decode prog_3_method_1_code 25 = .ok (.iconst 0, 1) := by decide +kernel
theorem d_E_init_26 : decode prog_3_method_1_code 26 = .ok (.putfield 25, 3) := by decide +kernel
theorem d_E_init_29 : decode prog_3_method_1_code 29 = .ok (.aload_n 0, 1) := by decide +kernel
theorem d_E_init_30 : decode prog_3_method_1_code 30 = .ok (.aload_n 1, 1) := by decide +kernel
theorem d_E_init_31 : decode prog_3_method_1_code 31 = .ok (.putfield 28, 3) := by decide +kernel
theorem d_E_init_34 : decode prog_3_method_1_code 34 = .ok (.aload_n 0, 1) := by decide +kernel
theorem d_E_init_35 : decode prog_3_method_1_code 35 = .ok (.aload_n 2, 1) := by decide +kernel
theorem d_E_init_36 : decode prog_3_method_1_code 36 = .ok (.putfield 32, 3) := by decide +kernel
theorem d_E_init_39 : decode prog_3_method_1_code 39 = .ok (.aload_n 0, 1) := by decide +kernel
theorem d_E_init_40 : decode prog_3_method_1_code 40 = .ok (.iload_n 3, 1) := by decide +kernel
theorem d_E_init_41 : decode prog_3_method_1_code 41 = .ok (.putfield 35, 3) := by decide +kernel
theorem d_E_init_44 : decode prog_3_method_1_code 44 = .ok (.return_, 1) := by decide +kernel
def Y_E_init : sdY := ("SettingsDesk$Difference", prog_3_method_1_code, 4, none, .code y_E_init prog_3_method_1_code 4 none :: sdB0, { frames := 1, cells := 0, slots := 0, locals := 12 }, 0, 0, [])
section
variable {l : Launch} {D : va_G} {dA : Nat → ClassId} {b n : Nat} {ad : Nat → Nat} {L : Nat → sdL} {sc : Option (Nat × Nat × (Nat → Int32))}
def w_E_init (o : Nat) (M : sdM) (a3 : Int32) (Q : sdM → Prop) : Prop := sdB (0 : Int32) ∧ ∀ M1 : sdM, M1 = sd_s M o 3 (0 : Int32) → ∀ M2 : sdM, M2 = sd_s M1 o 4 (0 : Int32) → ∀ M3 : sdM, M3 = sd_s M2 o 5 (0 : Int32) → ∀ M4 : sdM, M4 = sd_s M3 o 6 (0 : Int32) → ∀ M5 : sdM, M5 = sd_s M4 o 7 (0 : Int32) → ∀ M6 : sdM, M6 = sd_s M5 o 2 a3 → Q M6
set_option maxHeartbeats 1000000 in
theorem c_E_init {o p1 p2 : Nat} {a3 : Int32} (hA : sd_ad b n ad) (ho : o < n) (hlo : L o = sd_O 9 [some none, some none, none, none, none, none, none, none]) {Q : sdM → Prop} {M : sdM} (hw : w_E_init o M a3 Q) : sd_CnF l (sdE0 sc) y_E_init Y_E_init.2.2.2.2.1 Y_E_init.2.2.2.2.2.1 0 0 D (sd_tys dA) b n ad L M [.ref o, .ref p1, .ref p2, .int a3] (sd_H D (sdE0 sc).1 n ad (va_up L o (sd_O 9 [some (some p1), some (some p2), none, none, none, none, none, none]))) (sd_qv Q) sd_xf := by
  refine sd_enterF (Y := Y_E_init) rfl rfl rfl rfl (Nat.le_of_ble_eq_true rfl) ?_
  unfold w_E_init at hw
  refine x_aload_n 0 0 d_E_init_0 rfl rfl ?_
  refine x_objInit d_E_init_1 (List.mem_cons_of_mem _ q185) (List.mem_cons_of_mem _ q64) (List.mem_cons_of_mem _ q65) (by decide) (Nat.le_of_ble_eq_true rfl) ?_
  refine x_aload_n 0 0 d_E_init_4 rfl rfl ?_
  refine x_iconst (v := 0) d_E_init_5 (by decide) ?_
  obtain ⟨hb1, hw⟩ := hw
  refine x_puti 3 (ty := .boolean) hA d_E_init_6 ho hlo rfl rfl (by decide) lay_E (List.mem_cons_of_mem _ q155) rfl ty_E ty_E_ok nm_E rfl (by decide +kernel) (sdB_n hb1) (sdB_f hb1) (fun M1 e1 => ?_)
  have hw := hw M1 e1
  clear e1
  refine x_aload_n 0 0 d_E_init_9 rfl rfl ?_
  refine x_iconst (v := 0) d_E_init_10 (by decide) ?_
  refine x_puti 4 (ty := .int) hA d_E_init_11 ho hlo rfl rfl (by decide) lay_E (List.mem_cons_of_mem _ q156) rfl ty_E ty_E_ok nm_E rfl (by decide +kernel) rfl rfl (fun M2 e2 => ?_)
  have hw := hw M2 e2
  clear e2
  refine x_aload_n 0 0 d_E_init_14 rfl rfl ?_
  refine x_iconst (v := 0) d_E_init_15 (by decide) ?_
  refine x_puti 5 (ty := .int) hA d_E_init_16 ho hlo rfl rfl (by decide) lay_E (List.mem_cons_of_mem _ q157) rfl ty_E ty_E_ok nm_E rfl (by decide +kernel) rfl rfl (fun M3 e3 => ?_)
  have hw := hw M3 e3
  clear e3
  refine x_aload_n 0 0 d_E_init_19 rfl rfl ?_
  refine x_iconst (v := 0) d_E_init_20 (by decide) ?_
  refine x_puti 6 (ty := .int) hA d_E_init_21 ho hlo rfl rfl (by decide) lay_E (List.mem_cons_of_mem _ q158) rfl ty_E ty_E_ok nm_E rfl (by decide +kernel) rfl rfl (fun M4 e4 => ?_)
  have hw := hw M4 e4
  clear e4
  refine x_aload_n 0 0 d_E_init_24 rfl rfl ?_
  refine x_iconst (v := 0) d_E_init_25 (by decide) ?_
  refine x_puti 7 (ty := .int) hA d_E_init_26 ho hlo rfl rfl (by decide) lay_E (List.mem_cons_of_mem _ q159) rfl ty_E ty_E_ok nm_E rfl (by decide +kernel) rfl rfl (fun M5 e5 => ?_)
  have hw := hw M5 e5
  clear e5
  refine x_aload_n 0 0 d_E_init_29 rfl rfl ?_
  refine x_aload_n 1 1 d_E_init_30 rfl rfl ?_
  refine x_putr 0 p1 (ty := .object "SettingsDesk$Settings") hA (fun _ _ _ _ _ _ h => h.2.2.2.2 y_E_init _ _ _ _ rfl) d_E_init_31 ho hlo (Nat.le_of_ble_eq_true rfl) rfl (by decide) lay_E (List.mem_cons_of_mem _ q160) rfl ty_E ty_E_ok nm_E rfl rfl (by decide +kernel) rfl rfl ?_
  refine x_aload_n 0 0 d_E_init_34 rfl rfl ?_
  refine x_aload_n 2 2 d_E_init_35 rfl rfl ?_
  refine x_putr 1 p2 (ty := .object "SettingsDesk$Settings") hA (fun _ _ _ _ _ _ h => h.2.2.2.2 y_E_init _ _ _ _ rfl) d_E_init_36 ho (va_up_self _ _ _) (Nat.le_of_ble_eq_true rfl) rfl (by decide) lay_E (List.mem_cons_of_mem _ q161) rfl ty_E ty_E_ok nm_E rfl rfl (by decide +kernel) rfl rfl ?_
  refine x_aload_n 0 0 d_E_init_39 rfl rfl ?_
  refine x_iload_n 3 3 d_E_init_40 rfl rfl ?_
  refine x_puti 2 (ty := .int) hA d_E_init_41 ho (va_up_self _ _ _) rfl rfl (by decide) lay_E (List.mem_cons_of_mem _ q154) rfl ty_E ty_E_ok nm_E rfl (by decide +kernel) rfl rfl (fun M6 e6 => ?_)
  have hw := hw M6 e6
  clear e6
  exact x_vret d_E_init_44 rfl (fun _ h => by rw [bx_uu] at h; exact h) ⟨rfl, hw⟩
end
