theorem q549 : (.methodLink "SettingsDeskModel" 164 ⟨"SettingsDeskModel", "insert", "(III)I"⟩ : Cond) ∈ sdB0 := sd_tb5 121 rfl rfl
theorem q550 : (.code ⟨"SettingsDeskModel", "insert", "(III)I"⟩ prog_12_method_14_code 6 (some .int) : Cond) ∈ sdB0 := sd_tb5 124 rfl rfl
theorem q551 : (.instanceMethod ⟨"SettingsDeskModel", "insert", "(III)I"⟩ : Cond) ∈ sdB0 := sd_tb5 123 rfl rfl
theorem q552 : (.selects "SettingsDeskModel" ⟨"SettingsDeskModel", "insert", "(III)I"⟩ ⟨"SettingsDeskModel", "insert", "(III)I"⟩ : Cond) ∈ sdB0 := sd_tbp (q := (⟨"SettingsDeskModel", "insert", "(III)I"⟩, 35)) (List.mem_of_getElem? (i := 30) rfl)
theorem q553 : (.methodLink "SettingsDeskModel" 160 ⟨"SettingsDeskModel", "remove", "(III)V"⟩ : Cond) ∈ sdB0 := sd_tb5 117 rfl rfl
theorem q554 : (.code ⟨"SettingsDeskModel", "remove", "(III)V"⟩ prog_12_method_15_code 5 none : Cond) ∈ sdB0 := sd_tb5 120 rfl rfl
theorem q555 : (.instanceMethod ⟨"SettingsDeskModel", "remove", "(III)V"⟩ : Cond) ∈ sdB0 := sd_tb5 119 rfl rfl
theorem q556 : (.selects "SettingsDeskModel" ⟨"SettingsDeskModel", "remove", "(III)V"⟩ ⟨"SettingsDeskModel", "remove", "(III)V"⟩ : Cond) ∈ sdB0 := sd_tbp (q := (⟨"SettingsDeskModel", "remove", "(III)V"⟩, 35)) (List.mem_of_getElem? (i := 29) rfl)
abbrev y_O_entry : MethodName := ⟨"SettingsDeskModel", "entry", "(IIIZ)Z"⟩
theorem d_O_entry_0 : decode prog_12_method_30_code 0 = .ok (.iload_n 1, 1) := by decide +kernel
theorem d_O_entry_1 : decode prog_12_method_30_code 1 = .ok (.invokestatic 157, 3) := by decide +kernel
theorem d_O_entry_4 : decode prog_12_method_30_code 4 = .ok (.ifCond .eq (15), 3) := by decide +kernel
theorem d_O_entry_7 : decode prog_12_method_30_code 7 = .ok (.aload_n 0, 1) := by decide +kernel
theorem d_O_entry_8 : decode prog_12_method_30_code 8 = .ok (.iload_n 2, 1) := by decide +kernel
theorem d_O_entry_9 : decode prog_12_method_30_code 9 = .ok (.invokevirtual 72, 3) := by decide +kernel
theorem d_O_entry_12 : decode prog_12_method_30_code 12 = .ok (.ifCond .eq (7), 3) := by decide +kernel
theorem d_O_entry_15 : decode prog_12_method_30_code 15 = .ok (.iconst 1, 1) := by decide +kernel
theorem d_O_entry_16 : decode prog_12_method_30_code 16 = .ok (.goto (4), 3) := by decide +kernel
theorem d_O_entry_19 : decode prog_12_method_30_code 19 = .ok (.iconst 0, 1) := by decide +kernel
theorem d_O_entry_20 : decode prog_12_method_30_code 20 = .ok (.istore 5, 2) := by decide +kernel
theorem d_O_entry_22 : decode prog_12_method_30_code 22 = .ok (.iload_n 2, 1) := by decide +kernel
theorem d_O_entry_23 : decode prog_12_method_30_code 23 = .ok (.ifCond .eq (18), 3) := by decide +kernel
theorem d_O_entry_26 : decode prog_12_method_30_code 26 = .ok (.iload_n 3, 1) := by decide +kernel
theorem d_O_entry_27 : decode prog_12_method_30_code 27 = .ok (.iconst 1, 1) := by decide +kernel
theorem d_O_entry_28 : decode prog_12_method_30_code 28 = .ok (.if_icmp .lt (13), 3) := by decide +kernel
theorem d_O_entry_31 : decode prog_12_method_30_code 31 = .ok (.iload_n 3, 1) := by decide +kernel
theorem d_O_entry_32 : decode prog_12_method_30_code 32 = .ok (.bipush (100), 2) := by decide +kernel
theorem d_O_entry_34 : decode prog_12_method_30_code 34 = .ok (.if_icmp .gt (7), 3) := by decide +kernel
theorem d_O_entry_37 : decode prog_12_method_30_code 37 = .ok (.iconst 1, 1) := by decide +kernel
theorem d_O_entry_38 : decode prog_12_method_30_code 38 = .ok (.goto (4), 3) := by decide +kernel
theorem d_O_entry_41 : decode prog_12_method_30_code 41 = .ok (.iconst 0, 1) := by decide +kernel
theorem d_O_entry_42 : decode prog_12_method_30_code 42 = .ok (.istore 6, 2) := by decide +kernel
theorem d_O_entry_44 : decode prog_12_method_30_code 44 = .ok (.aload_n 0, 1) := by decide +kernel
theorem d_O_entry_45 : decode prog_12_method_30_code 45 = .ok (.aload_n 0, 1) := by decide +kernel
theorem d_O_entry_46 : decode prog_12_method_30_code 46 = .ok (.invokevirtual 153, 3) := by decide +kernel
theorem d_O_entry_49 : decode prog_12_method_30_code 49 = .ok (.ifCond .eq (7), 3) := by decide +kernel
theorem d_O_entry_52 : decode prog_12_method_30_code 52 = .ok (.iconst 1, 1) := by decide +kernel
theorem d_O_entry_53 : decode prog_12_method_30_code 53 = .ok (.goto (35), 3) := by decide +kernel
theorem d_O_entry_56 : decode prog_12_method_30_code 56 = .ok (.iload 5, 2) := by decide +kernel
theorem d_O_entry_58 : decode prog_12_method_30_code 58 = .ok (.ifCond .ne (7), 3) := by decide +kernel
theorem d_O_entry_61 : decode prog_12_method_30_code 61 = .ok (.iconst 2, 1) := by decide +kernel
theorem d_O_entry_62 : decode prog_12_method_30_code 62 = .ok (.goto (26), 3) := by decide +kernel
theorem d_O_entry_65 : decode prog_12_method_30_code 65 = .ok (.aload_n 0, 1) := by decide +kernel
theorem d_O_entry_66 : decode prog_12_method_30_code 66 = .ok (.getfield 63, 3) := by decide +kernel
theorem d_O_entry_69 : decode prog_12_method_30_code 69 = .ok (.iload_n 1, 1) := by decide +kernel
theorem d_O_entry_70 : decode prog_12_method_30_code 70 = .ok (.baload, 1) := by decide +kernel
theorem d_O_entry_71 : decode prog_12_method_30_code 71 = .ok (.ifCond .ne (7), 3) := by decide +kernel
theorem d_O_entry_74 : decode prog_12_method_30_code 74 = .ok (.iconst 1, 1) := by decide +kernel
theorem d_O_entry_75 : decode prog_12_method_30_code 75 = .ok (.goto (13), 3) := by decide +kernel
theorem d_O_entry_78 : decode prog_12_method_30_code 78 = .ok (.iload 6, 2) := by decide +kernel
theorem d_O_entry_80 : decode prog_12_method_30_code 80 = .ok (.ifCond .eq (7), 3) := by decide +kernel
theorem d_O_entry_83 : decode prog_12_method_30_code 83 = .ok (.iconst 0, 1) := by decide +kernel
theorem d_O_entry_84 : decode prog_12_method_30_code 84 = .ok (.goto (4), 3) := by decide +kernel
theorem d_O_entry_87 : decode prog_12_method_30_code 87 = .ok (.iconst 3, 1) := by decide +kernel
theorem d_O_entry_88 : decode prog_12_method_30_code 88 = .ok (.putfield 69, 3) := by decide +kernel
theorem d_O_entry_91 : decode prog_12_method_30_code 91 = .ok (.aload_n 0, 1) := by decide +kernel
theorem d_O_entry_92 : decode prog_12_method_30_code 92 = .ok (.getfield 69, 3) := by decide +kernel
theorem d_O_entry_95 : decode prog_12_method_30_code 95 = .ok (.ifCond .le (5), 3) := by decide +kernel
theorem d_O_entry_98 : decode prog_12_method_30_code 98 = .ok (.iconst 0, 1) := by decide +kernel
theorem d_O_entry_99 : decode prog_12_method_30_code 99 = .ok (.ireturn, 1) := by decide +kernel
theorem d_O_entry_100 : decode prog_12_method_30_code 100 = .ok (.aload_n 0, 1) := by decide +kernel
theorem d_O_entry_101 : decode prog_12_method_30_code 101 = .ok (.bipush (10), 2) := by decide +kernel
theorem d_O_entry_103 : decode prog_12_method_30_code 103 = .ok (.iload_n 1, 1) := by decide +kernel
theorem d_O_entry_104 : decode prog_12_method_30_code 104 = .ok (.iadd, 1) := by decide +kernel
theorem d_O_entry_105 : decode prog_12_method_30_code 105 = .ok (.iload_n 2, 1) := by decide +kernel
theorem d_O_entry_106 : decode prog_12_method_30_code 106 = .ok (.iload_n 3, 1) := by decide +kernel
theorem d_O_entry_107 : decode prog_12_method_30_code 107 = .ok (.invokevirtual 115, 3) := by decide +kernel
theorem d_O_entry_110 : decode prog_12_method_30_code 110 = .ok (.istore 7, 2) := by decide +kernel
theorem d_O_entry_112 : decode prog_12_method_30_code 112 = .ok (.iload 7, 2) := by decide +kernel
theorem d_O_entry_114 : decode prog_12_method_30_code 114 = .ok (.ifCond .lt (7), 3) := by decide +kernel
theorem d_O_entry_117 : decode prog_12_method_30_code 117 = .ok (.iconst 1, 1) := by decide +kernel
theorem d_O_entry_118 : decode prog_12_method_30_code 118 = .ok (.goto (4), 3) := by decide +kernel
theorem d_O_entry_121 : decode prog_12_method_30_code 121 = .ok (.iconst 0, 1) := by decide +kernel
theorem d_O_entry_122 : decode prog_12_method_30_code 122 = .ok (.istore 8, 2) := by decide +kernel
theorem d_O_entry_124 : decode prog_12_method_30_code 124 = .ok (.aload_n 0, 1) := by decide +kernel
theorem d_O_entry_125 : decode prog_12_method_30_code 125 = .ok (.iload 4, 2) := by decide +kernel
theorem d_O_entry_127 : decode prog_12_method_30_code 127 = .ok (.ifCond .eq (30), 3) := by decide +kernel
theorem d_O_entry_130 : decode prog_12_method_30_code 130 = .ok (.iload 8, 2) := by decide +kernel
theorem d_O_entry_132 : decode prog_12_method_30_code 132 = .ok (.ifCond .ne (25), 3) := by decide +kernel
theorem d_O_entry_135 : decode prog_12_method_30_code 135 = .ok (.aload_n 0, 1) := by decide +kernel
theorem d_O_entry_136 : decode prog_12_method_30_code 136 = .ok (.getfield 51, 3) := by decide +kernel
theorem d_O_entry_139 : decode prog_12_method_30_code 139 = .ok (.iconst 4, 1) := by decide +kernel
theorem d_O_entry_140 : decode prog_12_method_30_code 140 = .ok (.bipush (10), 2) := by decide +kernel
theorem d_O_entry_142 : decode prog_12_method_30_code 142 = .ok (.iload_n 1, 1) := by decide +kernel
theorem d_O_entry_143 : decode prog_12_method_30_code 143 = .ok (.iadd, 1) := by decide +kernel
theorem d_O_entry_144 : decode prog_12_method_30_code 144 = .ok (.imul, 1) := by decide +kernel
theorem d_O_entry_145 : decode prog_12_method_30_code 145 = .ok (.iload_n 2, 1) := by decide +kernel
theorem d_O_entry_146 : decode prog_12_method_30_code 146 = .ok (.iadd, 1) := by decide +kernel
theorem d_O_entry_147 : decode prog_12_method_30_code 147 = .ok (.iaload, 1) := by decide +kernel
theorem d_O_entry_148 : decode prog_12_method_30_code 148 = .ok (.bipush (6), 2) := by decide +kernel
theorem d_O_entry_150 : decode prog_12_method_30_code 150 = .ok (.if_icmp .ne (7), 3) := by decide +kernel
theorem d_O_entry_153 : decode prog_12_method_30_code 153 = .ok (.iconst 4, 1) := by decide +kernel
theorem d_O_entry_154 : decode prog_12_method_30_code 154 = .ok (.goto (4), 3) := by decide +kernel
theorem d_O_entry_157 : decode prog_12_method_30_code 157 = .ok (.iconst 0, 1) := by decide +kernel
theorem d_O_entry_158 : decode prog_12_method_30_code 158 = .ok (.putfield 69, 3) := by decide +kernel
theorem d_O_entry_161 : decode prog_12_method_30_code 161 = .ok (.aload_n 0, 1) := by decide +kernel
theorem d_O_entry_162 : decode prog_12_method_30_code 162 = .ok (.getfield 69, 3) := by decide +kernel
theorem d_O_entry_165 : decode prog_12_method_30_code 165 = .ok (.ifCond .gt (10), 3) := by decide +kernel
theorem d_O_entry_168 : decode prog_12_method_30_code 168 = .ok (.iload 8, 2) := by decide +kernel
theorem d_O_entry_170 : decode prog_12_method_30_code 170 = .ok (.iload 4, 2) := by decide +kernel
theorem d_O_entry_172 : decode prog_12_method_30_code 172 = .ok (.if_icmp .ne (5), 3) := by decide +kernel
theorem d_O_entry_175 : decode prog_12_method_30_code 175 = .ok (.iconst 0, 1) := by decide +kernel
theorem d_O_entry_176 : decode prog_12_method_30_code 176 = .ok (.ireturn, 1) := by decide +kernel
theorem d_O_entry_177 : decode prog_12_method_30_code 177 = .ok (.iload 8, 2) := by decide +kernel
theorem d_O_entry_179 : decode prog_12_method_30_code 179 = .ok (.ifCond .eq (17), 3) := by decide +kernel
theorem d_O_entry_182 : decode prog_12_method_30_code 182 = .ok (.aload_n 0, 1) := by decide +kernel
theorem d_O_entry_183 : decode prog_12_method_30_code 183 = .ok (.bipush (10), 2) := by decide +kernel
theorem d_O_entry_185 : decode prog_12_method_30_code 185 = .ok (.iload_n 1, 1) := by decide +kernel
theorem d_O_entry_186 : decode prog_12_method_30_code 186 = .ok (.iadd, 1) := by decide +kernel
theorem d_O_entry_187 : decode prog_12_method_30_code 187 = .ok (.iload_n 2, 1) := by decide +kernel
theorem d_O_entry_188 : decode prog_12_method_30_code 188 = .ok (.iload 7, 2) := by decide +kernel
theorem d_O_entry_190 : decode prog_12_method_30_code 190 = .ok (.invokevirtual 160, 3) := by decide +kernel
theorem d_O_entry_193 : decode prog_12_method_30_code 193 = .ok (.goto (15), 3) := by decide +kernel
theorem d_O_entry_196 : decode prog_12_method_30_code 196 = .ok (.aload_n 0, 1) := by decide +kernel
theorem d_O_entry_197 : decode prog_12_method_30_code 197 = .ok (.bipush (10), 2) := by decide +kernel
theorem d_O_entry_199 : decode prog_12_method_30_code 199 = .ok (.iload_n 1, 1) := by decide +kernel
theorem d_O_entry_200 : decode prog_12_method_30_code 200 = .ok (.iadd, 1) := by decide +kernel
theorem d_O_entry_201 : decode prog_12_method_30_code 201 = .ok (.iload_n 2, 1) := by decide +kernel
theorem d_O_entry_202 : decode prog_12_method_30_code 202 = .ok (.iload_n 3, 1) := by decide +kernel
theorem d_O_entry_203 : decode prog_12_method_30_code 203 = .ok (.invokevirtual 164, 3) := by decide +kernel
theorem d_O_entry_206 : decode prog_12_method_30_code 206 = .ok (.istore 7, 2) := by decide +kernel
theorem d_O_entry_208 : decode prog_12_method_30_code 208 = .ok (.iconst 1, 1) := by decide +kernel
theorem d_O_entry_209 : decode prog_12_method_30_code 209 = .ok (.ireturn, 1) := by decide +kernel
def Y_O_entry : sdY := ("SettingsDeskModel", prog_12_method_30_code, 9, (some .boolean), .code y_O_entry prog_12_method_30_code 9 (some .boolean) :: sdB0, { frames := 2, cells := 0, slots := 0, locals := 48 }, 0, 0, [])
theorem cw_O_entry_O_isSession_157 : sd_cwS Y_O_entry Y_O_isSession y_O_isSession 157 1 := ⟨sd_goodS q524 q526 q459 q525, ⟨_, rfl⟩, ⟨rfl, rfl, rfl, rfl⟩, ⟨by decide, by decide, by decide +kernel⟩, ⟨by decide, by decide⟩⟩
theorem cw_O_entry_O_isList_72 : sd_cwV Y_O_entry Y_O_isList y_O_isList 72 1 "SettingsDeskModel" := ⟨sd_goodV q455 q457 q458 q459 q456, ⟨_, rfl⟩, ⟨rfl, rfl, rfl, rfl⟩, ⟨rfl, by decide, by decide, by decide +kernel⟩, ⟨by decide, by decide⟩⟩
theorem cw_O_entry_O_isDown_153 : sd_cwV Y_O_entry Y_O_isDown y_O_isDown 153 0 "SettingsDeskModel" := ⟨sd_goodV q520 q522 q523 q459 q521, ⟨_, rfl⟩, ⟨rfl, rfl, rfl, rfl⟩, ⟨rfl, by decide, by decide, by decide +kernel⟩, ⟨by decide, by decide⟩⟩
theorem cw_O_entry_O_find_115 : sd_cwV Y_O_entry Y_O_find y_O_find 115 3 "SettingsDeskModel" := ⟨sd_goodV q492 q494 q495 q459 q493, ⟨_, rfl⟩, ⟨rfl, rfl, rfl, rfl⟩, ⟨rfl, by decide, by decide, by decide +kernel⟩, ⟨by decide, by decide⟩⟩
theorem cw_O_entry_O_insert_164 : sd_cwV Y_O_entry Y_O_insert y_O_insert 164 3 "SettingsDeskModel" := ⟨sd_goodV q549 q551 q552 q459 q550, ⟨_, rfl⟩, ⟨rfl, rfl, rfl, rfl⟩, ⟨rfl, by decide, by decide, by decide +kernel⟩, ⟨by decide, by decide⟩⟩
theorem cw_O_entry_O_remove_160 : sd_cwV Y_O_entry Y_O_remove y_O_remove 160 3 "SettingsDeskModel" := ⟨sd_goodV q553 q555 q556 q459 q554, ⟨_, rfl⟩, ⟨rfl, rfl, rfl, rfl⟩, ⟨rfl, by decide, by decide, by decide +kernel⟩, ⟨by decide, by decide⟩⟩
section
variable {l : Launch} {D : va_G} {dA : Nat → ClassId} {b n : Nat} {ad : Nat → Nat} {L : Nat → sdL} {sc : Option (Nat × Nat × (Nat → Int32))}
def k_O_entry_208 (Q : Int32 → sdM → Prop) (M : sdM) : Prop := sdB (1 : Int32) ∧ Q (1 : Int32) M
set_option maxHeartbeats 1000000 in
theorem t_O_entry_208 (hA : sd_ad b n ad) (hT : l.stackTraces = false) (hO : isO n L dA) {Q : Int32 → sdM → Prop} (M : sdM) (hw : k_O_entry_208 Q M ) : sdW l (sdE0 sc) Y_O_entry D (sd_tys dA) b n ad L ad (sd_H D (sdE0 sc).1 n ad L) (sd_qi Q) sd_xf 208 [] [] M 0 0 := by
  unfold k_O_entry_208 at hw
  refine x_iconst (v := 1) d_O_entry_208 (by decide) ?_
  exact x_zret d_O_entry_209 rfl (sdB_n hw.1) (fun _ h => h) ⟨_, rfl, hw.2⟩
def k_O_entry_175 (Q : Int32 → sdM → Prop) (M : sdM) : Prop := sdB (0 : Int32) ∧ Q (0 : Int32) M
set_option maxHeartbeats 1000000 in
theorem t_O_entry_175 (hA : sd_ad b n ad) (hT : l.stackTraces = false) (hO : isO n L dA) {Q : Int32 → sdM → Prop} (M : sdM) (hw : k_O_entry_175 Q M ) : sdW l (sdE0 sc) Y_O_entry D (sd_tys dA) b n ad L ad (sd_H D (sdE0 sc).1 n ad L) (sd_qi Q) sd_xf 175 [] [] M 0 0 := by
  unfold k_O_entry_175 at hw
  refine x_iconst (v := 0) d_O_entry_175 (by decide) ?_
  exact x_zret d_O_entry_176 rfl (sdB_n hw.1) (fun _ h => h) ⟨_, rfl, hw.2⟩
def k_O_entry_158 (Q : Int32 → sdM → Prop) (M : sdM) (x1 : Int32) (x2 : Int32) (x3 : Int32) (x4 : Int32) (x7 : Int32) (x8 : Int32) (s1 : Int32) : Prop := ∀ M18 : sdM, M18 = sd_s M 116 0 s1 → (0 < (M18 116 0) → k_O_entry_175 Q M18) ∧ (¬ 0 < (M18 116 0) → (¬ x8 = x4 → (x8 = 0 → w_O_insert M18 ((10 : Int32) + x1) x2 x3 (fun r21 M20 => k_O_entry_208 Q M20)) ∧ (¬ x8 = 0 → w_O_remove M18 ((10 : Int32) + x1) x2 x7 (fun M22 => k_O_entry_208 Q M22))) ∧ (x8 = x4 → k_O_entry_175 Q M18))
set_option maxHeartbeats 1000000 in
theorem t_O_entry_158 (hA : sd_ad b n ad) (hT : l.stackTraces = false) (hO : isO n L dA) {Q : Int32 → sdM → Prop} (M : sdM) (x1 : Int32) (x2 : Int32) (x3 : Int32) (x4 : Int32) (x7 : Int32) (x8 : Int32) (s1 : Int32) (hw : k_O_entry_158 Q M x1 x2 x3 x4 x7 x8 s1) : sdW l (sdE0 sc) Y_O_entry D (sd_tys dA) b n ad L ad (sd_H D (sdE0 sc).1 n ad L) (sd_qi Q) sd_xf 158 [(0, .ref 116), (1, .int x1), (2, .int x2), (3, .int x3), (4, .int x4), (7, .int x7), (8, .int x8)] [.int s1, .ref 116] M 0 0 := by
  unfold k_O_entry_158 at hw
  refine x_puti 0 (ty := .int) hA d_O_entry_158 hO.1 hO.2.1 rfl rfl (by decide) lay_O (List.mem_cons_of_mem _ q446) rfl ty_O ty_O_ok nm_O rfl (by decide +kernel) rfl rfl (fun M18 e19 => ?_)
  have hw := hw M18 e19
  clear e19
  refine x_aload_n 0 0 d_O_entry_161 rfl rfl ?_
  refine x_geti 0 d_O_entry_162 hO.1 hO.2.1 rfl rfl (by decide) lay_O (List.mem_cons_of_mem _ q446) rfl ?_
  refine x_if_gt 175 d_O_entry_165 rfl (fun hc => ?_) (fun hc => ?_)
  · have hw := hw.1 hc
    refine x_sub [] [] rfl ?_
    exact t_O_entry_175 hA hT hO M18 hw
  · have hw := hw.2 hc
    refine x_iload 8 6 d_O_entry_168 rfl ?_
    refine x_iload 4 4 d_O_entry_170 rfl ?_
    refine x_icmp_ne 177 d_O_entry_172 rfl (fun hc => ?_) (fun hc => ?_)
    · have hw := hw.1 hc
      refine x_iload 8 6 d_O_entry_177 rfl ?_
      refine x_if_eq 196 d_O_entry_179 rfl (fun hc => ?_) (fun hc => ?_)
      · have hw := hw.1 hc
        refine x_aload_n 0 0 d_O_entry_196 rfl rfl ?_
        refine x_bipush (v := 10) d_O_entry_197 (by decide) ?_
        refine x_iload_n 1 1 d_O_entry_199 rfl rfl ?_
        refine x_iadd d_O_entry_200 ?_
        refine x_iload_n 2 2 d_O_entry_201 rfl rfl ?_
        refine x_iload_n 3 3 d_O_entry_202 rfl rfl ?_
        refine x_callVi (As := [.int ((10 : Int32) + x1), .int x2, .int x3]) (t := 116) (rest := []) (rc := 0) (rs := 0) (c_O_insert hA hT hO hw) cw_O_entry_O_insert_164 hO.1 hO.2.1 rfl d_O_entry_203 rfl rfl (Nat.le_of_ble_eq_true rfl) rfl (fun _ _ h => h.elim) (fun _ _ h => h) (fun r21 M20 hw => ?_)
        refine x_istore 7 [(7, .int r21), (0, .ref 116), (1, .int x1), (2, .int x2), (3, .int x3), (4, .int x4), (8, .int x8)] d_O_entry_206 (by decide) rfl ?_
        refine x_sub [] [] rfl ?_
        exact t_O_entry_208 hA hT hO M20 hw
      · have hw := hw.2 hc
        refine x_aload_n 0 0 d_O_entry_182 rfl rfl ?_
        refine x_bipush (v := 10) d_O_entry_183 (by decide) ?_
        refine x_iload_n 1 1 d_O_entry_185 rfl rfl ?_
        refine x_iadd d_O_entry_186 ?_
        refine x_iload_n 2 2 d_O_entry_187 rfl rfl ?_
        refine x_iload 7 5 d_O_entry_188 rfl ?_
        refine x_callVv (As := [.int ((10 : Int32) + x1), .int x2, .int x7]) (t := 116) (rest := []) (rc := 0) (rs := 0) (c_O_remove hA hT hO hw) cw_O_entry_O_remove_160 hO.1 hO.2.1 rfl d_O_entry_190 rfl rfl (Nat.le_of_ble_eq_true rfl) rfl (fun _ _ h => h.elim) (fun _ _ h => h) (fun M22 hw => ?_)
        refine x_goto 208 d_O_entry_193 rfl ?_
        refine x_sub [] [] rfl ?_
        exact t_O_entry_208 hA hT hO M22 hw
    · have hw := hw.2 hc
      refine x_sub [] [] rfl ?_
      exact t_O_entry_175 hA hT hO M18 hw
def k_O_entry_157 (Q : Int32 → sdM → Prop) (M : sdM) (x1 : Int32) (x2 : Int32) (x3 : Int32) (x4 : Int32) (x7 : Int32) (x8 : Int32) : Prop := k_O_entry_158 Q M x1 x2 x3 x4 x7 x8 (0 : Int32)
set_option maxHeartbeats 1000000 in
theorem t_O_entry_157 (hA : sd_ad b n ad) (hT : l.stackTraces = false) (hO : isO n L dA) {Q : Int32 → sdM → Prop} (M : sdM) (x1 : Int32) (x2 : Int32) (x3 : Int32) (x4 : Int32) (x7 : Int32) (x8 : Int32) (hw : k_O_entry_157 Q M x1 x2 x3 x4 x7 x8) : sdW l (sdE0 sc) Y_O_entry D (sd_tys dA) b n ad L ad (sd_H D (sdE0 sc).1 n ad L) (sd_qi Q) sd_xf 157 [(0, .ref 116), (1, .int x1), (2, .int x2), (3, .int x3), (4, .int x4), (7, .int x7), (8, .int x8)] [.ref 116] M 0 0 := by
  unfold k_O_entry_157 at hw
  refine x_iconst (v := 0) d_O_entry_157 (by decide) ?_
  exact t_O_entry_158 hA hT hO M x1 x2 x3 x4 x7 x8 (0 : Int32) hw
def k_O_entry_122 (Q : Int32 → sdM → Prop) (M : sdM) (x1 : Int32) (x2 : Int32) (x3 : Int32) (x4 : Int32) (x7 : Int32) (s0 : Int32) : Prop := (x4 = 0 → k_O_entry_157 Q M x1 x2 x3 x4 x7 s0) ∧ (¬ x4 = 0 → (¬ s0 = 0 → k_O_entry_157 Q M x1 x2 x3 x4 x7 s0) ∧ (s0 = 0 → vp_in (((4 : Int32) * ((10 : Int32) + x1)) + x2) 68 ∧ (¬ (M 129 (((4 : Int32) * ((10 : Int32) + x1)) + x2).toNatClampNeg) = (6 : Int32) → k_O_entry_157 Q M x1 x2 x3 x4 x7 s0) ∧ ((M 129 (((4 : Int32) * ((10 : Int32) + x1)) + x2).toNatClampNeg) = (6 : Int32) → k_O_entry_158 Q M x1 x2 x3 x4 x7 s0 (4 : Int32))))
set_option maxHeartbeats 1000000 in
theorem t_O_entry_122 (hA : sd_ad b n ad) (hT : l.stackTraces = false) (hO : isO n L dA) {Q : Int32 → sdM → Prop} (M : sdM) (x1 : Int32) (x2 : Int32) (x3 : Int32) (x4 : Int32) (x7 : Int32) (s0 : Int32) (hw : k_O_entry_122 Q M x1 x2 x3 x4 x7 s0) : sdW l (sdE0 sc) Y_O_entry D (sd_tys dA) b n ad L ad (sd_H D (sdE0 sc).1 n ad L) (sd_qi Q) sd_xf 122 [(0, .ref 116), (1, .int x1), (2, .int x2), (3, .int x3), (4, .int x4), (7, .int x7)] [.int s0] M 0 0 := by
  unfold k_O_entry_122 at hw
  refine x_istore 8 [(8, .int s0), (0, .ref 116), (1, .int x1), (2, .int x2), (3, .int x3), (4, .int x4), (7, .int x7)] d_O_entry_122 (by decide) rfl ?_
  refine x_aload_n 0 1 d_O_entry_124 rfl rfl ?_
  refine x_iload 4 5 d_O_entry_125 rfl ?_
  refine x_if_eq 157 d_O_entry_127 rfl (fun hc => ?_) (fun hc => ?_)
  · have hw := hw.1 hc
    refine x_sub [1, 2, 3, 4, 5, 6, 0] [(0, .ref 116), (1, .int x1), (2, .int x2), (3, .int x3), (4, .int x4), (7, .int x7), (8, .int s0)] rfl ?_
    exact t_O_entry_157 hA hT hO M x1 x2 x3 x4 x7 s0 hw
  · have hw := hw.2 hc
    refine x_iload 8 0 d_O_entry_130 rfl ?_
    refine x_if_ne 157 d_O_entry_132 rfl (fun hc => ?_) (fun hc => ?_)
    · have hw := hw.1 hc
      refine x_sub [1, 2, 3, 4, 5, 6, 0] [(0, .ref 116), (1, .int x1), (2, .int x2), (3, .int x3), (4, .int x4), (7, .int x7), (8, .int s0)] rfl ?_
      exact t_O_entry_157 hA hT hO M x1 x2 x3 x4 x7 s0 hw
    · have hw := hw.2 hc
      refine x_aload_n 0 1 d_O_entry_135 rfl rfl ?_
      refine x_getr 16 129 d_O_entry_136 hO.1 hO.2.1 rfl rfl (by decide) lay_O (List.mem_cons_of_mem _ q478) rfl ?_
      refine x_iconst (v := 4) d_O_entry_139 (by decide) ?_
      refine x_bipush (v := 10) d_O_entry_140 (by decide) ?_
      refine x_iload_n 1 2 d_O_entry_142 rfl rfl ?_
      refine x_iadd d_O_entry_143 ?_
      refine x_imul d_O_entry_144 ?_
      refine x_iload_n 2 3 d_O_entry_145 rfl rfl ?_
      refine x_iadd d_O_entry_146 ?_
      obtain ⟨hi23, hw⟩ := hw
      refine x_iald d_O_entry_147 hO.sizes.1 hO.sizes.2 rfl hi23 ?_
      refine x_bipush (v := 6) d_O_entry_148 (by decide) ?_
      refine x_icmp_ne 157 d_O_entry_150 rfl (fun hc => ?_) (fun hc => ?_)
      · have hw := hw.1 hc
        refine x_sub [1, 2, 3, 4, 5, 6, 0] [(0, .ref 116), (1, .int x1), (2, .int x2), (3, .int x3), (4, .int x4), (7, .int x7), (8, .int s0)] rfl ?_
        exact t_O_entry_157 hA hT hO M x1 x2 x3 x4 x7 s0 hw
      · have hw := hw.2 hc
        refine x_iconst (v := 4) d_O_entry_153 (by decide) ?_
        refine x_goto 158 d_O_entry_154 rfl ?_
        refine x_sub [1, 2, 3, 4, 5, 6, 0] [(0, .ref 116), (1, .int x1), (2, .int x2), (3, .int x3), (4, .int x4), (7, .int x7), (8, .int s0)] rfl ?_
        exact t_O_entry_158 hA hT hO M x1 x2 x3 x4 x7 s0 (4 : Int32) hw
def k_O_entry_88 (Q : Int32 → sdM → Prop) (M : sdM) (x1 : Int32) (x2 : Int32) (x3 : Int32) (x4 : Int32) (s1 : Int32) : Prop := ∀ M24 : sdM, M24 = sd_s M 116 0 s1 → ((M24 116 0) ≤ 0 → w_O_find M24 ((10 : Int32) + x1) x2 x3 (fun r27 M26 => (r27 < 0 → k_O_entry_122 Q M26 x1 x2 x3 x4 r27 (0 : Int32)) ∧ (¬ r27 < 0 → k_O_entry_122 Q M26 x1 x2 x3 x4 r27 (1 : Int32)))) ∧ (¬ (M24 116 0) ≤ 0 → sdB (0 : Int32) ∧ Q (0 : Int32) M24)
set_option maxHeartbeats 1000000 in
theorem t_O_entry_88 (hA : sd_ad b n ad) (hT : l.stackTraces = false) (hO : isO n L dA) {Q : Int32 → sdM → Prop} (M : sdM) (x1 : Int32) (x2 : Int32) (x3 : Int32) (x4 : Int32) (s1 : Int32) (hw : k_O_entry_88 Q M x1 x2 x3 x4 s1) : sdW l (sdE0 sc) Y_O_entry D (sd_tys dA) b n ad L ad (sd_H D (sdE0 sc).1 n ad L) (sd_qi Q) sd_xf 88 [(0, .ref 116), (1, .int x1), (2, .int x2), (3, .int x3), (4, .int x4)] [.int s1, .ref 116] M 0 0 := by
  unfold k_O_entry_88 at hw
  refine x_puti 0 (ty := .int) hA d_O_entry_88 hO.1 hO.2.1 rfl rfl (by decide) lay_O (List.mem_cons_of_mem _ q446) rfl ty_O ty_O_ok nm_O rfl (by decide +kernel) rfl rfl (fun M24 e25 => ?_)
  have hw := hw M24 e25
  clear e25
  refine x_aload_n 0 0 d_O_entry_91 rfl rfl ?_
  refine x_geti 0 d_O_entry_92 hO.1 hO.2.1 rfl rfl (by decide) lay_O (List.mem_cons_of_mem _ q446) rfl ?_
  refine x_if_le 100 d_O_entry_95 rfl (fun hc => ?_) (fun hc => ?_)
  · have hw := hw.1 hc
    refine x_aload_n 0 0 d_O_entry_100 rfl rfl ?_
    refine x_bipush (v := 10) d_O_entry_101 (by decide) ?_
    refine x_iload_n 1 1 d_O_entry_103 rfl rfl ?_
    refine x_iadd d_O_entry_104 ?_
    refine x_iload_n 2 2 d_O_entry_105 rfl rfl ?_
    refine x_iload_n 3 3 d_O_entry_106 rfl rfl ?_
    refine x_callVi (As := [.int ((10 : Int32) + x1), .int x2, .int x3]) (t := 116) (rest := []) (rc := 0) (rs := 0) (c_O_find hA hT hO hw) cw_O_entry_O_find_115 hO.1 hO.2.1 rfl d_O_entry_107 rfl rfl (Nat.le_of_ble_eq_true rfl) rfl (fun _ _ h => h.elim) (fun _ _ h => h) (fun r27 M26 hw => ?_)
    refine x_istore 7 [(7, .int r27), (0, .ref 116), (1, .int x1), (2, .int x2), (3, .int x3), (4, .int x4)] d_O_entry_110 (by decide) rfl ?_
    refine x_iload 7 0 d_O_entry_112 rfl ?_
    refine x_if_lt 121 d_O_entry_114 rfl (fun hc => ?_) (fun hc => ?_)
    · have hw := hw.1 hc
      refine x_iconst (v := 0) d_O_entry_121 (by decide) ?_
      refine x_sub [1, 2, 3, 4, 5, 0] [(0, .ref 116), (1, .int x1), (2, .int x2), (3, .int x3), (4, .int x4), (7, .int r27)] rfl ?_
      exact t_O_entry_122 hA hT hO M26 x1 x2 x3 x4 r27 (0 : Int32) hw
    · have hw := hw.2 hc
      refine x_iconst (v := 1) d_O_entry_117 (by decide) ?_
      refine x_goto 122 d_O_entry_118 rfl ?_
      refine x_sub [1, 2, 3, 4, 5, 0] [(0, .ref 116), (1, .int x1), (2, .int x2), (3, .int x3), (4, .int x4), (7, .int r27)] rfl ?_
      exact t_O_entry_122 hA hT hO M26 x1 x2 x3 x4 r27 (1 : Int32) hw
  · have hw := hw.2 hc
    refine x_iconst (v := 0) d_O_entry_98 (by decide) ?_
    exact x_zret d_O_entry_99 rfl (sdB_n hw.1) (fun _ h => h) ⟨_, rfl, hw.2⟩
def k_O_entry_42 (Q : Int32 → sdM → Prop) (M : sdM) (x1 : Int32) (x2 : Int32) (x3 : Int32) (x4 : Int32) (x5 : Int32) (s0 : Int32) : Prop := w_O_isDown M (fun r29 M28 => (r29 = 0 → (¬ x5 = 0 → vp_in x1 3 ∧ (¬ (M28 133 x1.toNatClampNeg) = 0 → (s0 = 0 → k_O_entry_88 Q M28 x1 x2 x3 x4 (3 : Int32)) ∧ (¬ s0 = 0 → k_O_entry_88 Q M28 x1 x2 x3 x4 (0 : Int32))) ∧ ((M28 133 x1.toNatClampNeg) = 0 → k_O_entry_88 Q M28 x1 x2 x3 x4 (1 : Int32))) ∧ (x5 = 0 → k_O_entry_88 Q M28 x1 x2 x3 x4 (2 : Int32))) ∧ (¬ r29 = 0 → k_O_entry_88 Q M28 x1 x2 x3 x4 (1 : Int32)))
set_option maxHeartbeats 1000000 in
theorem t_O_entry_42 (hA : sd_ad b n ad) (hT : l.stackTraces = false) (hO : isO n L dA) {Q : Int32 → sdM → Prop} (M : sdM) (x1 : Int32) (x2 : Int32) (x3 : Int32) (x4 : Int32) (x5 : Int32) (s0 : Int32) (hw : k_O_entry_42 Q M x1 x2 x3 x4 x5 s0) : sdW l (sdE0 sc) Y_O_entry D (sd_tys dA) b n ad L ad (sd_H D (sdE0 sc).1 n ad L) (sd_qi Q) sd_xf 42 [(0, .ref 116), (1, .int x1), (2, .int x2), (3, .int x3), (4, .int x4), (5, .int x5)] [.int s0] M 0 0 := by
  unfold k_O_entry_42 at hw
  refine x_istore 6 [(6, .int s0), (0, .ref 116), (1, .int x1), (2, .int x2), (3, .int x3), (4, .int x4), (5, .int x5)] d_O_entry_42 (by decide) rfl ?_
  refine x_aload_n 0 1 d_O_entry_44 rfl rfl ?_
  refine x_aload_n 0 1 d_O_entry_45 rfl rfl ?_
  refine x_callVi (As := []) (t := 116) (rest := [.ref 116]) (rc := 0) (rs := 0) (c_O_isDown hA hT hO hw) cw_O_entry_O_isDown_153 hO.1 hO.2.1 rfl d_O_entry_46 rfl rfl (Nat.le_of_ble_eq_true rfl) rfl (fun _ _ h => h.elim) (fun _ _ h => h) (fun r29 M28 hw => ?_)
  refine x_if_eq 56 d_O_entry_49 rfl (fun hc => ?_) (fun hc => ?_)
  · have hw := hw.1 hc
    refine x_iload 5 6 d_O_entry_56 rfl ?_
    refine x_if_ne 65 d_O_entry_58 rfl (fun hc => ?_) (fun hc => ?_)
    · have hw := hw.1 hc
      refine x_aload_n 0 1 d_O_entry_65 rfl rfl ?_
      refine x_getr 22 133 d_O_entry_66 hO.1 hO.2.1 rfl rfl (by decide) lay_O (List.mem_cons_of_mem _ q519) rfl ?_
      refine x_iload_n 1 2 d_O_entry_69 rfl rfl ?_
      obtain ⟨hi30, hw⟩ := hw
      refine x_zald d_O_entry_70 hO.begun.1 hO.begun.2 rfl hi30 ?_
      refine x_if_ne 78 d_O_entry_71 rfl (fun hc => ?_) (fun hc => ?_)
      · have hw := hw.1 hc
        refine x_iload 6 0 d_O_entry_78 rfl ?_
        refine x_if_eq 87 d_O_entry_80 rfl (fun hc => ?_) (fun hc => ?_)
        · have hw := hw.1 hc
          refine x_iconst (v := 3) d_O_entry_87 (by decide) ?_
          refine x_sub [1, 2, 3, 4, 5] [(0, .ref 116), (1, .int x1), (2, .int x2), (3, .int x3), (4, .int x4)] rfl ?_
          exact t_O_entry_88 hA hT hO M28 x1 x2 x3 x4 (3 : Int32) hw
        · have hw := hw.2 hc
          refine x_iconst (v := 0) d_O_entry_83 (by decide) ?_
          refine x_goto 88 d_O_entry_84 rfl ?_
          refine x_sub [1, 2, 3, 4, 5] [(0, .ref 116), (1, .int x1), (2, .int x2), (3, .int x3), (4, .int x4)] rfl ?_
          exact t_O_entry_88 hA hT hO M28 x1 x2 x3 x4 (0 : Int32) hw
      · have hw := hw.2 hc
        refine x_iconst (v := 1) d_O_entry_74 (by decide) ?_
        refine x_goto 88 d_O_entry_75 rfl ?_
        refine x_sub [1, 2, 3, 4, 5] [(0, .ref 116), (1, .int x1), (2, .int x2), (3, .int x3), (4, .int x4)] rfl ?_
        exact t_O_entry_88 hA hT hO M28 x1 x2 x3 x4 (1 : Int32) hw
    · have hw := hw.2 hc
      refine x_iconst (v := 2) d_O_entry_61 (by decide) ?_
      refine x_goto 88 d_O_entry_62 rfl ?_
      refine x_sub [1, 2, 3, 4, 5] [(0, .ref 116), (1, .int x1), (2, .int x2), (3, .int x3), (4, .int x4)] rfl ?_
      exact t_O_entry_88 hA hT hO M28 x1 x2 x3 x4 (2 : Int32) hw
  · have hw := hw.2 hc
    refine x_iconst (v := 1) d_O_entry_52 (by decide) ?_
    refine x_goto 88 d_O_entry_53 rfl ?_
    refine x_sub [1, 2, 3, 4, 5] [(0, .ref 116), (1, .int x1), (2, .int x2), (3, .int x3), (4, .int x4)] rfl ?_
    exact t_O_entry_88 hA hT hO M28 x1 x2 x3 x4 (1 : Int32) hw
def k_O_entry_41 (Q : Int32 → sdM → Prop) (M : sdM) (x1 : Int32) (x2 : Int32) (x3 : Int32) (x4 : Int32) (x5 : Int32) : Prop := k_O_entry_42 Q M x1 x2 x3 x4 x5 (0 : Int32)
set_option maxHeartbeats 1000000 in
theorem t_O_entry_41 (hA : sd_ad b n ad) (hT : l.stackTraces = false) (hO : isO n L dA) {Q : Int32 → sdM → Prop} (M : sdM) (x1 : Int32) (x2 : Int32) (x3 : Int32) (x4 : Int32) (x5 : Int32) (hw : k_O_entry_41 Q M x1 x2 x3 x4 x5) : sdW l (sdE0 sc) Y_O_entry D (sd_tys dA) b n ad L ad (sd_H D (sdE0 sc).1 n ad L) (sd_qi Q) sd_xf 41 [(0, .ref 116), (1, .int x1), (2, .int x2), (3, .int x3), (4, .int x4), (5, .int x5)] [] M 0 0 := by
  unfold k_O_entry_41 at hw
  refine x_iconst (v := 0) d_O_entry_41 (by decide) ?_
  exact t_O_entry_42 hA hT hO M x1 x2 x3 x4 x5 (0 : Int32) hw
def k_O_entry_20 (Q : Int32 → sdM → Prop) (M : sdM) (x1 : Int32) (x2 : Int32) (x3 : Int32) (x4 : Int32) (s0 : Int32) : Prop := (x2 = 0 → k_O_entry_41 Q M x1 x2 x3 x4 s0) ∧ (¬ x2 = 0 → (x3 < (1 : Int32) → k_O_entry_41 Q M x1 x2 x3 x4 s0) ∧ (¬ x3 < (1 : Int32) → ((100 : Int32) < x3 → k_O_entry_41 Q M x1 x2 x3 x4 s0) ∧ (¬ (100 : Int32) < x3 → k_O_entry_42 Q M x1 x2 x3 x4 s0 (1 : Int32))))
set_option maxHeartbeats 1000000 in
theorem t_O_entry_20 (hA : sd_ad b n ad) (hT : l.stackTraces = false) (hO : isO n L dA) {Q : Int32 → sdM → Prop} (M : sdM) (x1 : Int32) (x2 : Int32) (x3 : Int32) (x4 : Int32) (s0 : Int32) (hw : k_O_entry_20 Q M x1 x2 x3 x4 s0) : sdW l (sdE0 sc) Y_O_entry D (sd_tys dA) b n ad L ad (sd_H D (sdE0 sc).1 n ad L) (sd_qi Q) sd_xf 20 [(0, .ref 116), (1, .int x1), (2, .int x2), (3, .int x3), (4, .int x4)] [.int s0] M 0 0 := by
  unfold k_O_entry_20 at hw
  refine x_istore 5 [(5, .int s0), (0, .ref 116), (1, .int x1), (2, .int x2), (3, .int x3), (4, .int x4)] d_O_entry_20 (by decide) rfl ?_
  refine x_iload_n 2 3 d_O_entry_22 rfl rfl ?_
  refine x_if_eq 41 d_O_entry_23 rfl (fun hc => ?_) (fun hc => ?_)
  · have hw := hw.1 hc
    refine x_sub [1, 2, 3, 4, 5, 0] [(0, .ref 116), (1, .int x1), (2, .int x2), (3, .int x3), (4, .int x4), (5, .int s0)] rfl ?_
    exact t_O_entry_41 hA hT hO M x1 x2 x3 x4 s0 hw
  · have hw := hw.2 hc
    refine x_iload_n 3 4 d_O_entry_26 rfl rfl ?_
    refine x_iconst (v := 1) d_O_entry_27 (by decide) ?_
    refine x_icmp_lt 41 d_O_entry_28 rfl (fun hc => ?_) (fun hc => ?_)
    · have hw := hw.1 hc
      refine x_sub [1, 2, 3, 4, 5, 0] [(0, .ref 116), (1, .int x1), (2, .int x2), (3, .int x3), (4, .int x4), (5, .int s0)] rfl ?_
      exact t_O_entry_41 hA hT hO M x1 x2 x3 x4 s0 hw
    · have hw := hw.2 hc
      refine x_iload_n 3 4 d_O_entry_31 rfl rfl ?_
      refine x_bipush (v := 100) d_O_entry_32 (by decide) ?_
      refine x_icmp_gt 41 d_O_entry_34 rfl (fun hc => ?_) (fun hc => ?_)
      · have hw := hw.1 hc
        refine x_sub [1, 2, 3, 4, 5, 0] [(0, .ref 116), (1, .int x1), (2, .int x2), (3, .int x3), (4, .int x4), (5, .int s0)] rfl ?_
        exact t_O_entry_41 hA hT hO M x1 x2 x3 x4 s0 hw
      · have hw := hw.2 hc
        refine x_iconst (v := 1) d_O_entry_37 (by decide) ?_
        refine x_goto 42 d_O_entry_38 rfl ?_
        refine x_sub [1, 2, 3, 4, 5, 0] [(0, .ref 116), (1, .int x1), (2, .int x2), (3, .int x3), (4, .int x4), (5, .int s0)] rfl ?_
        exact t_O_entry_42 hA hT hO M x1 x2 x3 x4 s0 (1 : Int32) hw
def k_O_entry_19 (Q : Int32 → sdM → Prop) (M : sdM) (x1 : Int32) (x2 : Int32) (x3 : Int32) (x4 : Int32) : Prop := k_O_entry_20 Q M x1 x2 x3 x4 (0 : Int32)
set_option maxHeartbeats 1000000 in
theorem t_O_entry_19 (hA : sd_ad b n ad) (hT : l.stackTraces = false) (hO : isO n L dA) {Q : Int32 → sdM → Prop} (M : sdM) (x1 : Int32) (x2 : Int32) (x3 : Int32) (x4 : Int32) (hw : k_O_entry_19 Q M x1 x2 x3 x4) : sdW l (sdE0 sc) Y_O_entry D (sd_tys dA) b n ad L ad (sd_H D (sdE0 sc).1 n ad L) (sd_qi Q) sd_xf 19 [(0, .ref 116), (1, .int x1), (2, .int x2), (3, .int x3), (4, .int x4)] [] M 0 0 := by
  unfold k_O_entry_19 at hw
  refine x_iconst (v := 0) d_O_entry_19 (by decide) ?_
  exact t_O_entry_20 hA hT hO M x1 x2 x3 x4 (0 : Int32) hw
def w_O_entry (M : sdM) (a1 : Int32) (a2 : Int32) (a3 : Int32) (a4 : Int32) (Q : Int32 → sdM → Prop) : Prop := w_O_isSession M a1 (fun r32 M31 => (r32 = 0 → k_O_entry_19 Q M31 a1 a2 a3 a4) ∧ (¬ r32 = 0 → w_O_isList M31 a2 (fun r34 M33 => (r34 = 0 → k_O_entry_19 Q M33 a1 a2 a3 a4) ∧ (¬ r34 = 0 → k_O_entry_20 Q M33 a1 a2 a3 a4 (1 : Int32)))))
set_option maxHeartbeats 1000000 in
theorem c_O_entry {a1 : Int32} {a2 : Int32} {a3 : Int32} {a4 : Int32} (hA : sd_ad b n ad) (hT : l.stackTraces = false) (hO : isO n L dA) {Q : Int32 → sdM → Prop} {M : sdM} (hw : w_O_entry M a1 a2 a3 a4 Q) : sd_Cn l (sdE0 sc) y_O_entry Y_O_entry.2.2.2.2.1 Y_O_entry.2.2.2.2.2.1 0 0 D (sd_tys dA) b n ad L M [.ref 116, .int a1, .int a2, .int a3, .int a4] (sd_qi Q) sd_xf := by
  refine sd_enter (Y := Y_O_entry) rfl rfl rfl rfl (Nat.le_of_ble_eq_true rfl) ?_
  show sdW l (sdE0 sc) Y_O_entry D (sd_tys dA) b n ad L ad (sd_H D (sdE0 sc).1 n ad L) (sd_qi Q) sd_xf 0 [(0, .ref 116), (1, .int a1), (2, .int a2), (3, .int a3), (4, .int a4)] [] M 0 0
  unfold w_O_entry at hw
  refine x_iload_n 1 1 d_O_entry_0 rfl rfl ?_
  refine x_callSi (As := [.int a1]) (rest := []) (rc := 0) (rs := 0) (c_O_isSession hA hT  hw) cw_O_entry_O_isSession_157 d_O_entry_1 rfl rfl (Nat.le_of_ble_eq_true rfl) rfl (fun _ _ h => h.elim) (fun _ _ h => h) (fun r32 M31 hw => ?_)
  refine x_if_eq 19 d_O_entry_4 rfl (fun hc => ?_) (fun hc => ?_)
  · have hw := hw.1 hc
    exact t_O_entry_19 hA hT hO M31 a1 a2 a3 a4 hw
  · have hw := hw.2 hc
    refine x_aload_n 0 0 d_O_entry_7 rfl rfl ?_
    refine x_iload_n 2 2 d_O_entry_8 rfl rfl ?_
    refine x_callVi (As := [.int a2]) (t := 116) (rest := []) (rc := 0) (rs := 0) (c_O_isList hA hT hO hw) cw_O_entry_O_isList_72 hO.1 hO.2.1 rfl d_O_entry_9 rfl rfl (Nat.le_of_ble_eq_true rfl) rfl (fun _ _ h => h.elim) (fun _ _ h => h) (fun r34 M33 hw => ?_)
    refine x_if_eq 19 d_O_entry_12 rfl (fun hc => ?_) (fun hc => ?_)
    · have hw := hw.1 hc
      exact t_O_entry_19 hA hT hO M33 a1 a2 a3 a4 hw
    · have hw := hw.2 hc
      refine x_iconst (v := 1) d_O_entry_15 (by decide) ?_
      refine x_goto 20 d_O_entry_16 rfl ?_
      exact t_O_entry_20 hA hT hO M33 a1 a2 a3 a4 (1 : Int32) hw
end
theorem q557 : (.methodLink "SettingsDeskModel" 167 ⟨"SettingsDeskModel", "touch", "(IIII)I"⟩ : Cond) ∈ sdB0 := sd_tb5 129 rfl rfl
theorem q558 : (.code ⟨"SettingsDeskModel", "touch", "(IIII)I"⟩ prog_12_method_31_code 5 (some .int) : Cond) ∈ sdB0 := sd_tb5 132 rfl rfl
theorem q559 : (.instanceMethod ⟨"SettingsDeskModel", "touch", "(IIII)I"⟩ : Cond) ∈ sdB0 := sd_tb5 131 rfl rfl
theorem q560 : (.selects "SettingsDeskModel" ⟨"SettingsDeskModel", "touch", "(IIII)I"⟩ ⟨"SettingsDeskModel", "touch", "(IIII)I"⟩ : Cond) ∈ sdB0 := sd_tbp (q := (⟨"SettingsDeskModel", "touch", "(IIII)I"⟩, 35)) (List.mem_of_getElem? (i := 31) rfl)
abbrev y_O_set : MethodName := ⟨"SettingsDeskModel", "set", "(IIIII)V"⟩
theorem d_O_set_0 : decode prog_12_method_32_code 0 = .ok (.aload_n 0, 1) := by decide +kernel
theorem d_O_set_1 : decode prog_12_method_32_code 1 = .ok (.aload_n 0, 1) := by decide +kernel
theorem d_O_set_2 : decode prog_12_method_32_code 2 = .ok (.iload_n 1, 1) := by decide +kernel
theorem d_O_set_3 : decode prog_12_method_32_code 3 = .ok (.iload_n 2, 1) := by decide +kernel
theorem d_O_set_4 : decode prog_12_method_32_code 4 = .ok (.iload_n 3, 1) := by decide +kernel
theorem d_O_set_5 : decode prog_12_method_32_code 5 = .ok (.iload 4, 2) := by decide +kernel
theorem d_O_set_7 : decode prog_12_method_32_code 7 = .ok (.invokevirtual 167, 3) := by decide +kernel
theorem d_O_set_10 : decode prog_12_method_32_code 10 = .ok (.putfield 69, 3) := by decide +kernel
theorem d_O_set_13 : decode prog_12_method_32_code 13 = .ok (.aload_n 0, 1) := by decide +kernel
theorem d_O_set_14 : decode prog_12_method_32_code 14 = .ok (.getfield 69, 3) := by decide +kernel
theorem d_O_set_17 : decode prog_12_method_32_code 17 = .ok (.ifCond .le (4), 3) := by decide +kernel
theorem d_O_set_20 : decode prog_12_method_32_code 20 = .ok (.return_, 1) := by decide +kernel
theorem d_O_set_21 : decode prog_12_method_32_code 21 = .ok (.iconst 4, 1) := by decide +kernel
theorem d_O_set_22 : decode prog_12_method_32_code 22 = .ok (.iload_n 2, 1) := by decide +kernel
theorem d_O_set_23 : decode prog_12_method_32_code 23 = .ok (.imul, 1) := by decide +kernel
theorem d_O_set_24 : decode prog_12_method_32_code 24 = .ok (.iload 4, 2) := by decide +kernel
theorem d_O_set_26 : decode prog_12_method_32_code 26 = .ok (.iadd, 1) := by decide +kernel
theorem d_O_set_27 : decode prog_12_method_32_code 27 = .ok (.istore 6, 2) := by decide +kernel
theorem d_O_set_29 : decode prog_12_method_32_code 29 = .ok (.aload_n 0, 1) := by decide +kernel
theorem d_O_set_30 : decode prog_12_method_32_code 30 = .ok (.getfield 17, 3) := by decide +kernel
theorem d_O_set_33 : decode prog_12_method_32_code 33 = .ok (.iload 6, 2) := by decide +kernel
theorem d_O_set_35 : decode prog_12_method_32_code 35 = .ok (.baload, 1) := by decide +kernel
theorem d_O_set_36 : decode prog_12_method_32_code 36 = .ok (.ifCond .eq (24), 3) := by decide +kernel
theorem d_O_set_39 : decode prog_12_method_32_code 39 = .ok (.iload 5, 2) := by decide +kernel
theorem d_O_set_41 : decode prog_12_method_32_code 41 = .ok (.iconst 1, 1) := by decide +kernel
theorem d_O_set_42 : decode prog_12_method_32_code 42 = .ok (.if_icmp .lt (14), 3) := by decide +kernel
theorem d_O_set_45 : decode prog_12_method_32_code 45 = .ok (.iload 5, 2) := by decide +kernel
theorem d_O_set_47 : decode prog_12_method_32_code 47 = .ok (.bipush (100), 2) := by decide +kernel
theorem d_O_set_49 : decode prog_12_method_32_code 49 = .ok (.if_icmp .gt (7), 3) := by decide +kernel
theorem d_O_set_52 : decode prog_12_method_32_code 52 = .ok (.iconst 1, 1) := by decide +kernel
theorem d_O_set_53 : decode prog_12_method_32_code 53 = .ok (.goto (36), 3) := by decide +kernel
theorem d_O_set_56 : decode prog_12_method_32_code 56 = .ok (.iconst 0, 1) := by decide +kernel
theorem d_O_set_57 : decode prog_12_method_32_code 57 = .ok (.goto (32), 3) := by decide +kernel
theorem d_O_set_60 : decode prog_12_method_32_code 60 = .ok (.iload 5, 2) := by decide +kernel
theorem d_O_set_62 : decode prog_12_method_32_code 62 = .ok (.aload_n 0, 1) := by decide +kernel
theorem d_O_set_63 : decode prog_12_method_32_code 63 = .ok (.getfield 21, 3) := by decide +kernel
theorem d_O_set_66 : decode prog_12_method_32_code 66 = .ok (.iload 6, 2) := by decide +kernel
theorem d_O_set_68 : decode prog_12_method_32_code 68 = .ok (.iaload, 1) := by decide +kernel
theorem d_O_set_69 : decode prog_12_method_32_code 69 = .ok (.if_icmp .lt (19), 3) := by decide +kernel
theorem d_O_set_72 : decode prog_12_method_32_code 72 = .ok (.iload 5, 2) := by decide +kernel
theorem d_O_set_74 : decode prog_12_method_32_code 74 = .ok (.aload_n 0, 1) := by decide +kernel
theorem d_O_set_75 : decode prog_12_method_32_code 75 = .ok (.getfield 24, 3) := by decide +kernel
theorem d_O_set_78 : decode prog_12_method_32_code 78 = .ok (.iload 6, 2) := by decide +kernel
theorem d_O_set_80 : decode prog_12_method_32_code 80 = .ok (.iaload, 1) := by decide +kernel
theorem d_O_set_81 : decode prog_12_method_32_code 81 = .ok (.if_icmp .gt (7), 3) := by decide +kernel
theorem d_O_set_84 : decode prog_12_method_32_code 84 = .ok (.iconst 1, 1) := by decide +kernel
theorem d_O_set_85 : decode prog_12_method_32_code 85 = .ok (.goto (4), 3) := by decide +kernel
theorem d_O_set_88 : decode prog_12_method_32_code 88 = .ok (.iconst 0, 1) := by decide +kernel
theorem d_O_set_89 : decode prog_12_method_32_code 89 = .ok (.istore 7, 2) := by decide +kernel
theorem d_O_set_91 : decode prog_12_method_32_code 91 = .ok (.iload 7, 2) := by decide +kernel
theorem d_O_set_93 : decode prog_12_method_32_code 93 = .ok (.ifCond .ne (9), 3) := by decide +kernel
theorem d_O_set_96 : decode prog_12_method_32_code 96 = .ok (.aload_n 0, 1) := by decide +kernel
theorem d_O_set_97 : decode prog_12_method_32_code 97 = .ok (.iconst 3, 1) := by decide +kernel
theorem d_O_set_98 : decode prog_12_method_32_code 98 = .ok (.putfield 69, 3) := by decide +kernel
theorem d_O_set_101 : decode prog_12_method_32_code 101 = .ok (.return_, 1) := by decide +kernel
theorem d_O_set_102 : decode prog_12_method_32_code 102 = .ok (.aload_n 0, 1) := by decide +kernel
theorem d_O_set_103 : decode prog_12_method_32_code 103 = .ok (.bipush (10), 2) := by decide +kernel
theorem d_O_set_105 : decode prog_12_method_32_code 105 = .ok (.iload_n 1, 1) := by decide +kernel
theorem d_O_set_106 : decode prog_12_method_32_code 106 = .ok (.iadd, 1) := by decide +kernel
theorem d_O_set_107 : decode prog_12_method_32_code 107 = .ok (.iload_n 2, 1) := by decide +kernel
theorem d_O_set_108 : decode prog_12_method_32_code 108 = .ok (.iload_n 3, 1) := by decide +kernel
theorem d_O_set_109 : decode prog_12_method_32_code 109 = .ok (.invokevirtual 115, 3) := by decide +kernel
theorem d_O_set_112 : decode prog_12_method_32_code 112 = .ok (.istore 8, 2) := by decide +kernel
theorem d_O_set_114 : decode prog_12_method_32_code 114 = .ok (.aload_n 0, 1) := by decide +kernel
theorem d_O_set_115 : decode prog_12_method_32_code 115 = .ok (.getfield 57, 3) := by decide +kernel
theorem d_O_set_118 : decode prog_12_method_32_code 118 = .ok (.iload 8, 2) := by decide +kernel
theorem d_O_set_120 : decode prog_12_method_32_code 120 = .ok (.aload_n 0, 1) := by decide +kernel
theorem d_O_set_121 : decode prog_12_method_32_code 121 = .ok (.getfield 57, 3) := by decide +kernel
theorem d_O_set_124 : decode prog_12_method_32_code 124 = .ok (.iload 8, 2) := by decide +kernel
theorem d_O_set_126 : decode prog_12_method_32_code 126 = .ok (.iaload, 1) := by decide +kernel
theorem d_O_set_127 : decode prog_12_method_32_code 127 = .ok (.iconst 1, 1) := by decide +kernel
theorem d_O_set_128 : decode prog_12_method_32_code 128 = .ok (.iload 4, 2) := by decide +kernel
theorem d_O_set_130 : decode prog_12_method_32_code 130 = .ok (.ishl, 1) := by decide +kernel
theorem d_O_set_131 : decode prog_12_method_32_code 131 = .ok (.ior, 1) := by decide +kernel
theorem d_O_set_132 : decode prog_12_method_32_code 132 = .ok (.iastore, 1) := by decide +kernel
theorem d_O_set_133 : decode prog_12_method_32_code 133 = .ok (.aload_n 0, 1) := by decide +kernel
theorem d_O_set_134 : decode prog_12_method_32_code 134 = .ok (.getfield 60, 3) := by decide +kernel
theorem d_O_set_137 : decode prog_12_method_32_code 137 = .ok (.iconst 4, 1) := by decide +kernel
theorem d_O_set_138 : decode prog_12_method_32_code 138 = .ok (.iload 8, 2) := by decide +kernel
theorem d_O_set_140 : decode prog_12_method_32_code 140 = .ok (.imul, 1) := by decide +kernel
theorem d_O_set_141 : decode prog_12_method_32_code 141 = .ok (.iload 4, 2) := by decide +kernel
theorem d_O_set_143 : decode prog_12_method_32_code 143 = .ok (.iadd, 1) := by decide +kernel
theorem d_O_set_144 : decode prog_12_method_32_code 144 = .ok (.iload 5, 2) := by decide +kernel
theorem d_O_set_146 : decode prog_12_method_32_code 146 = .ok (.iastore, 1) := by decide +kernel
theorem d_O_set_147 : decode prog_12_method_32_code 147 = .ok (.return_, 1) := by decide +kernel
def Y_O_set : sdY := ("SettingsDeskModel", prog_12_method_32_code, 9, none, .code y_O_set prog_12_method_32_code 9 none :: sdB0, { frames := 3, cells := 0, slots := 0, locals := 67 }, 0, 0, [])
theorem cw_O_set_O_touch_167 : sd_cwV Y_O_set Y_O_touch y_O_touch 167 4 "SettingsDeskModel" := ⟨sd_goodV q557 q559 q560 q459 q558, ⟨_, rfl⟩, ⟨rfl, rfl, rfl, rfl⟩, ⟨rfl, by decide, by decide, by decide +kernel⟩, ⟨by decide, by decide⟩⟩
theorem cw_O_set_O_find_115 : sd_cwV Y_O_set Y_O_find y_O_find 115 3 "SettingsDeskModel" := ⟨sd_goodV q492 q494 q495 q459 q493, ⟨_, rfl⟩, ⟨rfl, rfl, rfl, rfl⟩, ⟨rfl, by decide, by decide, by decide +kernel⟩, ⟨by decide, by decide⟩⟩
section
variable {l : Launch} {D : va_G} {dA : Nat → ClassId} {b n : Nat} {ad : Nat → Nat} {L : Nat → sdL} {sc : Option (Nat × Nat × (Nat → Int32))}
def k_O_set_89 (Q : sdM → Prop) (M : sdM) (x1 : Int32) (x2 : Int32) (x3 : Int32) (x4 : Int32) (x5 : Int32) (s0 : Int32) : Prop := (¬ s0 = 0 → w_O_find M ((10 : Int32) + x1) x2 x3 (fun r20 M19 => vp_in r20 816 ∧ vp_in r20 816 ∧ ∀ M23 : sdM, M23 = sd_s M19 131 r20.toNatClampNeg ((M19 131 r20.toNatClampNeg) ||| ((1 : Int32) <<< (x4 &&& 31))) → vp_in (((4 : Int32) * r20) + x4) 3264 ∧ ∀ M26 : sdM, M26 = sd_s M23 132 (((4 : Int32) * r20) + x4).toNatClampNeg x5 → Q M26)) ∧ (s0 = 0 → ∀ M28 : sdM, M28 = sd_s M 116 0 (3 : Int32) → Q M28)
set_option maxHeartbeats 1000000 in
theorem t_O_set_89 (hA : sd_ad b n ad) (hT : l.stackTraces = false) (hO : isO n L dA) {Q : sdM → Prop} (M : sdM) (x1 : Int32) (x2 : Int32) (x3 : Int32) (x4 : Int32) (x5 : Int32) (s0 : Int32) (hw : k_O_set_89 Q M x1 x2 x3 x4 x5 s0) : sdW l (sdE0 sc) Y_O_set D (sd_tys dA) b n ad L ad (sd_H D (sdE0 sc).1 n ad L) (sd_qv Q) sd_xf 89 [(0, .ref 116), (1, .int x1), (2, .int x2), (3, .int x3), (4, .int x4), (5, .int x5)] [.int s0] M 0 0 := by
  unfold k_O_set_89 at hw
  refine x_istore 7 [(7, .int s0), (0, .ref 116), (1, .int x1), (2, .int x2), (3, .int x3), (4, .int x4), (5, .int x5)] d_O_set_89 (by decide) rfl ?_
  refine x_iload 7 0 d_O_set_91 rfl ?_
  refine x_if_ne 102 d_O_set_93 rfl (fun hc => ?_) (fun hc => ?_)
  · have hw := hw.1 hc
    refine x_aload_n 0 1 d_O_set_102 rfl rfl ?_
    refine x_bipush (v := 10) d_O_set_103 (by decide) ?_
    refine x_iload_n 1 2 d_O_set_105 rfl rfl ?_
    refine x_iadd d_O_set_106 ?_
    refine x_iload_n 2 3 d_O_set_107 rfl rfl ?_
    refine x_iload_n 3 4 d_O_set_108 rfl rfl ?_
    refine x_callVi (As := [.int ((10 : Int32) + x1), .int x2, .int x3]) (t := 116) (rest := []) (rc := 0) (rs := 0) (c_O_find hA hT hO hw) cw_O_set_O_find_115 hO.1 hO.2.1 rfl d_O_set_109 rfl rfl (Nat.le_of_ble_eq_true rfl) rfl (fun _ _ h => h.elim) (fun _ _ h => h) (fun r20 M19 hw => ?_)
    refine x_istore 8 [(8, .int r20), (7, .int s0), (0, .ref 116), (1, .int x1), (2, .int x2), (3, .int x3), (4, .int x4), (5, .int x5)] d_O_set_112 (by decide) rfl ?_
    refine x_aload_n 0 2 d_O_set_114 rfl rfl ?_
    refine x_getr 18 131 d_O_set_115 hO.1 hO.2.1 rfl rfl (by decide) lay_O (List.mem_cons_of_mem _ q472) rfl ?_
    refine x_iload 8 0 d_O_set_118 rfl ?_
    refine x_aload_n 0 2 d_O_set_120 rfl rfl ?_
    refine x_getr 18 131 d_O_set_121 hO.1 hO.2.1 rfl rfl (by decide) lay_O (List.mem_cons_of_mem _ q472) rfl ?_
    refine x_iload 8 0 d_O_set_124 rfl ?_
    obtain ⟨hi21, hw⟩ := hw
    refine x_iald d_O_set_126 hO.bits.1 hO.bits.2 rfl hi21 ?_
    refine x_iconst (v := 1) d_O_set_127 (by decide) ?_
    refine x_iload 4 6 d_O_set_128 rfl ?_
    refine x_ishl d_O_set_130 ?_
    refine x_ior d_O_set_131 ?_
    obtain ⟨hi22, hw⟩ := hw
    refine x_iast hA d_O_set_132 hO.bits.1 hO.bits.2 rfl hi22 (fun M23 e24 => ?_)
    have hw := hw M23 e24
    clear e24
    refine x_aload_n 0 2 d_O_set_133 rfl rfl ?_
    refine x_getr 19 132 d_O_set_134 hO.1 hO.2.1 rfl rfl (by decide) lay_O (List.mem_cons_of_mem _ q477) rfl ?_
    refine x_iconst (v := 4) d_O_set_137 (by decide) ?_
    refine x_iload 8 0 d_O_set_138 rfl ?_
    refine x_imul d_O_set_140 ?_
    refine x_iload 4 6 d_O_set_141 rfl ?_
    refine x_iadd d_O_set_143 ?_
    refine x_iload 5 7 d_O_set_144 rfl ?_
    obtain ⟨hi25, hw⟩ := hw
    refine x_iast hA d_O_set_146 hO.values.1 hO.values.2 rfl hi25 (fun M26 e27 => ?_)
    have hw := hw M26 e27
    clear e27
    exact x_vret d_O_set_147 rfl (fun _ h => h) ⟨rfl, hw⟩
  · have hw := hw.2 hc
    refine x_aload_n 0 1 d_O_set_96 rfl rfl ?_
    refine x_iconst (v := 3) d_O_set_97 (by decide) ?_
    refine x_puti 0 (ty := .int) hA d_O_set_98 hO.1 hO.2.1 rfl rfl (by decide) lay_O (List.mem_cons_of_mem _ q446) rfl ty_O ty_O_ok nm_O rfl (by decide +kernel) rfl rfl (fun M28 e29 => ?_)
    have hw := hw M28 e29
    clear e29
    exact x_vret d_O_set_101 rfl (fun _ h => h) ⟨rfl, hw⟩
def k_O_set_88 (Q : sdM → Prop) (M : sdM) (x1 : Int32) (x2 : Int32) (x3 : Int32) (x4 : Int32) (x5 : Int32) : Prop := k_O_set_89 Q M x1 x2 x3 x4 x5 (0 : Int32)
set_option maxHeartbeats 1000000 in
theorem t_O_set_88 (hA : sd_ad b n ad) (hT : l.stackTraces = false) (hO : isO n L dA) {Q : sdM → Prop} (M : sdM) (x1 : Int32) (x2 : Int32) (x3 : Int32) (x4 : Int32) (x5 : Int32) (hw : k_O_set_88 Q M x1 x2 x3 x4 x5) : sdW l (sdE0 sc) Y_O_set D (sd_tys dA) b n ad L ad (sd_H D (sdE0 sc).1 n ad L) (sd_qv Q) sd_xf 88 [(0, .ref 116), (1, .int x1), (2, .int x2), (3, .int x3), (4, .int x4), (5, .int x5)] [] M 0 0 := by
  unfold k_O_set_88 at hw
  refine x_iconst (v := 0) d_O_set_88 (by decide) ?_
  exact t_O_set_89 hA hT hO M x1 x2 x3 x4 x5 (0 : Int32) hw
def k_O_set_56 (Q : sdM → Prop) (M : sdM) (x1 : Int32) (x2 : Int32) (x3 : Int32) (x4 : Int32) (x5 : Int32) : Prop := k_O_set_89 Q M x1 x2 x3 x4 x5 (0 : Int32)
set_option maxHeartbeats 1000000 in
theorem t_O_set_56 (hA : sd_ad b n ad) (hT : l.stackTraces = false) (hO : isO n L dA) {Q : sdM → Prop} (M : sdM) (x1 : Int32) (x2 : Int32) (x3 : Int32) (x4 : Int32) (x5 : Int32) (hw : k_O_set_56 Q M x1 x2 x3 x4 x5) : sdW l (sdE0 sc) Y_O_set D (sd_tys dA) b n ad L ad (sd_H D (sdE0 sc).1 n ad L) (sd_qv Q) sd_xf 56 [(0, .ref 116), (1, .int x1), (2, .int x2), (3, .int x3), (4, .int x4), (5, .int x5)] [] M 0 0 := by
  unfold k_O_set_56 at hw
  refine x_iconst (v := 0) d_O_set_56 (by decide) ?_
  refine x_goto 89 d_O_set_57 rfl ?_
  exact t_O_set_89 hA hT hO M x1 x2 x3 x4 x5 (0 : Int32) hw
def w_O_set (M : sdM) (a1 : Int32) (a2 : Int32) (a3 : Int32) (a4 : Int32) (a5 : Int32) (Q : sdM → Prop) : Prop := w_O_touch M a1 a2 a3 a4 (fun r31 M30 => ∀ M32 : sdM, M32 = sd_s M30 116 0 r31 → ((M32 116 0) ≤ 0 → vp_in (((4 : Int32) * a2) + a4) 16 ∧ ((M32 118 (((4 : Int32) * a2) + a4).toNatClampNeg) = 0 → vp_in (((4 : Int32) * a2) + a4) 16 ∧ (a5 < (M32 119 (((4 : Int32) * a2) + a4).toNatClampNeg) → k_O_set_88 Q M32 a1 a2 a3 a4 a5) ∧ (¬ a5 < (M32 119 (((4 : Int32) * a2) + a4).toNatClampNeg) → vp_in (((4 : Int32) * a2) + a4) 16 ∧ ((M32 120 (((4 : Int32) * a2) + a4).toNatClampNeg) < a5 → k_O_set_88 Q M32 a1 a2 a3 a4 a5) ∧ (¬ (M32 120 (((4 : Int32) * a2) + a4).toNatClampNeg) < a5 → k_O_set_89 Q M32 a1 a2 a3 a4 a5 (1 : Int32)))) ∧ (¬ (M32 118 (((4 : Int32) * a2) + a4).toNatClampNeg) = 0 → (a5 < (1 : Int32) → k_O_set_56 Q M32 a1 a2 a3 a4 a5) ∧ (¬ a5 < (1 : Int32) → ((100 : Int32) < a5 → k_O_set_56 Q M32 a1 a2 a3 a4 a5) ∧ (¬ (100 : Int32) < a5 → k_O_set_89 Q M32 a1 a2 a3 a4 a5 (1 : Int32))))) ∧ (¬ (M32 116 0) ≤ 0 → Q M32))
set_option maxHeartbeats 1000000 in
theorem c_O_set {a1 : Int32} {a2 : Int32} {a3 : Int32} {a4 : Int32} {a5 : Int32} (hA : sd_ad b n ad) (hT : l.stackTraces = false) (hO : isO n L dA) {Q : sdM → Prop} {M : sdM} (hw : w_O_set M a1 a2 a3 a4 a5 Q) : sd_Cn l (sdE0 sc) y_O_set Y_O_set.2.2.2.2.1 Y_O_set.2.2.2.2.2.1 0 0 D (sd_tys dA) b n ad L M [.ref 116, .int a1, .int a2, .int a3, .int a4, .int a5] (sd_qv Q) sd_xf := by
  refine sd_enter (Y := Y_O_set) rfl rfl rfl rfl (Nat.le_of_ble_eq_true rfl) ?_
  show sdW l (sdE0 sc) Y_O_set D (sd_tys dA) b n ad L ad (sd_H D (sdE0 sc).1 n ad L) (sd_qv Q) sd_xf 0 [(0, .ref 116), (1, .int a1), (2, .int a2), (3, .int a3), (4, .int a4), (5, .int a5)] [] M 0 0
  unfold w_O_set at hw
  refine x_aload_n 0 0 d_O_set_0 rfl rfl ?_
  refine x_aload_n 0 0 d_O_set_1 rfl rfl ?_
  refine x_iload_n 1 1 d_O_set_2 rfl rfl ?_
  refine x_iload_n 2 2 d_O_set_3 rfl rfl ?_
  refine x_iload_n 3 3 d_O_set_4 rfl rfl ?_
  refine x_iload 4 4 d_O_set_5 rfl ?_
  refine x_callVi (As := [.int a1, .int a2, .int a3, .int a4]) (t := 116) (rest := [.ref 116]) (rc := 0) (rs := 0) (c_O_touch hA hT hO hw) cw_O_set_O_touch_167 hO.1 hO.2.1 rfl d_O_set_7 rfl rfl (Nat.le_of_ble_eq_true rfl) rfl (fun _ _ h => h.elim) (fun _ _ h => h) (fun r31 M30 hw => ?_)
  refine x_puti 0 (ty := .int) hA d_O_set_10 hO.1 hO.2.1 rfl rfl (by decide) lay_O (List.mem_cons_of_mem _ q446) rfl ty_O ty_O_ok nm_O rfl (by decide +kernel) rfl rfl (fun M32 e33 => ?_)
  have hw := hw M32 e33
  clear e33
  refine x_aload_n 0 0 d_O_set_13 rfl rfl ?_
  refine x_geti 0 d_O_set_14 hO.1 hO.2.1 rfl rfl (by decide) lay_O (List.mem_cons_of_mem _ q446) rfl ?_
  refine x_if_le 21 d_O_set_17 rfl (fun hc => ?_) (fun hc => ?_)
  · have hw := hw.1 hc
    refine x_iconst (v := 4) d_O_set_21 (by decide) ?_
    refine x_iload_n 2 2 d_O_set_22 rfl rfl ?_
    refine x_imul d_O_set_23 ?_
    refine x_iload 4 4 d_O_set_24 rfl ?_
    refine x_iadd d_O_set_26 ?_
    refine x_istore 6 [(6, .int (((4 : Int32) * a2) + a4)), (0, .ref 116), (1, .int a1), (2, .int a2), (3, .int a3), (4, .int a4), (5, .int a5)] d_O_set_27 (by decide) rfl ?_
    refine x_aload_n 0 1 d_O_set_29 rfl rfl ?_
    refine x_getr 4 118 d_O_set_30 hO.1 hO.2.1 rfl rfl (by decide) lay_O (List.mem_cons_of_mem _ q451) rfl ?_
    refine x_iload 6 0 d_O_set_33 rfl ?_
    obtain ⟨hi34, hw⟩ := hw
    refine x_zald d_O_set_35 hO.refers.1 hO.refers.2 rfl hi34 ?_
    refine x_if_eq 60 d_O_set_36 rfl (fun hc => ?_) (fun hc => ?_)
    · have hw := hw.1 hc
      refine x_iload 5 6 d_O_set_60 rfl ?_
      refine x_aload_n 0 1 d_O_set_62 rfl rfl ?_
      refine x_getr 5 119 d_O_set_63 hO.1 hO.2.1 rfl rfl (by decide) lay_O (List.mem_cons_of_mem _ q452) rfl ?_
      refine x_iload 6 0 d_O_set_66 rfl ?_
      obtain ⟨hi35, hw⟩ := hw
      refine x_iald d_O_set_68 hO.lows.1 hO.lows.2 rfl hi35 ?_
      refine x_icmp_lt 88 d_O_set_69 rfl (fun hc => ?_) (fun hc => ?_)
      · have hw := hw.1 hc
        refine x_sub [1, 2, 3, 4, 5, 6] [(0, .ref 116), (1, .int a1), (2, .int a2), (3, .int a3), (4, .int a4), (5, .int a5)] rfl ?_
        exact t_O_set_88 hA hT hO M32 a1 a2 a3 a4 a5 hw
      · have hw := hw.2 hc
        refine x_iload 5 6 d_O_set_72 rfl ?_
        refine x_aload_n 0 1 d_O_set_74 rfl rfl ?_
        refine x_getr 6 120 d_O_set_75 hO.1 hO.2.1 rfl rfl (by decide) lay_O (List.mem_cons_of_mem _ q453) rfl ?_
        refine x_iload 6 0 d_O_set_78 rfl ?_
        obtain ⟨hi36, hw⟩ := hw
        refine x_iald d_O_set_80 hO.highs.1 hO.highs.2 rfl hi36 ?_
        refine x_icmp_gt 88 d_O_set_81 rfl (fun hc => ?_) (fun hc => ?_)
        · have hw := hw.1 hc
          refine x_sub [1, 2, 3, 4, 5, 6] [(0, .ref 116), (1, .int a1), (2, .int a2), (3, .int a3), (4, .int a4), (5, .int a5)] rfl ?_
          exact t_O_set_88 hA hT hO M32 a1 a2 a3 a4 a5 hw
        · have hw := hw.2 hc
          refine x_iconst (v := 1) d_O_set_84 (by decide) ?_
          refine x_goto 89 d_O_set_85 rfl ?_
          refine x_sub [1, 2, 3, 4, 5, 6] [(0, .ref 116), (1, .int a1), (2, .int a2), (3, .int a3), (4, .int a4), (5, .int a5)] rfl ?_
          exact t_O_set_89 hA hT hO M32 a1 a2 a3 a4 a5 (1 : Int32) hw
    · have hw := hw.2 hc
      refine x_iload 5 6 d_O_set_39 rfl ?_
      refine x_iconst (v := 1) d_O_set_41 (by decide) ?_
      refine x_icmp_lt 56 d_O_set_42 rfl (fun hc => ?_) (fun hc => ?_)
      · have hw := hw.1 hc
        refine x_sub [1, 2, 3, 4, 5, 6] [(0, .ref 116), (1, .int a1), (2, .int a2), (3, .int a3), (4, .int a4), (5, .int a5)] rfl ?_
        exact t_O_set_56 hA hT hO M32 a1 a2 a3 a4 a5 hw
      · have hw := hw.2 hc
        refine x_iload 5 6 d_O_set_45 rfl ?_
        refine x_bipush (v := 100) d_O_set_47 (by decide) ?_
        refine x_icmp_gt 56 d_O_set_49 rfl (fun hc => ?_) (fun hc => ?_)
        · have hw := hw.1 hc
          refine x_sub [1, 2, 3, 4, 5, 6] [(0, .ref 116), (1, .int a1), (2, .int a2), (3, .int a3), (4, .int a4), (5, .int a5)] rfl ?_
          exact t_O_set_56 hA hT hO M32 a1 a2 a3 a4 a5 hw
        · have hw := hw.2 hc
          refine x_iconst (v := 1) d_O_set_52 (by decide) ?_
          refine x_goto 89 d_O_set_53 rfl ?_
          refine x_sub [1, 2, 3, 4, 5, 6] [(0, .ref 116), (1, .int a1), (2, .int a2), (3, .int a3), (4, .int a4), (5, .int a5)] rfl ?_
          exact t_O_set_89 hA hT hO M32 a1 a2 a3 a4 a5 (1 : Int32) hw
  · have hw := hw.2 hc
    exact x_vret d_O_set_20 rfl (fun _ h => h) ⟨rfl, hw⟩
end
abbrev y_O_unset : MethodName := ⟨"SettingsDeskModel", "unset", "(IIII)Z"⟩
theorem d_O_unset_0 : decode prog_12_method_33_code 0 = .ok (.aload_n 0, 1) := by decide +kernel
theorem d_O_unset_1 : decode prog_12_method_33_code 1 = .ok (.aload_n 0, 1) := by decide +kernel
theorem d_O_unset_2 : decode prog_12_method_33_code 2 = .ok (.iload_n 1, 1) := by decide +kernel
theorem d_O_unset_3 : decode prog_12_method_33_code 3 = .ok (.iload_n 2, 1) := by decide +kernel
theorem d_O_unset_4 : decode prog_12_method_33_code 4 = .ok (.iload_n 3, 1) := by decide +kernel
theorem d_O_unset_5 : decode prog_12_method_33_code 5 = .ok (.iload 4, 2) := by decide +kernel
theorem d_O_unset_7 : decode prog_12_method_33_code 7 = .ok (.invokevirtual 167, 3) := by decide +kernel
theorem d_O_unset_10 : decode prog_12_method_33_code 10 = .ok (.putfield 69, 3) := by decide +kernel
theorem d_O_unset_13 : decode prog_12_method_33_code 13 = .ok (.aload_n 0, 1) := by decide +kernel
theorem d_O_unset_14 : decode prog_12_method_33_code 14 = .ok (.getfield 69, 3) := by decide +kernel
theorem d_O_unset_17 : decode prog_12_method_33_code 17 = .ok (.ifCond .le (5), 3) := by decide +kernel
theorem d_O_unset_20 : decode prog_12_method_33_code 20 = .ok (.iconst 0, 1) := by decide +kernel
theorem d_O_unset_21 : decode prog_12_method_33_code 21 = .ok (.ireturn, 1) := by decide +kernel
theorem d_O_unset_22 : decode prog_12_method_33_code 22 = .ok (.aload_n 0, 1) := by decide +kernel
theorem d_O_unset_23 : decode prog_12_method_33_code 23 = .ok (.bipush (10), 2) := by decide +kernel
theorem d_O_unset_25 : decode prog_12_method_33_code 25 = .ok (.iload_n 1, 1) := by decide +kernel
theorem d_O_unset_26 : decode prog_12_method_33_code 26 = .ok (.iadd, 1) := by decide +kernel
theorem d_O_unset_27 : decode prog_12_method_33_code 27 = .ok (.iload_n 2, 1) := by decide +kernel
theorem d_O_unset_28 : decode prog_12_method_33_code 28 = .ok (.iload_n 3, 1) := by decide +kernel
theorem d_O_unset_29 : decode prog_12_method_33_code 29 = .ok (.invokevirtual 115, 3) := by decide +kernel
theorem d_O_unset_32 : decode prog_12_method_33_code 32 = .ok (.istore 5, 2) := by decide +kernel
theorem d_O_unset_34 : decode prog_12_method_33_code 34 = .ok (.aload_n 0, 1) := by decide +kernel
theorem d_O_unset_35 : decode prog_12_method_33_code 35 = .ok (.iload 5, 2) := by decide +kernel
theorem d_O_unset_37 : decode prog_12_method_33_code 37 = .ok (.iload 4, 2) := by decide +kernel
theorem d_O_unset_39 : decode prog_12_method_33_code 39 = .ok (.invokevirtual 98, 3) := by decide +kernel
theorem d_O_unset_42 : decode prog_12_method_33_code 42 = .ok (.istore 6, 2) := by decide +kernel
theorem d_O_unset_44 : decode prog_12_method_33_code 44 = .ok (.aload_n 0, 1) := by decide +kernel
theorem d_O_unset_45 : decode prog_12_method_33_code 45 = .ok (.getfield 57, 3) := by decide +kernel
theorem d_O_unset_48 : decode prog_12_method_33_code 48 = .ok (.iload 5, 2) := by decide +kernel
theorem d_O_unset_50 : decode prog_12_method_33_code 50 = .ok (.aload_n 0, 1) := by decide +kernel
theorem d_O_unset_51 : decode prog_12_method_33_code 51 = .ok (.getfield 57, 3) := by decide +kernel
theorem d_O_unset_54 : decode prog_12_method_33_code 54 = .ok (.iload 5, 2) := by decide +kernel
theorem d_O_unset_56 : decode prog_12_method_33_code 56 = .ok (.iaload, 1) := by decide +kernel
theorem d_O_unset_57 : decode prog_12_method_33_code 57 = .ok (.iconst 1, 1) := by decide +kernel
theorem d_O_unset_58 : decode prog_12_method_33_code 58 = .ok (.iload 4, 2) := by decide +kernel
theorem d_O_unset_60 : decode prog_12_method_33_code 60 = .ok (.ishl, 1) := by decide +kernel
theorem d_O_unset_61 : decode prog_12_method_33_code 61 = .ok (.iconst (-1), 1) := by decide +kernel
theorem d_O_unset_62 : decode prog_12_method_33_code 62 = .ok (.ixor, 1) := by decide +kernel
theorem d_O_unset_63 : decode prog_12_method_33_code 63 = .ok (.iand, 1) := by decide +kernel
theorem d_O_unset_64 : decode prog_12_method_33_code 64 = .ok (.iastore, 1) := by decide +kernel
theorem d_O_unset_65 : decode prog_12_method_33_code 65 = .ok (.iload 6, 2) := by decide +kernel
theorem d_O_unset_67 : decode prog_12_method_33_code 67 = .ok (.ireturn, 1) := by decide +kernel
def Y_O_unset : sdY := ("SettingsDeskModel", prog_12_method_33_code, 7, (some .boolean), .code y_O_unset prog_12_method_33_code 7 (some .boolean) :: sdB0, { frames := 3, cells := 0, slots := 0, locals := 67 }, 0, 0, [])
theorem cw_O_unset_O_touch_167 : sd_cwV Y_O_unset Y_O_touch y_O_touch 167 4 "SettingsDeskModel" := ⟨sd_goodV q557 q559 q560 q459 q558, ⟨_, rfl⟩, ⟨rfl, rfl, rfl, rfl⟩, ⟨rfl, by decide, by decide, by decide +kernel⟩, ⟨by decide, by decide⟩⟩
theorem cw_O_unset_O_find_115 : sd_cwV Y_O_unset Y_O_find y_O_find 115 3 "SettingsDeskModel" := ⟨sd_goodV q492 q494 q495 q459 q493, ⟨_, rfl⟩, ⟨rfl, rfl, rfl, rfl⟩, ⟨rfl, by decide, by decide, by decide +kernel⟩, ⟨by decide, by decide⟩⟩
theorem cw_O_unset_O_isSet_98 : sd_cwV Y_O_unset Y_O_isSet y_O_isSet 98 2 "SettingsDeskModel" := ⟨sd_goodV q473 q475 q476 q459 q474, ⟨_, rfl⟩, ⟨rfl, rfl, rfl, rfl⟩, ⟨rfl, by decide, by decide, by decide +kernel⟩, ⟨by decide, by decide⟩⟩
section
variable {l : Launch} {D : va_G} {dA : Nat → ClassId} {b n : Nat} {ad : Nat → Nat} {L : Nat → sdL} {sc : Option (Nat × Nat × (Nat → Int32))}
def w_O_unset (M : sdM) (a1 : Int32) (a2 : Int32) (a3 : Int32) (a4 : Int32) (Q : Int32 → sdM → Prop) : Prop := w_O_touch M a1 a2 a3 a4 (fun r14 M13 => ∀ M15 : sdM, M15 = sd_s M13 116 0 r14 → ((M15 116 0) ≤ 0 → w_O_find M15 ((10 : Int32) + a1) a2 a3 (fun r18 M17 => w_O_isSet M17 r18 a4 (fun r20 M19 => vp_in r18 816 ∧ vp_in r18 816 ∧ ∀ M23 : sdM, M23 = sd_s M19 131 r18.toNatClampNeg ((M19 131 r18.toNatClampNeg) &&& (((1 : Int32) <<< (a4 &&& 31)) ^^^ (-1 : Int32))) → sdB r20 ∧ Q r20 M23))) ∧ (¬ (M15 116 0) ≤ 0 → sdB (0 : Int32) ∧ Q (0 : Int32) M15))
set_option maxHeartbeats 1000000 in
theorem c_O_unset {a1 : Int32} {a2 : Int32} {a3 : Int32} {a4 : Int32} (hA : sd_ad b n ad) (hT : l.stackTraces = false) (hO : isO n L dA) {Q : Int32 → sdM → Prop} {M : sdM} (hw : w_O_unset M a1 a2 a3 a4 Q) : sd_Cn l (sdE0 sc) y_O_unset Y_O_unset.2.2.2.2.1 Y_O_unset.2.2.2.2.2.1 0 0 D (sd_tys dA) b n ad L M [.ref 116, .int a1, .int a2, .int a3, .int a4] (sd_qi Q) sd_xf := by
  refine sd_enter (Y := Y_O_unset) rfl rfl rfl rfl (Nat.le_of_ble_eq_true rfl) ?_
  show sdW l (sdE0 sc) Y_O_unset D (sd_tys dA) b n ad L ad (sd_H D (sdE0 sc).1 n ad L) (sd_qi Q) sd_xf 0 [(0, .ref 116), (1, .int a1), (2, .int a2), (3, .int a3), (4, .int a4)] [] M 0 0
  unfold w_O_unset at hw
  refine x_aload_n 0 0 d_O_unset_0 rfl rfl ?_
  refine x_aload_n 0 0 d_O_unset_1 rfl rfl ?_
  refine x_iload_n 1 1 d_O_unset_2 rfl rfl ?_
  refine x_iload_n 2 2 d_O_unset_3 rfl rfl ?_
  refine x_iload_n 3 3 d_O_unset_4 rfl rfl ?_
  refine x_iload 4 4 d_O_unset_5 rfl ?_
  refine x_callVi (As := [.int a1, .int a2, .int a3, .int a4]) (t := 116) (rest := [.ref 116]) (rc := 0) (rs := 0) (c_O_touch hA hT hO hw) cw_O_unset_O_touch_167 hO.1 hO.2.1 rfl d_O_unset_7 rfl rfl (Nat.le_of_ble_eq_true rfl) rfl (fun _ _ h => h.elim) (fun _ _ h => h) (fun r14 M13 hw => ?_)
  refine x_puti 0 (ty := .int) hA d_O_unset_10 hO.1 hO.2.1 rfl rfl (by decide) lay_O (List.mem_cons_of_mem _ q446) rfl ty_O ty_O_ok nm_O rfl (by decide +kernel) rfl rfl (fun M15 e16 => ?_)
  have hw := hw M15 e16
  clear e16
  refine x_aload_n 0 0 d_O_unset_13 rfl rfl ?_
  refine x_geti 0 d_O_unset_14 hO.1 hO.2.1 rfl rfl (by decide) lay_O (List.mem_cons_of_mem _ q446) rfl ?_
  refine x_if_le 22 d_O_unset_17 rfl (fun hc => ?_) (fun hc => ?_)
  · have hw := hw.1 hc
    refine x_aload_n 0 0 d_O_unset_22 rfl rfl ?_
    refine x_bipush (v := 10) d_O_unset_23 (by decide) ?_
    refine x_iload_n 1 1 d_O_unset_25 rfl rfl ?_
    refine x_iadd d_O_unset_26 ?_
    refine x_iload_n 2 2 d_O_unset_27 rfl rfl ?_
    refine x_iload_n 3 3 d_O_unset_28 rfl rfl ?_
    refine x_callVi (As := [.int ((10 : Int32) + a1), .int a2, .int a3]) (t := 116) (rest := []) (rc := 0) (rs := 0) (c_O_find hA hT hO hw) cw_O_unset_O_find_115 hO.1 hO.2.1 rfl d_O_unset_29 rfl rfl (Nat.le_of_ble_eq_true rfl) rfl (fun _ _ h => h.elim) (fun _ _ h => h) (fun r18 M17 hw => ?_)
    refine x_istore 5 [(5, .int r18), (0, .ref 116), (1, .int a1), (2, .int a2), (3, .int a3), (4, .int a4)] d_O_unset_32 (by decide) rfl ?_
    refine x_aload_n 0 1 d_O_unset_34 rfl rfl ?_
    refine x_iload 5 0 d_O_unset_35 rfl ?_
    refine x_iload 4 5 d_O_unset_37 rfl ?_
    refine x_callVi (As := [.int r18, .int a4]) (t := 116) (rest := []) (rc := 0) (rs := 0) (c_O_isSet hA hT hO hw) cw_O_unset_O_isSet_98 hO.1 hO.2.1 rfl d_O_unset_39 rfl rfl (Nat.le_of_ble_eq_true rfl) rfl (fun _ _ h => h.elim) (fun _ _ h => h) (fun r20 M19 hw => ?_)
    refine x_istore 6 [(6, .int r20), (5, .int r18), (0, .ref 116), (1, .int a1), (2, .int a2), (3, .int a3), (4, .int a4)] d_O_unset_42 (by decide) rfl ?_
    refine x_aload_n 0 2 d_O_unset_44 rfl rfl ?_
    refine x_getr 18 131 d_O_unset_45 hO.1 hO.2.1 rfl rfl (by decide) lay_O (List.mem_cons_of_mem _ q472) rfl ?_
    refine x_iload 5 1 d_O_unset_48 rfl ?_
    refine x_aload_n 0 2 d_O_unset_50 rfl rfl ?_
    refine x_getr 18 131 d_O_unset_51 hO.1 hO.2.1 rfl rfl (by decide) lay_O (List.mem_cons_of_mem _ q472) rfl ?_
    refine x_iload 5 1 d_O_unset_54 rfl ?_
    obtain ⟨hi21, hw⟩ := hw
    refine x_iald d_O_unset_56 hO.bits.1 hO.bits.2 rfl hi21 ?_
    refine x_iconst (v := 1) d_O_unset_57 (by decide) ?_
    refine x_iload 4 6 d_O_unset_58 rfl ?_
    refine x_ishl d_O_unset_60 ?_
    refine x_iconst (v := (-1)) d_O_unset_61 (by decide) ?_
    refine x_ixor d_O_unset_62 ?_
    refine x_iand d_O_unset_63 ?_
    obtain ⟨hi22, hw⟩ := hw
    refine x_iast hA d_O_unset_64 hO.bits.1 hO.bits.2 rfl hi22 (fun M23 e24 => ?_)
    have hw := hw M23 e24
    clear e24
    refine x_iload 6 0 d_O_unset_65 rfl ?_
    exact x_zret d_O_unset_67 rfl (sdB_n hw.1) (fun _ h => h) ⟨_, rfl, hw.2⟩
  · have hw := hw.2 hc
    refine x_iconst (v := 0) d_O_unset_20 (by decide) ?_
    exact x_zret d_O_unset_21 rfl (sdB_n hw.1) (fun _ h => h) ⟨_, rfl, hw.2⟩
end
abbrev y_O_get : MethodName := ⟨"SettingsDeskModel", "get", "(IIII)I"⟩
theorem d_O_get_0 : decode prog_12_method_34_code 0 = .ok (.iload_n 1, 1) := by decide +kernel
theorem d_O_get_1 : decode prog_12_method_34_code 1 = .ok (.ifCond .lt (22), 3) := by decide +kernel
theorem d_O_get_4 : decode prog_12_method_34_code 4 = .ok (.iload_n 1, 1) := by decide +kernel
theorem d_O_get_5 : decode prog_12_method_34_code 5 = .ok (.iconst 4, 1) := by decide +kernel
theorem d_O_get_6 : decode prog_12_method_34_code 6 = .ok (.if_icmp .gt (17), 3) := by decide +kernel
theorem d_O_get_9 : decode prog_12_method_34_code 9 = .ok (.aload_n 0, 1) := by decide +kernel
theorem d_O_get_10 : decode prog_12_method_34_code 10 = .ok (.iload_n 2, 1) := by decide +kernel
theorem d_O_get_11 : decode prog_12_method_34_code 11 = .ok (.iload 4, 2) := by decide +kernel
theorem d_O_get_13 : decode prog_12_method_34_code 13 = .ok (.invokevirtual 83, 3) := by decide +kernel
theorem d_O_get_16 : decode prog_12_method_34_code 16 = .ok (.ifCond .eq (7), 3) := by decide +kernel
theorem d_O_get_19 : decode prog_12_method_34_code 19 = .ok (.iconst 1, 1) := by decide +kernel
theorem d_O_get_20 : decode prog_12_method_34_code 20 = .ok (.goto (4), 3) := by decide +kernel
theorem d_O_get_23 : decode prog_12_method_34_code 23 = .ok (.iconst 0, 1) := by decide +kernel
theorem d_O_get_24 : decode prog_12_method_34_code 24 = .ok (.istore 5, 2) := by decide +kernel
theorem d_O_get_26 : decode prog_12_method_34_code 26 = .ok (.aload_n 0, 1) := by decide +kernel
theorem d_O_get_27 : decode prog_12_method_34_code 27 = .ok (.aload_n 0, 1) := by decide +kernel
theorem d_O_get_28 : decode prog_12_method_34_code 28 = .ok (.invokevirtual 153, 3) := by decide +kernel
theorem d_O_get_31 : decode prog_12_method_34_code 31 = .ok (.ifCond .eq (7), 3) := by decide +kernel
theorem d_O_get_34 : decode prog_12_method_34_code 34 = .ok (.iconst 1, 1) := by decide +kernel
theorem d_O_get_35 : decode prog_12_method_34_code 35 = .ok (.goto (31), 3) := by decide +kernel
theorem d_O_get_38 : decode prog_12_method_34_code 38 = .ok (.iload 5, 2) := by decide +kernel
theorem d_O_get_40 : decode prog_12_method_34_code 40 = .ok (.ifCond .ne (7), 3) := by decide +kernel
theorem d_O_get_43 : decode prog_12_method_34_code 43 = .ok (.iconst 2, 1) := by decide +kernel
theorem d_O_get_44 : decode prog_12_method_34_code 44 = .ok (.goto (22), 3) := by decide +kernel
theorem d_O_get_47 : decode prog_12_method_34_code 47 = .ok (.iload_n 1, 1) := by decide +kernel
theorem d_O_get_48 : decode prog_12_method_34_code 48 = .ok (.iconst 3, 1) := by decide +kernel
theorem d_O_get_49 : decode prog_12_method_34_code 49 = .ok (.if_icmp .ge (16), 3) := by decide +kernel
theorem d_O_get_52 : decode prog_12_method_34_code 52 = .ok (.aload_n 0, 1) := by decide +kernel
theorem d_O_get_53 : decode prog_12_method_34_code 53 = .ok (.getfield 63, 3) := by decide +kernel
theorem d_O_get_56 : decode prog_12_method_34_code 56 = .ok (.iload_n 1, 1) := by decide +kernel
theorem d_O_get_57 : decode prog_12_method_34_code 57 = .ok (.baload, 1) := by decide +kernel
theorem d_O_get_58 : decode prog_12_method_34_code 58 = .ok (.ifCond .ne (7), 3) := by decide +kernel
theorem d_O_get_61 : decode prog_12_method_34_code 61 = .ok (.iconst 1, 1) := by decide +kernel
theorem d_O_get_62 : decode prog_12_method_34_code 62 = .ok (.goto (4), 3) := by decide +kernel
theorem d_O_get_65 : decode prog_12_method_34_code 65 = .ok (.iconst 0, 1) := by decide +kernel
theorem d_O_get_66 : decode prog_12_method_34_code 66 = .ok (.putfield 69, 3) := by decide +kernel
theorem d_O_get_69 : decode prog_12_method_34_code 69 = .ok (.aload_n 0, 1) := by decide +kernel
theorem d_O_get_70 : decode prog_12_method_34_code 70 = .ok (.getfield 69, 3) := by decide +kernel
theorem d_O_get_73 : decode prog_12_method_34_code 73 = .ok (.ifCond .le (5), 3) := by decide +kernel
theorem d_O_get_76 : decode prog_12_method_34_code 76 = .ok (.iconst 0, 1) := by decide +kernel
theorem d_O_get_77 : decode prog_12_method_34_code 77 = .ok (.ireturn, 1) := by decide +kernel
theorem d_O_get_78 : decode prog_12_method_34_code 78 = .ok (.aload_n 0, 1) := by decide +kernel
theorem d_O_get_79 : decode prog_12_method_34_code 79 = .ok (.iload_n 1, 1) := by decide +kernel
theorem d_O_get_80 : decode prog_12_method_34_code 80 = .ok (.iconst 3, 1) := by decide +kernel
theorem d_O_get_81 : decode prog_12_method_34_code 81 = .ok (.if_icmp .ge (10), 3) := by decide +kernel
theorem d_O_get_84 : decode prog_12_method_34_code 84 = .ok (.bipush (10), 2) := by decide +kernel
theorem d_O_get_86 : decode prog_12_method_34_code 86 = .ok (.iload_n 1, 1) := by decide +kernel
theorem d_O_get_87 : decode prog_12_method_34_code 87 = .ok (.iadd, 1) := by decide +kernel
theorem d_O_get_88 : decode prog_12_method_34_code 88 = .ok (.goto (13), 3) := by decide +kernel
theorem d_O_get_91 : decode prog_12_method_34_code 91 = .ok (.iload_n 1, 1) := by decide +kernel
theorem d_O_get_92 : decode prog_12_method_34_code 92 = .ok (.iconst 3, 1) := by decide +kernel
theorem d_O_get_93 : decode prog_12_method_34_code 93 = .ok (.if_icmp .ne (7), 3) := by decide +kernel
theorem d_O_get_96 : decode prog_12_method_34_code 96 = .ok (.iconst 0, 1) := by decide +kernel
theorem d_O_get_97 : decode prog_12_method_34_code 97 = .ok (.goto (4), 3) := by decide +kernel
theorem d_O_get_100 : decode prog_12_method_34_code 100 = .ok (.iconst 1, 1) := by decide +kernel
theorem d_O_get_101 : decode prog_12_method_34_code 101 = .ok (.iload_n 2, 1) := by decide +kernel
theorem d_O_get_102 : decode prog_12_method_34_code 102 = .ok (.iload_n 3, 1) := by decide +kernel
theorem d_O_get_103 : decode prog_12_method_34_code 103 = .ok (.invokevirtual 115, 3) := by decide +kernel
theorem d_O_get_106 : decode prog_12_method_34_code 106 = .ok (.istore 6, 2) := by decide +kernel
theorem d_O_get_108 : decode prog_12_method_34_code 108 = .ok (.iload 6, 2) := by decide +kernel
theorem d_O_get_110 : decode prog_12_method_34_code 110 = .ok (.ifCond .lt (19), 3) := by decide +kernel
theorem d_O_get_113 : decode prog_12_method_34_code 113 = .ok (.aload_n 0, 1) := by decide +kernel
theorem d_O_get_114 : decode prog_12_method_34_code 114 = .ok (.iload 6, 2) := by decide +kernel
theorem d_O_get_116 : decode prog_12_method_34_code 116 = .ok (.iload_n 2, 1) := by decide +kernel
theorem d_O_get_117 : decode prog_12_method_34_code 117 = .ok (.iload 4, 2) := by decide +kernel
theorem d_O_get_119 : decode prog_12_method_34_code 119 = .ok (.invokevirtual 108, 3) := by decide +kernel
theorem d_O_get_122 : decode prog_12_method_34_code 122 = .ok (.ifCond .eq (7), 3) := by decide +kernel
theorem d_O_get_125 : decode prog_12_method_34_code 125 = .ok (.iconst 1, 1) := by decide +kernel
theorem d_O_get_126 : decode prog_12_method_34_code 126 = .ok (.goto (4), 3) := by decide +kernel
theorem d_O_get_129 : decode prog_12_method_34_code 129 = .ok (.iconst 0, 1) := by decide +kernel
theorem d_O_get_130 : decode prog_12_method_34_code 130 = .ok (.istore 7, 2) := by decide +kernel
theorem d_O_get_132 : decode prog_12_method_34_code 132 = .ok (.aload_n 0, 1) := by decide +kernel
theorem d_O_get_133 : decode prog_12_method_34_code 133 = .ok (.iload 7, 2) := by decide +kernel
theorem d_O_get_135 : decode prog_12_method_34_code 135 = .ok (.ifCond .eq (7), 3) := by decide +kernel
theorem d_O_get_138 : decode prog_12_method_34_code 138 = .ok (.iconst 0, 1) := by decide +kernel
theorem d_O_get_139 : decode prog_12_method_34_code 139 = .ok (.goto (4), 3) := by decide +kernel
theorem d_O_get_142 : decode prog_12_method_34_code 142 = .ok (.iconst 3, 1) := by decide +kernel
theorem d_O_get_143 : decode prog_12_method_34_code 143 = .ok (.putfield 69, 3) := by decide +kernel
theorem d_O_get_146 : decode prog_12_method_34_code 146 = .ok (.iload 7, 2) := by decide +kernel
theorem d_O_get_148 : decode prog_12_method_34_code 148 = .ok (.ifCond .eq (15), 3) := by decide +kernel
theorem d_O_get_151 : decode prog_12_method_34_code 151 = .ok (.aload_n 0, 1) := by decide +kernel
theorem d_O_get_152 : decode prog_12_method_34_code 152 = .ok (.iload 6, 2) := by decide +kernel
theorem d_O_get_154 : decode prog_12_method_34_code 154 = .ok (.iload_n 2, 1) := by decide +kernel
theorem d_O_get_155 : decode prog_12_method_34_code 155 = .ok (.iload 4, 2) := by decide +kernel
theorem d_O_get_157 : decode prog_12_method_34_code 157 = .ok (.invokevirtual 111, 3) := by decide +kernel
theorem d_O_get_160 : decode prog_12_method_34_code 160 = .ok (.goto (4), 3) := by decide +kernel
theorem d_O_get_163 : decode prog_12_method_34_code 163 = .ok (.iconst 0, 1) := by decide +kernel
theorem d_O_get_164 : decode prog_12_method_34_code 164 = .ok (.ireturn, 1) := by decide +kernel
def Y_O_get : sdY := ("SettingsDeskModel", prog_12_method_34_code, 8, (some .int), .code y_O_get prog_12_method_34_code 8 (some .int) :: sdB0, { frames := 2, cells := 0, slots := 0, locals := 45 }, 0, 0, [])
theorem cw_O_get_O_isLeaf_83 : sd_cwV Y_O_get Y_O_isLeaf y_O_isLeaf 83 2 "SettingsDeskModel" := ⟨sd_goodV q462 q464 q465 q459 q463, ⟨_, rfl⟩, ⟨rfl, rfl, rfl, rfl⟩, ⟨rfl, by decide, by decide, by decide +kernel⟩, ⟨by decide, by decide⟩⟩
theorem cw_O_get_O_isDown_153 : sd_cwV Y_O_get Y_O_isDown y_O_isDown 153 0 "SettingsDeskModel" := ⟨sd_goodV q520 q522 q523 q459 q521, ⟨_, rfl⟩, ⟨rfl, rfl, rfl, rfl⟩, ⟨rfl, by decide, by decide, by decide +kernel⟩, ⟨by decide, by decide⟩⟩
theorem cw_O_get_O_find_115 : sd_cwV Y_O_get Y_O_find y_O_find 115 3 "SettingsDeskModel" := ⟨sd_goodV q492 q494 q495 q459 q493, ⟨_, rfl⟩, ⟨rfl, rfl, rfl, rfl⟩, ⟨rfl, by decide, by decide, by decide +kernel⟩, ⟨by decide, by decide⟩⟩
theorem cw_O_get_O_isSomething_108 : sd_cwV Y_O_get Y_O_isSomething y_O_isSomething 108 3 "SettingsDeskModel" := ⟨sd_goodV q480 q482 q483 q459 q481, ⟨_, rfl⟩, ⟨rfl, rfl, rfl, rfl⟩, ⟨rfl, by decide, by decide, by decide +kernel⟩, ⟨by decide, by decide⟩⟩
theorem cw_O_get_O_valueOf_111 : sd_cwV Y_O_get Y_O_valueOf y_O_valueOf 111 3 "SettingsDeskModel" := ⟨sd_goodV q484 q486 q487 q459 q485, ⟨_, rfl⟩, ⟨rfl, rfl, rfl, rfl⟩, ⟨rfl, by decide, by decide, by decide +kernel⟩, ⟨by decide, by decide⟩⟩
section
variable {l : Launch} {D : va_G} {dA : Nat → ClassId} {b n : Nat} {ad : Nat → Nat} {L : Nat → sdL} {sc : Option (Nat × Nat × (Nat → Int32))}
def k_O_get_164 (Q : Int32 → sdM → Prop) (M : sdM) (s0 : Int32) : Prop := Q s0 M
set_option maxHeartbeats 1000000 in
theorem t_O_get_164 (hA : sd_ad b n ad) (hT : l.stackTraces = false) (hO : isO n L dA) {Q : Int32 → sdM → Prop} (M : sdM) (s0 : Int32) (hw : k_O_get_164 Q M s0) : sdW l (sdE0 sc) Y_O_get D (sd_tys dA) b n ad L ad (sd_H D (sdE0 sc).1 n ad L) (sd_qi Q) sd_xf 164 [] [.int s0] M 0 0 := by
  unfold k_O_get_164 at hw
  exact x_iret d_O_get_164 rfl (fun _ h => h) ⟨_, rfl, hw⟩
def k_O_get_143 (Q : Int32 → sdM → Prop) (M : sdM) (x2 : Int32) (x4 : Int32) (x6 : Int32) (x7 : Int32) (s1 : Int32) : Prop := ∀ M16 : sdM, M16 = sd_s M 116 0 s1 → (x7 = 0 → k_O_get_164 Q M16 (0 : Int32)) ∧ (¬ x7 = 0 → w_O_valueOf M16 x6 x2 x4 (fun r19 M18 => k_O_get_164 Q M18 r19))
set_option maxHeartbeats 1000000 in
theorem t_O_get_143 (hA : sd_ad b n ad) (hT : l.stackTraces = false) (hO : isO n L dA) {Q : Int32 → sdM → Prop} (M : sdM) (x2 : Int32) (x4 : Int32) (x6 : Int32) (x7 : Int32) (s1 : Int32) (hw : k_O_get_143 Q M x2 x4 x6 x7 s1) : sdW l (sdE0 sc) Y_O_get D (sd_tys dA) b n ad L ad (sd_H D (sdE0 sc).1 n ad L) (sd_qi Q) sd_xf 143 [(0, .ref 116), (2, .int x2), (4, .int x4), (6, .int x6), (7, .int x7)] [.int s1, .ref 116] M 0 0 := by
  unfold k_O_get_143 at hw
  refine x_puti 0 (ty := .int) hA d_O_get_143 hO.1 hO.2.1 rfl rfl (by decide) lay_O (List.mem_cons_of_mem _ q446) rfl ty_O ty_O_ok nm_O rfl (by decide +kernel) rfl rfl (fun M16 e17 => ?_)
  have hw := hw M16 e17
  clear e17
  refine x_iload 7 4 d_O_get_146 rfl ?_
  refine x_if_eq 163 d_O_get_148 rfl (fun hc => ?_) (fun hc => ?_)
  · have hw := hw.1 hc
    refine x_iconst (v := 0) d_O_get_163 (by decide) ?_
    refine x_sub [] [] rfl ?_
    exact t_O_get_164 hA hT hO M16 (0 : Int32) hw
  · have hw := hw.2 hc
    refine x_aload_n 0 0 d_O_get_151 rfl rfl ?_
    refine x_iload 6 3 d_O_get_152 rfl ?_
    refine x_iload_n 2 1 d_O_get_154 rfl rfl ?_
    refine x_iload 4 2 d_O_get_155 rfl ?_
    refine x_callVi (As := [.int x6, .int x2, .int x4]) (t := 116) (rest := []) (rc := 0) (rs := 0) (c_O_valueOf hA hT hO hw) cw_O_get_O_valueOf_111 hO.1 hO.2.1 rfl d_O_get_157 rfl rfl (Nat.le_of_ble_eq_true rfl) rfl (fun _ _ h => h.elim) (fun _ _ h => h) (fun r19 M18 hw => ?_)
    refine x_goto 164 d_O_get_160 rfl ?_
    refine x_sub [] [] rfl ?_
    exact t_O_get_164 hA hT hO M18 r19 hw
def k_O_get_130 (Q : Int32 → sdM → Prop) (M : sdM) (x2 : Int32) (x4 : Int32) (x6 : Int32) (s0 : Int32) : Prop := (s0 = 0 → k_O_get_143 Q M x2 x4 x6 s0 (3 : Int32)) ∧ (¬ s0 = 0 → k_O_get_143 Q M x2 x4 x6 s0 (0 : Int32))
set_option maxHeartbeats 1000000 in
theorem t_O_get_130 (hA : sd_ad b n ad) (hT : l.stackTraces = false) (hO : isO n L dA) {Q : Int32 → sdM → Prop} (M : sdM) (x2 : Int32) (x4 : Int32) (x6 : Int32) (s0 : Int32) (hw : k_O_get_130 Q M x2 x4 x6 s0) : sdW l (sdE0 sc) Y_O_get D (sd_tys dA) b n ad L ad (sd_H D (sdE0 sc).1 n ad L) (sd_qi Q) sd_xf 130 [(0, .ref 116), (2, .int x2), (4, .int x4), (6, .int x6)] [.int s0] M 0 0 := by
  unfold k_O_get_130 at hw
  refine x_istore 7 [(7, .int s0), (0, .ref 116), (2, .int x2), (4, .int x4), (6, .int x6)] d_O_get_130 (by decide) rfl ?_
  refine x_aload_n 0 1 d_O_get_132 rfl rfl ?_
  refine x_iload 7 0 d_O_get_133 rfl ?_
  refine x_if_eq 142 d_O_get_135 rfl (fun hc => ?_) (fun hc => ?_)
  · have hw := hw.1 hc
    refine x_iconst (v := 3) d_O_get_142 (by decide) ?_
    refine x_sub [1, 2, 3, 4, 0] [(0, .ref 116), (2, .int x2), (4, .int x4), (6, .int x6), (7, .int s0)] rfl ?_
    exact t_O_get_143 hA hT hO M x2 x4 x6 s0 (3 : Int32) hw
  · have hw := hw.2 hc
    refine x_iconst (v := 0) d_O_get_138 (by decide) ?_
    refine x_goto 143 d_O_get_139 rfl ?_
    refine x_sub [1, 2, 3, 4, 0] [(0, .ref 116), (2, .int x2), (4, .int x4), (6, .int x6), (7, .int s0)] rfl ?_
    exact t_O_get_143 hA hT hO M x2 x4 x6 s0 (0 : Int32) hw
def k_O_get_129 (Q : Int32 → sdM → Prop) (M : sdM) (x2 : Int32) (x4 : Int32) (x6 : Int32) : Prop := k_O_get_130 Q M x2 x4 x6 (0 : Int32)
set_option maxHeartbeats 1000000 in
theorem t_O_get_129 (hA : sd_ad b n ad) (hT : l.stackTraces = false) (hO : isO n L dA) {Q : Int32 → sdM → Prop} (M : sdM) (x2 : Int32) (x4 : Int32) (x6 : Int32) (hw : k_O_get_129 Q M x2 x4 x6) : sdW l (sdE0 sc) Y_O_get D (sd_tys dA) b n ad L ad (sd_H D (sdE0 sc).1 n ad L) (sd_qi Q) sd_xf 129 [(0, .ref 116), (2, .int x2), (4, .int x4), (6, .int x6)] [] M 0 0 := by
  unfold k_O_get_129 at hw
  refine x_iconst (v := 0) d_O_get_129 (by decide) ?_
  exact t_O_get_130 hA hT hO M x2 x4 x6 (0 : Int32) hw
def k_O_get_101 (Q : Int32 → sdM → Prop) (M : sdM) (x2 : Int32) (x3 : Int32) (x4 : Int32) (s1 : Int32) : Prop := w_O_find M s1 x2 x3 (fun r21 M20 => (r21 < 0 → k_O_get_129 Q M20 x2 x4 r21) ∧ (¬ r21 < 0 → w_O_isSomething M20 r21 x2 x4 (fun r23 M22 => (r23 = 0 → k_O_get_129 Q M22 x2 x4 r21) ∧ (¬ r23 = 0 → k_O_get_130 Q M22 x2 x4 r21 (1 : Int32)))))
set_option maxHeartbeats 1000000 in
theorem t_O_get_101 (hA : sd_ad b n ad) (hT : l.stackTraces = false) (hO : isO n L dA) {Q : Int32 → sdM → Prop} (M : sdM) (x2 : Int32) (x3 : Int32) (x4 : Int32) (s1 : Int32) (hw : k_O_get_101 Q M x2 x3 x4 s1) : sdW l (sdE0 sc) Y_O_get D (sd_tys dA) b n ad L ad (sd_H D (sdE0 sc).1 n ad L) (sd_qi Q) sd_xf 101 [(0, .ref 116), (2, .int x2), (3, .int x3), (4, .int x4)] [.int s1, .ref 116] M 0 0 := by
  unfold k_O_get_101 at hw
  refine x_iload_n 2 1 d_O_get_101 rfl rfl ?_
  refine x_iload_n 3 2 d_O_get_102 rfl rfl ?_
  refine x_callVi (As := [.int s1, .int x2, .int x3]) (t := 116) (rest := []) (rc := 0) (rs := 0) (c_O_find hA hT hO hw) cw_O_get_O_find_115 hO.1 hO.2.1 rfl d_O_get_103 rfl rfl (Nat.le_of_ble_eq_true rfl) rfl (fun _ _ h => h.elim) (fun _ _ h => h) (fun r21 M20 hw => ?_)
  refine x_istore 6 [(6, .int r21), (0, .ref 116), (2, .int x2), (3, .int x3), (4, .int x4)] d_O_get_106 (by decide) rfl ?_
  refine x_iload 6 0 d_O_get_108 rfl ?_
  refine x_if_lt 129 d_O_get_110 rfl (fun hc => ?_) (fun hc => ?_)
  · have hw := hw.1 hc
    refine x_sub [1, 2, 4, 0] [(0, .ref 116), (2, .int x2), (4, .int x4), (6, .int r21)] rfl ?_
    exact t_O_get_129 hA hT hO M20 x2 x4 r21 hw
  · have hw := hw.2 hc
    refine x_aload_n 0 1 d_O_get_113 rfl rfl ?_
    refine x_iload 6 0 d_O_get_114 rfl ?_
    refine x_iload_n 2 2 d_O_get_116 rfl rfl ?_
    refine x_iload 4 4 d_O_get_117 rfl ?_
    refine x_callVi (As := [.int r21, .int x2, .int x4]) (t := 116) (rest := []) (rc := 0) (rs := 0) (c_O_isSomething hA hT hO hw) cw_O_get_O_isSomething_108 hO.1 hO.2.1 rfl d_O_get_119 rfl rfl (Nat.le_of_ble_eq_true rfl) rfl (fun _ _ h => h.elim) (fun _ _ h => h) (fun r23 M22 hw => ?_)
    refine x_if_eq 129 d_O_get_122 rfl (fun hc => ?_) (fun hc => ?_)
    · have hw := hw.1 hc
      refine x_sub [1, 2, 4, 0] [(0, .ref 116), (2, .int x2), (4, .int x4), (6, .int r21)] rfl ?_
      exact t_O_get_129 hA hT hO M22 x2 x4 r21 hw
    · have hw := hw.2 hc
      refine x_iconst (v := 1) d_O_get_125 (by decide) ?_
      refine x_goto 130 d_O_get_126 rfl ?_
      refine x_sub [1, 2, 4, 0] [(0, .ref 116), (2, .int x2), (4, .int x4), (6, .int r21)] rfl ?_
      exact t_O_get_130 hA hT hO M22 x2 x4 r21 (1 : Int32) hw
def k_O_get_66 (Q : Int32 → sdM → Prop) (M : sdM) (x1 : Int32) (x2 : Int32) (x3 : Int32) (x4 : Int32) (s1 : Int32) : Prop := ∀ M24 : sdM, M24 = sd_s M 116 0 s1 → ((M24 116 0) ≤ 0 → ((3 : Int32) ≤ x1 → (¬ x1 = (3 : Int32) → k_O_get_101 Q M24 x2 x3 x4 (1 : Int32)) ∧ (x1 = (3 : Int32) → k_O_get_101 Q M24 x2 x3 x4 (0 : Int32))) ∧ (¬ (3 : Int32) ≤ x1 → k_O_get_101 Q M24 x2 x3 x4 ((10 : Int32) + x1))) ∧ (¬ (M24 116 0) ≤ 0 → Q (0 : Int32) M24)
set_option maxHeartbeats 1000000 in
theorem t_O_get_66 (hA : sd_ad b n ad) (hT : l.stackTraces = false) (hO : isO n L dA) {Q : Int32 → sdM → Prop} (M : sdM) (x1 : Int32) (x2 : Int32) (x3 : Int32) (x4 : Int32) (s1 : Int32) (hw : k_O_get_66 Q M x1 x2 x3 x4 s1) : sdW l (sdE0 sc) Y_O_get D (sd_tys dA) b n ad L ad (sd_H D (sdE0 sc).1 n ad L) (sd_qi Q) sd_xf 66 [(0, .ref 116), (1, .int x1), (2, .int x2), (3, .int x3), (4, .int x4)] [.int s1, .ref 116] M 0 0 := by
  unfold k_O_get_66 at hw
  refine x_puti 0 (ty := .int) hA d_O_get_66 hO.1 hO.2.1 rfl rfl (by decide) lay_O (List.mem_cons_of_mem _ q446) rfl ty_O ty_O_ok nm_O rfl (by decide +kernel) rfl rfl (fun M24 e25 => ?_)
  have hw := hw M24 e25
  clear e25
  refine x_aload_n 0 0 d_O_get_69 rfl rfl ?_
  refine x_geti 0 d_O_get_70 hO.1 hO.2.1 rfl rfl (by decide) lay_O (List.mem_cons_of_mem _ q446) rfl ?_
  refine x_if_le 78 d_O_get_73 rfl (fun hc => ?_) (fun hc => ?_)
  · have hw := hw.1 hc
    refine x_aload_n 0 0 d_O_get_78 rfl rfl ?_
    refine x_iload_n 1 1 d_O_get_79 rfl rfl ?_
    refine x_iconst (v := 3) d_O_get_80 (by decide) ?_
    refine x_icmp_ge 91 d_O_get_81 rfl (fun hc => ?_) (fun hc => ?_)
    · have hw := hw.1 hc
      refine x_iload_n 1 1 d_O_get_91 rfl rfl ?_
      refine x_iconst (v := 3) d_O_get_92 (by decide) ?_
      refine x_icmp_ne 100 d_O_get_93 rfl (fun hc => ?_) (fun hc => ?_)
      · have hw := hw.1 hc
        refine x_iconst (v := 1) d_O_get_100 (by decide) ?_
        refine x_sub [0, 2, 3, 4] [(0, .ref 116), (2, .int x2), (3, .int x3), (4, .int x4)] rfl ?_
        exact t_O_get_101 hA hT hO M24 x2 x3 x4 (1 : Int32) hw
      · have hw := hw.2 hc
        refine x_iconst (v := 0) d_O_get_96 (by decide) ?_
        refine x_goto 101 d_O_get_97 rfl ?_
        refine x_sub [0, 2, 3, 4] [(0, .ref 116), (2, .int x2), (3, .int x3), (4, .int x4)] rfl ?_
        exact t_O_get_101 hA hT hO M24 x2 x3 x4 (0 : Int32) hw
    · have hw := hw.2 hc
      refine x_bipush (v := 10) d_O_get_84 (by decide) ?_
      refine x_iload_n 1 1 d_O_get_86 rfl rfl ?_
      refine x_iadd d_O_get_87 ?_
      refine x_goto 101 d_O_get_88 rfl ?_
      refine x_sub [0, 2, 3, 4] [(0, .ref 116), (2, .int x2), (3, .int x3), (4, .int x4)] rfl ?_
      exact t_O_get_101 hA hT hO M24 x2 x3 x4 ((10 : Int32) + x1) hw
  · have hw := hw.2 hc
    refine x_iconst (v := 0) d_O_get_76 (by decide) ?_
    exact x_iret d_O_get_77 rfl (fun _ h => h) ⟨_, rfl, hw⟩
def k_O_get_65 (Q : Int32 → sdM → Prop) (M : sdM) (x1 : Int32) (x2 : Int32) (x3 : Int32) (x4 : Int32) : Prop := k_O_get_66 Q M x1 x2 x3 x4 (0 : Int32)
set_option maxHeartbeats 1000000 in
theorem t_O_get_65 (hA : sd_ad b n ad) (hT : l.stackTraces = false) (hO : isO n L dA) {Q : Int32 → sdM → Prop} (M : sdM) (x1 : Int32) (x2 : Int32) (x3 : Int32) (x4 : Int32) (hw : k_O_get_65 Q M x1 x2 x3 x4) : sdW l (sdE0 sc) Y_O_get D (sd_tys dA) b n ad L ad (sd_H D (sdE0 sc).1 n ad L) (sd_qi Q) sd_xf 65 [(0, .ref 116), (1, .int x1), (2, .int x2), (3, .int x3), (4, .int x4)] [.ref 116] M 0 0 := by
  unfold k_O_get_65 at hw
  refine x_iconst (v := 0) d_O_get_65 (by decide) ?_
  exact t_O_get_66 hA hT hO M x1 x2 x3 x4 (0 : Int32) hw
def k_O_get_24 (Q : Int32 → sdM → Prop) (M : sdM) (x1 : Int32) (x2 : Int32) (x3 : Int32) (x4 : Int32) (s0 : Int32) : Prop := w_O_isDown M (fun r27 M26 => (r27 = 0 → (¬ s0 = 0 → ((3 : Int32) ≤ x1 → k_O_get_65 Q M26 x1 x2 x3 x4) ∧ (¬ (3 : Int32) ≤ x1 → vp_in x1 3 ∧ (¬ (M26 133 x1.toNatClampNeg) = 0 → k_O_get_65 Q M26 x1 x2 x3 x4) ∧ ((M26 133 x1.toNatClampNeg) = 0 → k_O_get_66 Q M26 x1 x2 x3 x4 (1 : Int32)))) ∧ (s0 = 0 → k_O_get_66 Q M26 x1 x2 x3 x4 (2 : Int32))) ∧ (¬ r27 = 0 → k_O_get_66 Q M26 x1 x2 x3 x4 (1 : Int32)))
set_option maxHeartbeats 1000000 in
theorem t_O_get_24 (hA : sd_ad b n ad) (hT : l.stackTraces = false) (hO : isO n L dA) {Q : Int32 → sdM → Prop} (M : sdM) (x1 : Int32) (x2 : Int32) (x3 : Int32) (x4 : Int32) (s0 : Int32) (hw : k_O_get_24 Q M x1 x2 x3 x4 s0) : sdW l (sdE0 sc) Y_O_get D (sd_tys dA) b n ad L ad (sd_H D (sdE0 sc).1 n ad L) (sd_qi Q) sd_xf 24 [(0, .ref 116), (1, .int x1), (2, .int x2), (3, .int x3), (4, .int x4)] [.int s0] M 0 0 := by
  unfold k_O_get_24 at hw
  refine x_istore 5 [(5, .int s0), (0, .ref 116), (1, .int x1), (2, .int x2), (3, .int x3), (4, .int x4)] d_O_get_24 (by decide) rfl ?_
  refine x_aload_n 0 1 d_O_get_26 rfl rfl ?_
  refine x_aload_n 0 1 d_O_get_27 rfl rfl ?_
  refine x_callVi (As := []) (t := 116) (rest := [.ref 116]) (rc := 0) (rs := 0) (c_O_isDown hA hT hO hw) cw_O_get_O_isDown_153 hO.1 hO.2.1 rfl d_O_get_28 rfl rfl (Nat.le_of_ble_eq_true rfl) rfl (fun _ _ h => h.elim) (fun _ _ h => h) (fun r27 M26 hw => ?_)
  refine x_if_eq 38 d_O_get_31 rfl (fun hc => ?_) (fun hc => ?_)
  · have hw := hw.1 hc
    refine x_iload 5 0 d_O_get_38 rfl ?_
    refine x_if_ne 47 d_O_get_40 rfl (fun hc => ?_) (fun hc => ?_)
    · have hw := hw.1 hc
      refine x_iload_n 1 2 d_O_get_47 rfl rfl ?_
      refine x_iconst (v := 3) d_O_get_48 (by decide) ?_
      refine x_icmp_ge 65 d_O_get_49 rfl (fun hc => ?_) (fun hc => ?_)
      · have hw := hw.1 hc
        refine x_sub [1, 2, 3, 4, 5] [(0, .ref 116), (1, .int x1), (2, .int x2), (3, .int x3), (4, .int x4)] rfl ?_
        exact t_O_get_65 hA hT hO M26 x1 x2 x3 x4 hw
      · have hw := hw.2 hc
        refine x_aload_n 0 1 d_O_get_52 rfl rfl ?_
        refine x_getr 22 133 d_O_get_53 hO.1 hO.2.1 rfl rfl (by decide) lay_O (List.mem_cons_of_mem _ q519) rfl ?_
        refine x_iload_n 1 2 d_O_get_56 rfl rfl ?_
        obtain ⟨hi28, hw⟩ := hw
        refine x_zald d_O_get_57 hO.begun.1 hO.begun.2 rfl hi28 ?_
        refine x_if_ne 65 d_O_get_58 rfl (fun hc => ?_) (fun hc => ?_)
        · have hw := hw.1 hc
          refine x_sub [1, 2, 3, 4, 5] [(0, .ref 116), (1, .int x1), (2, .int x2), (3, .int x3), (4, .int x4)] rfl ?_
          exact t_O_get_65 hA hT hO M26 x1 x2 x3 x4 hw
        · have hw := hw.2 hc
          refine x_iconst (v := 1) d_O_get_61 (by decide) ?_
          refine x_goto 66 d_O_get_62 rfl ?_
          refine x_sub [1, 2, 3, 4, 5] [(0, .ref 116), (1, .int x1), (2, .int x2), (3, .int x3), (4, .int x4)] rfl ?_
          exact t_O_get_66 hA hT hO M26 x1 x2 x3 x4 (1 : Int32) hw
    · have hw := hw.2 hc
      refine x_iconst (v := 2) d_O_get_43 (by decide) ?_
      refine x_goto 66 d_O_get_44 rfl ?_
      refine x_sub [1, 2, 3, 4, 5] [(0, .ref 116), (1, .int x1), (2, .int x2), (3, .int x3), (4, .int x4)] rfl ?_
      exact t_O_get_66 hA hT hO M26 x1 x2 x3 x4 (2 : Int32) hw
  · have hw := hw.2 hc
    refine x_iconst (v := 1) d_O_get_34 (by decide) ?_
    refine x_goto 66 d_O_get_35 rfl ?_
    refine x_sub [1, 2, 3, 4, 5] [(0, .ref 116), (1, .int x1), (2, .int x2), (3, .int x3), (4, .int x4)] rfl ?_
    exact t_O_get_66 hA hT hO M26 x1 x2 x3 x4 (1 : Int32) hw
def k_O_get_23 (Q : Int32 → sdM → Prop) (M : sdM) (x1 : Int32) (x2 : Int32) (x3 : Int32) (x4 : Int32) : Prop := k_O_get_24 Q M x1 x2 x3 x4 (0 : Int32)
set_option maxHeartbeats 1000000 in
theorem t_O_get_23 (hA : sd_ad b n ad) (hT : l.stackTraces = false) (hO : isO n L dA) {Q : Int32 → sdM → Prop} (M : sdM) (x1 : Int32) (x2 : Int32) (x3 : Int32) (x4 : Int32) (hw : k_O_get_23 Q M x1 x2 x3 x4) : sdW l (sdE0 sc) Y_O_get D (sd_tys dA) b n ad L ad (sd_H D (sdE0 sc).1 n ad L) (sd_qi Q) sd_xf 23 [(0, .ref 116), (1, .int x1), (2, .int x2), (3, .int x3), (4, .int x4)] [] M 0 0 := by
  unfold k_O_get_23 at hw
  refine x_iconst (v := 0) d_O_get_23 (by decide) ?_
  exact t_O_get_24 hA hT hO M x1 x2 x3 x4 (0 : Int32) hw
def w_O_get (M : sdM) (a1 : Int32) (a2 : Int32) (a3 : Int32) (a4 : Int32) (Q : Int32 → sdM → Prop) : Prop := (a1 < 0 → k_O_get_23 Q M a1 a2 a3 a4) ∧ (¬ a1 < 0 → ((4 : Int32) < a1 → k_O_get_23 Q M a1 a2 a3 a4) ∧ (¬ (4 : Int32) < a1 → w_O_isLeaf M a2 a4 (fun r30 M29 => (r30 = 0 → k_O_get_23 Q M29 a1 a2 a3 a4) ∧ (¬ r30 = 0 → k_O_get_24 Q M29 a1 a2 a3 a4 (1 : Int32)))))
set_option maxHeartbeats 1000000 in
theorem c_O_get {a1 : Int32} {a2 : Int32} {a3 : Int32} {a4 : Int32} (hA : sd_ad b n ad) (hT : l.stackTraces = false) (hO : isO n L dA) {Q : Int32 → sdM → Prop} {M : sdM} (hw : w_O_get M a1 a2 a3 a4 Q) : sd_Cn l (sdE0 sc) y_O_get Y_O_get.2.2.2.2.1 Y_O_get.2.2.2.2.2.1 0 0 D (sd_tys dA) b n ad L M [.ref 116, .int a1, .int a2, .int a3, .int a4] (sd_qi Q) sd_xf := by
  refine sd_enter (Y := Y_O_get) rfl rfl rfl rfl (Nat.le_of_ble_eq_true rfl) ?_
  show sdW l (sdE0 sc) Y_O_get D (sd_tys dA) b n ad L ad (sd_H D (sdE0 sc).1 n ad L) (sd_qi Q) sd_xf 0 [(0, .ref 116), (1, .int a1), (2, .int a2), (3, .int a3), (4, .int a4)] [] M 0 0
  unfold w_O_get at hw
  refine x_iload_n 1 1 d_O_get_0 rfl rfl ?_
  refine x_if_lt 23 d_O_get_1 rfl (fun hc => ?_) (fun hc => ?_)
  · have hw := hw.1 hc
    exact t_O_get_23 hA hT hO M a1 a2 a3 a4 hw
  · have hw := hw.2 hc
    refine x_iload_n 1 1 d_O_get_4 rfl rfl ?_
    refine x_iconst (v := 4) d_O_get_5 (by decide) ?_
    refine x_icmp_gt 23 d_O_get_6 rfl (fun hc => ?_) (fun hc => ?_)
    · have hw := hw.1 hc
      exact t_O_get_23 hA hT hO M a1 a2 a3 a4 hw
    · have hw := hw.2 hc
      refine x_aload_n 0 0 d_O_get_9 rfl rfl ?_
      refine x_iload_n 2 2 d_O_get_10 rfl rfl ?_
      refine x_iload 4 4 d_O_get_11 rfl ?_
      refine x_callVi (As := [.int a2, .int a4]) (t := 116) (rest := []) (rc := 0) (rs := 0) (c_O_isLeaf hA hT hO hw) cw_O_get_O_isLeaf_83 hO.1 hO.2.1 rfl d_O_get_13 rfl rfl (Nat.le_of_ble_eq_true rfl) rfl (fun _ _ h => h.elim) (fun _ _ h => h) (fun r30 M29 hw => ?_)
      refine x_if_eq 23 d_O_get_16 rfl (fun hc => ?_) (fun hc => ?_)
      · have hw := hw.1 hc
        exact t_O_get_23 hA hT hO M29 a1 a2 a3 a4 hw
      · have hw := hw.2 hc
        refine x_iconst (v := 1) d_O_get_19 (by decide) ?_
        refine x_goto 24 d_O_get_20 rfl ?_
        exact t_O_get_24 hA hT hO M29 a1 a2 a3 a4 (1 : Int32) hw
end
theorem q561 : (.fieldLink "SettingsDeskModel" 66 "SettingsDeskModel" "holder" "I" : Cond) ∈ sdB0 := sd_tb4 182 rfl rfl
theorem q562 : (.methodLink "SettingsDeskModel" 171 ⟨"SettingsDeskModel", "needs", "(I)I"⟩ : Cond) ∈ sdB0 := sd_tb5 145 rfl rfl
theorem q563 : (.code ⟨"SettingsDeskModel", "needs", "(I)I"⟩ prog_12_method_35_code 2 (some .int) : Cond) ∈ sdB0 := sd_tb5 148 rfl rfl
theorem q564 : (.instanceMethod ⟨"SettingsDeskModel", "needs", "(I)I"⟩ : Cond) ∈ sdB0 := sd_tb5 147 rfl rfl
theorem q565 : (.selects "SettingsDeskModel" ⟨"SettingsDeskModel", "needs", "(I)I"⟩ ⟨"SettingsDeskModel", "needs", "(I)I"⟩ : Cond) ∈ sdB0 := sd_tbp (q := (⟨"SettingsDeskModel", "needs", "(I)I"⟩, 35)) (List.mem_of_getElem? (i := 32) rfl)
abbrev y_O_lock : MethodName := ⟨"SettingsDeskModel", "lock", "(IZ)Z"⟩
theorem d_O_lock_0 : decode prog_12_method_36_code 0 = .ok (.aload_n 0, 1) := by decide +kernel
theorem d_O_lock_1 : decode prog_12_method_36_code 1 = .ok (.aload_n 0, 1) := by decide +kernel
theorem d_O_lock_2 : decode prog_12_method_36_code 2 = .ok (.iload_n 1, 1) := by decide +kernel
theorem d_O_lock_3 : decode prog_12_method_36_code 3 = .ok (.invokevirtual 171, 3) := by decide +kernel
theorem d_O_lock_6 : decode prog_12_method_36_code 6 = .ok (.putfield 69, 3) := by decide +kernel
theorem d_O_lock_9 : decode prog_12_method_36_code 9 = .ok (.aload_n 0, 1) := by decide +kernel
theorem d_O_lock_10 : decode prog_12_method_36_code 10 = .ok (.getfield 69, 3) := by decide +kernel
theorem d_O_lock_13 : decode prog_12_method_36_code 13 = .ok (.ifCond .le (5), 3) := by decide +kernel
theorem d_O_lock_16 : decode prog_12_method_36_code 16 = .ok (.iconst 0, 1) := by decide +kernel
theorem d_O_lock_17 : decode prog_12_method_36_code 17 = .ok (.ireturn, 1) := by decide +kernel
theorem d_O_lock_18 : decode prog_12_method_36_code 18 = .ok (.aload_n 0, 1) := by decide +kernel
theorem d_O_lock_19 : decode prog_12_method_36_code 19 = .ok (.getfield 66, 3) := by decide +kernel
theorem d_O_lock_22 : decode prog_12_method_36_code 22 = .ok (.iconst (-1), 1) := by decide +kernel
theorem d_O_lock_23 : decode prog_12_method_36_code 23 = .ok (.if_icmp .eq (11), 3) := by decide +kernel
theorem d_O_lock_26 : decode prog_12_method_36_code 26 = .ok (.aload_n 0, 1) := by decide +kernel
theorem d_O_lock_27 : decode prog_12_method_36_code 27 = .ok (.getfield 66, 3) := by decide +kernel
theorem d_O_lock_30 : decode prog_12_method_36_code 30 = .ok (.iload_n 1, 1) := by decide +kernel
theorem d_O_lock_31 : decode prog_12_method_36_code 31 = .ok (.if_icmp .ne (7), 3) := by decide +kernel
theorem d_O_lock_34 : decode prog_12_method_36_code 34 = .ok (.iconst 1, 1) := by decide +kernel
theorem d_O_lock_35 : decode prog_12_method_36_code 35 = .ok (.goto (4), 3) := by decide +kernel
theorem d_O_lock_38 : decode prog_12_method_36_code 38 = .ok (.iconst 0, 1) := by decide +kernel
theorem d_O_lock_39 : decode prog_12_method_36_code 39 = .ok (.istore_n 3, 1) := by decide +kernel
theorem d_O_lock_40 : decode prog_12_method_36_code 40 = .ok (.aload_n 0, 1) := by decide +kernel
theorem d_O_lock_41 : decode prog_12_method_36_code 41 = .ok (.iload_n 3, 1) := by decide +kernel
theorem d_O_lock_42 : decode prog_12_method_36_code 42 = .ok (.ifCond .eq (15), 3) := by decide +kernel
theorem d_O_lock_45 : decode prog_12_method_36_code 45 = .ok (.iload_n 2, 1) := by decide +kernel
theorem d_O_lock_46 : decode prog_12_method_36_code 46 = .ok (.ifCond .eq (7), 3) := by decide +kernel
theorem d_O_lock_49 : decode prog_12_method_36_code 49 = .ok (.iload_n 1, 1) := by decide +kernel
theorem d_O_lock_50 : decode prog_12_method_36_code 50 = .ok (.goto (11), 3) := by decide +kernel
theorem d_O_lock_53 : decode prog_12_method_36_code 53 = .ok (.iconst (-1), 1) := by decide +kernel
theorem d_O_lock_54 : decode prog_12_method_36_code 54 = .ok (.goto (7), 3) := by decide +kernel
theorem d_O_lock_57 : decode prog_12_method_36_code 57 = .ok (.aload_n 0, 1) := by decide +kernel
theorem d_O_lock_58 : decode prog_12_method_36_code 58 = .ok (.getfield 66, 3) := by decide +kernel
theorem d_O_lock_61 : decode prog_12_method_36_code 61 = .ok (.putfield 66, 3) := by decide +kernel
theorem d_O_lock_64 : decode prog_12_method_36_code 64 = .ok (.aload_n 0, 1) := by decide +kernel
theorem d_O_lock_65 : decode prog_12_method_36_code 65 = .ok (.getfield 66, 3) := by decide +kernel
theorem d_O_lock_68 : decode prog_12_method_36_code 68 = .ok (.iload_n 1, 1) := by decide +kernel
theorem d_O_lock_69 : decode prog_12_method_36_code 69 = .ok (.if_icmp .ne (7), 3) := by decide +kernel
theorem d_O_lock_72 : decode prog_12_method_36_code 72 = .ok (.iconst 1, 1) := by decide +kernel
theorem d_O_lock_73 : decode prog_12_method_36_code 73 = .ok (.goto (4), 3) := by decide +kernel
theorem d_O_lock_76 : decode prog_12_method_36_code 76 = .ok (.iconst 0, 1) := by decide +kernel
theorem d_O_lock_77 : decode prog_12_method_36_code 77 = .ok (.ireturn, 1) := by decide +kernel
def Y_O_lock : sdY := ("SettingsDeskModel", prog_12_method_36_code, 4, (some .boolean), .code y_O_lock prog_12_method_36_code 4 (some .boolean) :: sdB0, { frames := 2, cells := 0, slots := 0, locals := 41 }, 0, 0, [])
theorem cw_O_lock_O_needs_171 : sd_cwV Y_O_lock Y_O_needs y_O_needs 171 1 "SettingsDeskModel" := ⟨sd_goodV q562 q564 q565 q459 q563, ⟨_, rfl⟩, ⟨rfl, rfl, rfl, rfl⟩, ⟨rfl, by decide, by decide, by decide +kernel⟩, ⟨by decide, by decide⟩⟩
section
variable {l : Launch} {D : va_G} {dA : Nat → ClassId} {b n : Nat} {ad : Nat → Nat} {L : Nat → sdL} {sc : Option (Nat × Nat × (Nat → Int32))}
def k_O_lock_77 (Q : Int32 → sdM → Prop) (M : sdM) (s0 : Int32) : Prop := sdB s0 ∧ Q s0 M
set_option maxHeartbeats 1000000 in
theorem t_O_lock_77 (hA : sd_ad b n ad) (hT : l.stackTraces = false) (hO : isO n L dA) {Q : Int32 → sdM → Prop} (M : sdM) (s0 : Int32) (hw : k_O_lock_77 Q M s0) : sdW l (sdE0 sc) Y_O_lock D (sd_tys dA) b n ad L ad (sd_H D (sdE0 sc).1 n ad L) (sd_qi Q) sd_xf 77 [] [.int s0] M 0 0 := by
  unfold k_O_lock_77 at hw
  exact x_zret d_O_lock_77 rfl (sdB_n hw.1) (fun _ h => h) ⟨_, rfl, hw.2⟩
def k_O_lock_61 (Q : Int32 → sdM → Prop) (M : sdM) (x1 : Int32) (s1 : Int32) : Prop := ∀ M7 : sdM, M7 = sd_s M 116 23 s1 → (¬ (M7 116 23) = x1 → k_O_lock_77 Q M7 (0 : Int32)) ∧ ((M7 116 23) = x1 → k_O_lock_77 Q M7 (1 : Int32))
set_option maxHeartbeats 1000000 in
theorem t_O_lock_61 (hA : sd_ad b n ad) (hT : l.stackTraces = false) (hO : isO n L dA) {Q : Int32 → sdM → Prop} (M : sdM) (x1 : Int32) (s1 : Int32) (hw : k_O_lock_61 Q M x1 s1) : sdW l (sdE0 sc) Y_O_lock D (sd_tys dA) b n ad L ad (sd_H D (sdE0 sc).1 n ad L) (sd_qi Q) sd_xf 61 [(0, .ref 116), (1, .int x1)] [.int s1, .ref 116] M 0 0 := by
  unfold k_O_lock_61 at hw
  refine x_puti 23 (ty := .int) hA d_O_lock_61 hO.1 hO.2.1 rfl rfl (by decide) lay_O (List.mem_cons_of_mem _ q561) rfl ty_O ty_O_ok nm_O rfl (by decide +kernel) rfl rfl (fun M7 e8 => ?_)
  have hw := hw M7 e8
  clear e8
  refine x_aload_n 0 0 d_O_lock_64 rfl rfl ?_
  refine x_geti 23 d_O_lock_65 hO.1 hO.2.1 rfl rfl (by decide) lay_O (List.mem_cons_of_mem _ q561) rfl ?_
  refine x_iload_n 1 1 d_O_lock_68 rfl rfl ?_
  refine x_icmp_ne 76 d_O_lock_69 rfl (fun hc => ?_) (fun hc => ?_)
  · have hw := hw.1 hc
    refine x_iconst (v := 0) d_O_lock_76 (by decide) ?_
    refine x_sub [] [] rfl ?_
    exact t_O_lock_77 hA hT hO M7 (0 : Int32) hw
  · have hw := hw.2 hc
    refine x_iconst (v := 1) d_O_lock_72 (by decide) ?_
    refine x_goto 77 d_O_lock_73 rfl ?_
    refine x_sub [] [] rfl ?_
    exact t_O_lock_77 hA hT hO M7 (1 : Int32) hw
def k_O_lock_39 (Q : Int32 → sdM → Prop) (M : sdM) (x1 : Int32) (x2 : Int32) (s0 : Int32) : Prop := (s0 = 0 → k_O_lock_61 Q M x1 (M 116 23)) ∧ (¬ s0 = 0 → (x2 = 0 → k_O_lock_61 Q M x1 (-1 : Int32)) ∧ (¬ x2 = 0 → k_O_lock_61 Q M x1 x1))
set_option maxHeartbeats 1000000 in
theorem t_O_lock_39 (hA : sd_ad b n ad) (hT : l.stackTraces = false) (hO : isO n L dA) {Q : Int32 → sdM → Prop} (M : sdM) (x1 : Int32) (x2 : Int32) (s0 : Int32) (hw : k_O_lock_39 Q M x1 x2 s0) : sdW l (sdE0 sc) Y_O_lock D (sd_tys dA) b n ad L ad (sd_H D (sdE0 sc).1 n ad L) (sd_qi Q) sd_xf 39 [(0, .ref 116), (1, .int x1), (2, .int x2)] [.int s0] M 0 0 := by
  unfold k_O_lock_39 at hw
  refine x_istore_n 3 [(3, .int s0), (0, .ref 116), (1, .int x1), (2, .int x2)] d_O_lock_39 rfl (by decide) rfl ?_
  refine x_aload_n 0 1 d_O_lock_40 rfl rfl ?_
  refine x_iload_n 3 0 d_O_lock_41 rfl rfl ?_
  refine x_if_eq 57 d_O_lock_42 rfl (fun hc => ?_) (fun hc => ?_)
  · have hw := hw.1 hc
    refine x_aload_n 0 1 d_O_lock_57 rfl rfl ?_
    refine x_geti 23 d_O_lock_58 hO.1 hO.2.1 rfl rfl (by decide) lay_O (List.mem_cons_of_mem _ q561) rfl ?_
    refine x_sub [1, 2] [(0, .ref 116), (1, .int x1)] rfl ?_
    exact t_O_lock_61 hA hT hO M x1 (M 116 23) hw
  · have hw := hw.2 hc
    refine x_iload_n 2 3 d_O_lock_45 rfl rfl ?_
    refine x_if_eq 53 d_O_lock_46 rfl (fun hc => ?_) (fun hc => ?_)
    · have hw := hw.1 hc
      refine x_iconst (v := (-1)) d_O_lock_53 (by decide) ?_
      refine x_goto 61 d_O_lock_54 rfl ?_
      refine x_sub [1, 2] [(0, .ref 116), (1, .int x1)] rfl ?_
      exact t_O_lock_61 hA hT hO M x1 (-1 : Int32) hw
    · have hw := hw.2 hc
      refine x_iload_n 1 2 d_O_lock_49 rfl rfl ?_
      refine x_goto 61 d_O_lock_50 rfl ?_
      refine x_sub [1, 2] [(0, .ref 116), (1, .int x1)] rfl ?_
      exact t_O_lock_61 hA hT hO M x1 x1 hw
def k_O_lock_34 (Q : Int32 → sdM → Prop) (M : sdM) (x1 : Int32) (x2 : Int32) : Prop := k_O_lock_39 Q M x1 x2 (1 : Int32)
set_option maxHeartbeats 1000000 in
theorem t_O_lock_34 (hA : sd_ad b n ad) (hT : l.stackTraces = false) (hO : isO n L dA) {Q : Int32 → sdM → Prop} (M : sdM) (x1 : Int32) (x2 : Int32) (hw : k_O_lock_34 Q M x1 x2) : sdW l (sdE0 sc) Y_O_lock D (sd_tys dA) b n ad L ad (sd_H D (sdE0 sc).1 n ad L) (sd_qi Q) sd_xf 34 [(0, .ref 116), (1, .int x1), (2, .int x2)] [] M 0 0 := by
  unfold k_O_lock_34 at hw
  refine x_iconst (v := 1) d_O_lock_34 (by decide) ?_
  refine x_goto 39 d_O_lock_35 rfl ?_
  exact t_O_lock_39 hA hT hO M x1 x2 (1 : Int32) hw
def w_O_lock (M : sdM) (a1 : Int32) (a2 : Int32) (Q : Int32 → sdM → Prop) : Prop := w_O_needs M a1 (fun r10 M9 => ∀ M11 : sdM, M11 = sd_s M9 116 0 r10 → ((M11 116 0) ≤ 0 → ((M11 116 23) = (-1 : Int32) → k_O_lock_34 Q M11 a1 a2) ∧ (¬ (M11 116 23) = (-1 : Int32) → (¬ (M11 116 23) = a1 → k_O_lock_39 Q M11 a1 a2 (0 : Int32)) ∧ ((M11 116 23) = a1 → k_O_lock_34 Q M11 a1 a2))) ∧ (¬ (M11 116 0) ≤ 0 → sdB (0 : Int32) ∧ Q (0 : Int32) M11))
set_option maxHeartbeats 1000000 in
theorem c_O_lock {a1 : Int32} {a2 : Int32} (hA : sd_ad b n ad) (hT : l.stackTraces = false) (hO : isO n L dA) {Q : Int32 → sdM → Prop} {M : sdM} (hw : w_O_lock M a1 a2 Q) : sd_Cn l (sdE0 sc) y_O_lock Y_O_lock.2.2.2.2.1 Y_O_lock.2.2.2.2.2.1 0 0 D (sd_tys dA) b n ad L M [.ref 116, .int a1, .int a2] (sd_qi Q) sd_xf := by
  refine sd_enter (Y := Y_O_lock) rfl rfl rfl rfl (Nat.le_of_ble_eq_true rfl) ?_
  show sdW l (sdE0 sc) Y_O_lock D (sd_tys dA) b n ad L ad (sd_H D (sdE0 sc).1 n ad L) (sd_qi Q) sd_xf 0 [(0, .ref 116), (1, .int a1), (2, .int a2)] [] M 0 0
  unfold w_O_lock at hw
  refine x_aload_n 0 0 d_O_lock_0 rfl rfl ?_
  refine x_aload_n 0 0 d_O_lock_1 rfl rfl ?_
  refine x_iload_n 1 1 d_O_lock_2 rfl rfl ?_
  refine x_callVi (As := [.int a1]) (t := 116) (rest := [.ref 116]) (rc := 0) (rs := 0) (c_O_needs hA hT hO hw) cw_O_lock_O_needs_171 hO.1 hO.2.1 rfl d_O_lock_3 rfl rfl (Nat.le_of_ble_eq_true rfl) rfl (fun _ _ h => h.elim) (fun _ _ h => h) (fun r10 M9 hw => ?_)
  refine x_puti 0 (ty := .int) hA d_O_lock_6 hO.1 hO.2.1 rfl rfl (by decide) lay_O (List.mem_cons_of_mem _ q446) rfl ty_O ty_O_ok nm_O rfl (by decide +kernel) rfl rfl (fun M11 e12 => ?_)
  have hw := hw M11 e12
  clear e12
  refine x_aload_n 0 0 d_O_lock_9 rfl rfl ?_
  refine x_geti 0 d_O_lock_10 hO.1 hO.2.1 rfl rfl (by decide) lay_O (List.mem_cons_of_mem _ q446) rfl ?_
  refine x_if_le 18 d_O_lock_13 rfl (fun hc => ?_) (fun hc => ?_)
  · have hw := hw.1 hc
    refine x_aload_n 0 0 d_O_lock_18 rfl rfl ?_
    refine x_geti 23 d_O_lock_19 hO.1 hO.2.1 rfl rfl (by decide) lay_O (List.mem_cons_of_mem _ q561) rfl ?_
    refine x_iconst (v := (-1)) d_O_lock_22 (by decide) ?_
    refine x_icmp_eq 34 d_O_lock_23 rfl (fun hc => ?_) (fun hc => ?_)
    · have hw := hw.1 hc
      exact t_O_lock_34 hA hT hO M11 a1 a2 hw
    · have hw := hw.2 hc
      refine x_aload_n 0 0 d_O_lock_26 rfl rfl ?_
      refine x_geti 23 d_O_lock_27 hO.1 hO.2.1 rfl rfl (by decide) lay_O (List.mem_cons_of_mem _ q561) rfl ?_
      refine x_iload_n 1 1 d_O_lock_30 rfl rfl ?_
      refine x_icmp_ne 38 d_O_lock_31 rfl (fun hc => ?_) (fun hc => ?_)
      · have hw := hw.1 hc
        refine x_iconst (v := 0) d_O_lock_38 (by decide) ?_
        exact t_O_lock_39 hA hT hO M11 a1 a2 (0 : Int32) hw
      · have hw := hw.2 hc
        exact t_O_lock_34 hA hT hO M11 a1 a2 hw
  · have hw := hw.2 hc
    refine x_iconst (v := 0) d_O_lock_16 (by decide) ?_
    exact x_zret d_O_lock_17 rfl (sdB_n hw.1) (fun _ h => h) ⟨_, rfl, hw.2⟩
end
theorem q566 : (.methodLink "SettingsDeskModel" 174 ⟨"SettingsDeskModel", "clashes", "(III)Z"⟩ : Cond) ∈ sdB0 := sd_tb5 173 rfl rfl
theorem q567 : (.code ⟨"SettingsDeskModel", "clashes", "(III)Z"⟩ prog_12_method_37_code 4 (some .boolean) : Cond) ∈ sdB0 := sd_tb5 176 rfl rfl
theorem q568 : (.instanceMethod ⟨"SettingsDeskModel", "clashes", "(III)Z"⟩ : Cond) ∈ sdB0 := sd_tb5 175 rfl rfl
theorem q569 : (.selects "SettingsDeskModel" ⟨"SettingsDeskModel", "clashes", "(III)Z"⟩ ⟨"SettingsDeskModel", "clashes", "(III)Z"⟩ : Cond) ∈ sdB0 := sd_tbp (q := (⟨"SettingsDeskModel", "clashes", "(III)Z"⟩, 35)) (List.mem_of_getElem? (i := 38) rfl)
abbrev y_O_mergeEntry : MethodName := ⟨"SettingsDeskModel", "mergeEntry", "(III)Z"⟩
theorem d_O_mergeEntry_0 : decode prog_12_method_38_code 0 = .ok (.aload_n 0, 1) := by decide +kernel
theorem d_O_mergeEntry_1 : decode prog_12_method_38_code 1 = .ok (.iconst 0, 1) := by decide +kernel
theorem d_O_mergeEntry_2 : decode prog_12_method_38_code 2 = .ok (.iload_n 2, 1) := by decide +kernel
theorem d_O_mergeEntry_3 : decode prog_12_method_38_code 3 = .ok (.iload_n 3, 1) := by decide +kernel
theorem d_O_mergeEntry_4 : decode prog_12_method_38_code 4 = .ok (.invokevirtual 115, 3) := by decide +kernel
theorem d_O_mergeEntry_7 : decode prog_12_method_38_code 7 = .ok (.istore 4, 2) := by decide +kernel
theorem d_O_mergeEntry_9 : decode prog_12_method_38_code 9 = .ok (.aload_n 0, 1) := by decide +kernel
theorem d_O_mergeEntry_10 : decode prog_12_method_38_code 10 = .ok (.bipush (10), 2) := by decide +kernel
theorem d_O_mergeEntry_12 : decode prog_12_method_38_code 12 = .ok (.iload_n 1, 1) := by decide +kernel
theorem d_O_mergeEntry_13 : decode prog_12_method_38_code 13 = .ok (.iadd, 1) := by decide +kernel
theorem d_O_mergeEntry_14 : decode prog_12_method_38_code 14 = .ok (.iload_n 2, 1) := by decide +kernel
theorem d_O_mergeEntry_15 : decode prog_12_method_38_code 15 = .ok (.iload_n 3, 1) := by decide +kernel
theorem d_O_mergeEntry_16 : decode prog_12_method_38_code 16 = .ok (.invokevirtual 115, 3) := by decide +kernel
theorem d_O_mergeEntry_19 : decode prog_12_method_38_code 19 = .ok (.istore 5, 2) := by decide +kernel
theorem d_O_mergeEntry_21 : decode prog_12_method_38_code 21 = .ok (.aload_n 0, 1) := by decide +kernel
theorem d_O_mergeEntry_22 : decode prog_12_method_38_code 22 = .ok (.bipush (13), 2) := by decide +kernel
theorem d_O_mergeEntry_24 : decode prog_12_method_38_code 24 = .ok (.iload_n 1, 1) := by decide +kernel
theorem d_O_mergeEntry_25 : decode prog_12_method_38_code 25 = .ok (.iadd, 1) := by decide +kernel
theorem d_O_mergeEntry_26 : decode prog_12_method_38_code 26 = .ok (.iload_n 2, 1) := by decide +kernel
theorem d_O_mergeEntry_27 : decode prog_12_method_38_code 27 = .ok (.iload_n 3, 1) := by decide +kernel
theorem d_O_mergeEntry_28 : decode prog_12_method_38_code 28 = .ok (.invokevirtual 115, 3) := by decide +kernel
theorem d_O_mergeEntry_31 : decode prog_12_method_38_code 31 = .ok (.istore 6, 2) := by decide +kernel
theorem d_O_mergeEntry_33 : decode prog_12_method_38_code 33 = .ok (.aload_n 0, 1) := by decide +kernel
theorem d_O_mergeEntry_34 : decode prog_12_method_38_code 34 = .ok (.iload 5, 2) := by decide +kernel
theorem d_O_mergeEntry_36 : decode prog_12_method_38_code 36 = .ok (.iload 6, 2) := by decide +kernel
theorem d_O_mergeEntry_38 : decode prog_12_method_38_code 38 = .ok (.invokevirtual 105, 3) := by decide +kernel
theorem d_O_mergeEntry_41 : decode prog_12_method_38_code 41 = .ok (.ifCond .ne (14), 3) := by decide +kernel
theorem d_O_mergeEntry_44 : decode prog_12_method_38_code 44 = .ok (.aload_n 0, 1) := by decide +kernel
theorem d_O_mergeEntry_45 : decode prog_12_method_38_code 45 = .ok (.iload 4, 2) := by decide +kernel
theorem d_O_mergeEntry_47 : decode prog_12_method_38_code 47 = .ok (.iload 6, 2) := by decide +kernel
theorem d_O_mergeEntry_49 : decode prog_12_method_38_code 49 = .ok (.invokevirtual 105, 3) := by decide +kernel
theorem d_O_mergeEntry_52 : decode prog_12_method_38_code 52 = .ok (.ifCond .eq (44), 3) := by decide +kernel
theorem d_O_mergeEntry_55 : decode prog_12_method_38_code 55 = .ok (.aload_n 0, 1) := by decide +kernel
theorem d_O_mergeEntry_56 : decode prog_12_method_38_code 56 = .ok (.iload 5, 2) := by decide +kernel
theorem d_O_mergeEntry_58 : decode prog_12_method_38_code 58 = .ok (.iload 6, 2) := by decide +kernel
theorem d_O_mergeEntry_60 : decode prog_12_method_38_code 60 = .ok (.invokevirtual 105, 3) := by decide +kernel
theorem d_O_mergeEntry_63 : decode prog_12_method_38_code 63 = .ok (.ifCond .eq (8), 3) := by decide +kernel
theorem d_O_mergeEntry_66 : decode prog_12_method_38_code 66 = .ok (.iload 4, 2) := by decide +kernel
theorem d_O_mergeEntry_68 : decode prog_12_method_38_code 68 = .ok (.goto (5), 3) := by decide +kernel
theorem d_O_mergeEntry_71 : decode prog_12_method_38_code 71 = .ok (.iload 5, 2) := by decide +kernel
theorem d_O_mergeEntry_73 : decode prog_12_method_38_code 73 = .ok (.istore 7, 2) := by decide +kernel
theorem d_O_mergeEntry_75 : decode prog_12_method_38_code 75 = .ok (.iload 7, 2) := by decide +kernel
theorem d_O_mergeEntry_77 : decode prog_12_method_38_code 77 = .ok (.ifCond .lt (17), 3) := by decide +kernel
theorem d_O_mergeEntry_80 : decode prog_12_method_38_code 80 = .ok (.aload_n 0, 1) := by decide +kernel
theorem d_O_mergeEntry_81 : decode prog_12_method_38_code 81 = .ok (.iload 7, 2) := by decide +kernel
theorem d_O_mergeEntry_83 : decode prog_12_method_38_code 83 = .ok (.aload_n 0, 1) := by decide +kernel
theorem d_O_mergeEntry_84 : decode prog_12_method_38_code 84 = .ok (.bipush (16), 2) := by decide +kernel
theorem d_O_mergeEntry_86 : decode prog_12_method_38_code 86 = .ok (.iload_n 2, 1) := by decide +kernel
theorem d_O_mergeEntry_87 : decode prog_12_method_38_code 87 = .ok (.iload_n 3, 1) := by decide +kernel
theorem d_O_mergeEntry_88 : decode prog_12_method_38_code 88 = .ok (.invokevirtual 164, 3) := by decide +kernel
theorem d_O_mergeEntry_91 : decode prog_12_method_38_code 91 = .ok (.invokevirtual 94, 3) := by decide +kernel
theorem d_O_mergeEntry_94 : decode prog_12_method_38_code 94 = .ok (.iconst 0, 1) := by decide +kernel
theorem d_O_mergeEntry_95 : decode prog_12_method_38_code 95 = .ok (.ireturn, 1) := by decide +kernel
theorem d_O_mergeEntry_96 : decode prog_12_method_38_code 96 = .ok (.iload 4, 2) := by decide +kernel
theorem d_O_mergeEntry_98 : decode prog_12_method_38_code 98 = .ok (.ifCond .lt (8), 3) := by decide +kernel
theorem d_O_mergeEntry_101 : decode prog_12_method_38_code 101 = .ok (.iload 5, 2) := by decide +kernel
theorem d_O_mergeEntry_103 : decode prog_12_method_38_code 103 = .ok (.ifCond .ge (42), 3) := by decide +kernel
theorem d_O_mergeEntry_106 : decode prog_12_method_38_code 106 = .ok (.iload 4, 2) := by decide +kernel
theorem d_O_mergeEntry_108 : decode prog_12_method_38_code 108 = .ok (.ifCond .lt (7), 3) := by decide +kernel
theorem d_O_mergeEntry_111 : decode prog_12_method_38_code 111 = .ok (.iconst 1, 1) := by decide +kernel
theorem d_O_mergeEntry_112 : decode prog_12_method_38_code 112 = .ok (.goto (4), 3) := by decide +kernel
theorem d_O_mergeEntry_115 : decode prog_12_method_38_code 115 = .ok (.iconst 0, 1) := by decide +kernel
theorem d_O_mergeEntry_116 : decode prog_12_method_38_code 116 = .ok (.iload 5, 2) := by decide +kernel
theorem d_O_mergeEntry_118 : decode prog_12_method_38_code 118 = .ok (.ifCond .lt (7), 3) := by decide +kernel
theorem d_O_mergeEntry_121 : decode prog_12_method_38_code 121 = .ok (.iconst 1, 1) := by decide +kernel
theorem d_O_mergeEntry_122 : decode prog_12_method_38_code 122 = .ok (.goto (4), 3) := by decide +kernel
theorem d_O_mergeEntry_125 : decode prog_12_method_38_code 125 = .ok (.iconst 0, 1) := by decide +kernel
theorem d_O_mergeEntry_126 : decode prog_12_method_38_code 126 = .ok (.if_icmp .eq (17), 3) := by decide +kernel
theorem d_O_mergeEntry_129 : decode prog_12_method_38_code 129 = .ok (.aload_n 0, 1) := by decide +kernel
theorem d_O_mergeEntry_130 : decode prog_12_method_38_code 130 = .ok (.iload_n 2, 1) := by decide +kernel
theorem d_O_mergeEntry_131 : decode prog_12_method_38_code 131 = .ok (.iload_n 3, 1) := by decide +kernel
theorem d_O_mergeEntry_132 : decode prog_12_method_38_code 132 = .ok (.iconst (-1), 1) := by decide +kernel
theorem d_O_mergeEntry_133 : decode prog_12_method_38_code 133 = .ok (.invokevirtual 174, 3) := by decide +kernel
theorem d_O_mergeEntry_136 : decode prog_12_method_38_code 136 = .ok (.ifCond .eq (7), 3) := by decide +kernel
theorem d_O_mergeEntry_139 : decode prog_12_method_38_code 139 = .ok (.iconst 1, 1) := by decide +kernel
theorem d_O_mergeEntry_140 : decode prog_12_method_38_code 140 = .ok (.goto (4), 3) := by decide +kernel
theorem d_O_mergeEntry_143 : decode prog_12_method_38_code 143 = .ok (.iconst 0, 1) := by decide +kernel
theorem d_O_mergeEntry_144 : decode prog_12_method_38_code 144 = .ok (.ireturn, 1) := by decide +kernel
theorem d_O_mergeEntry_145 : decode prog_12_method_38_code 145 = .ok (.aload_n 0, 1) := by decide +kernel
theorem d_O_mergeEntry_146 : decode prog_12_method_38_code 146 = .ok (.bipush (16), 2) := by decide +kernel
theorem d_O_mergeEntry_148 : decode prog_12_method_38_code 148 = .ok (.iload_n 2, 1) := by decide +kernel
theorem d_O_mergeEntry_149 : decode prog_12_method_38_code 149 = .ok (.iload_n 3, 1) := by decide +kernel
theorem d_O_mergeEntry_150 : decode prog_12_method_38_code 150 = .ok (.invokevirtual 164, 3) := by decide +kernel
theorem d_O_mergeEntry_153 : decode prog_12_method_38_code 153 = .ok (.istore 7, 2) := by decide +kernel
theorem d_O_mergeEntry_155 : decode prog_12_method_38_code 155 = .ok (.iconst 0, 1) := by decide +kernel
theorem d_O_mergeEntry_156 : decode prog_12_method_38_code 156 = .ok (.istore 8, 2) := by decide +kernel
theorem d_O_mergeEntry_158 : decode prog_12_method_38_code 158 = .ok (.iload 8, 2) := by decide +kernel
theorem d_O_mergeEntry_160 : decode prog_12_method_38_code 160 = .ok (.aload_n 0, 1) := by decide +kernel
theorem d_O_mergeEntry_161 : decode prog_12_method_38_code 161 = .ok (.getfield 13, 3) := by decide +kernel
theorem d_O_mergeEntry_164 : decode prog_12_method_38_code 164 = .ok (.iload_n 2, 1) := by decide +kernel
theorem d_O_mergeEntry_165 : decode prog_12_method_38_code 165 = .ok (.iaload, 1) := by decide +kernel
theorem d_O_mergeEntry_166 : decode prog_12_method_38_code 166 = .ok (.if_icmp .ge (126), 3) := by decide +kernel
theorem d_O_mergeEntry_169 : decode prog_12_method_38_code 169 = .ok (.aload_n 0, 1) := by decide +kernel
theorem d_O_mergeEntry_170 : decode prog_12_method_38_code 170 = .ok (.iload 5, 2) := by decide +kernel
theorem d_O_mergeEntry_172 : decode prog_12_method_38_code 172 = .ok (.iload 6, 2) := by decide +kernel
theorem d_O_mergeEntry_174 : decode prog_12_method_38_code 174 = .ok (.iload 8, 2) := by decide +kernel
theorem d_O_mergeEntry_176 : decode prog_12_method_38_code 176 = .ok (.invokevirtual 101, 3) := by decide +kernel
theorem d_O_mergeEntry_179 : decode prog_12_method_38_code 179 = .ok (.istore 9, 2) := by decide +kernel
theorem d_O_mergeEntry_181 : decode prog_12_method_38_code 181 = .ok (.iload 9, 2) := by decide +kernel
theorem d_O_mergeEntry_183 : decode prog_12_method_38_code 183 = .ok (.ifCond .ne (38), 3) := by decide +kernel
theorem d_O_mergeEntry_186 : decode prog_12_method_38_code 186 = .ok (.aload_n 0, 1) := by decide +kernel
theorem d_O_mergeEntry_187 : decode prog_12_method_38_code 187 = .ok (.iload 4, 2) := by decide +kernel
theorem d_O_mergeEntry_189 : decode prog_12_method_38_code 189 = .ok (.iload 6, 2) := by decide +kernel
theorem d_O_mergeEntry_191 : decode prog_12_method_38_code 191 = .ok (.iload 8, 2) := by decide +kernel
theorem d_O_mergeEntry_193 : decode prog_12_method_38_code 193 = .ok (.invokevirtual 101, 3) := by decide +kernel
theorem d_O_mergeEntry_196 : decode prog_12_method_38_code 196 = .ok (.ifCond .ne (25), 3) := by decide +kernel
theorem d_O_mergeEntry_199 : decode prog_12_method_38_code 199 = .ok (.aload_n 0, 1) := by decide +kernel
theorem d_O_mergeEntry_200 : decode prog_12_method_38_code 200 = .ok (.iload 5, 2) := by decide +kernel
theorem d_O_mergeEntry_202 : decode prog_12_method_38_code 202 = .ok (.iload 4, 2) := by decide +kernel
theorem d_O_mergeEntry_204 : decode prog_12_method_38_code 204 = .ok (.iload 8, 2) := by decide +kernel
theorem d_O_mergeEntry_206 : decode prog_12_method_38_code 206 = .ok (.invokevirtual 101, 3) := by decide +kernel
theorem d_O_mergeEntry_209 : decode prog_12_method_38_code 209 = .ok (.ifCond .ne (12), 3) := by decide +kernel
theorem d_O_mergeEntry_212 : decode prog_12_method_38_code 212 = .ok (.aload_n 0, 1) := by decide +kernel
theorem d_O_mergeEntry_213 : decode prog_12_method_38_code 213 = .ok (.iload_n 2, 1) := by decide +kernel
theorem d_O_mergeEntry_214 : decode prog_12_method_38_code 214 = .ok (.iload_n 3, 1) := by decide +kernel
theorem d_O_mergeEntry_215 : decode prog_12_method_38_code 215 = .ok (.iload 8, 2) := by decide +kernel
theorem d_O_mergeEntry_217 : decode prog_12_method_38_code 217 = .ok (.invokevirtual 174, 3) := by decide +kernel
theorem d_O_mergeEntry_220 : decode prog_12_method_38_code 220 = .ok (.ireturn, 1) := by decide +kernel
theorem d_O_mergeEntry_221 : decode prog_12_method_38_code 221 = .ok (.iload 9, 2) := by decide +kernel
theorem d_O_mergeEntry_223 : decode prog_12_method_38_code 223 = .ok (.ifCond .eq (8), 3) := by decide +kernel
theorem d_O_mergeEntry_226 : decode prog_12_method_38_code 226 = .ok (.iload 4, 2) := by decide +kernel
theorem d_O_mergeEntry_228 : decode prog_12_method_38_code 228 = .ok (.goto (5), 3) := by decide +kernel
theorem d_O_mergeEntry_231 : decode prog_12_method_38_code 231 = .ok (.iload 5, 2) := by decide +kernel
theorem d_O_mergeEntry_233 : decode prog_12_method_38_code 233 = .ok (.istore 10, 2) := by decide +kernel
theorem d_O_mergeEntry_235 : decode prog_12_method_38_code 235 = .ok (.aload_n 0, 1) := by decide +kernel
theorem d_O_mergeEntry_236 : decode prog_12_method_38_code 236 = .ok (.getfield 57, 3) := by decide +kernel
theorem d_O_mergeEntry_239 : decode prog_12_method_38_code 239 = .ok (.iload 7, 2) := by decide +kernel
theorem d_O_mergeEntry_241 : decode prog_12_method_38_code 241 = .ok (.aload_n 0, 1) := by decide +kernel
theorem d_O_mergeEntry_242 : decode prog_12_method_38_code 242 = .ok (.getfield 57, 3) := by decide +kernel
theorem d_O_mergeEntry_245 : decode prog_12_method_38_code 245 = .ok (.iload 7, 2) := by decide +kernel
theorem d_O_mergeEntry_247 : decode prog_12_method_38_code 247 = .ok (.iaload, 1) := by decide +kernel
theorem d_O_mergeEntry_248 : decode prog_12_method_38_code 248 = .ok (.aload_n 0, 1) := by decide +kernel
theorem d_O_mergeEntry_249 : decode prog_12_method_38_code 249 = .ok (.getfield 57, 3) := by decide +kernel
theorem d_O_mergeEntry_252 : decode prog_12_method_38_code 252 = .ok (.iload 10, 2) := by decide +kernel
theorem d_O_mergeEntry_254 : decode prog_12_method_38_code 254 = .ok (.iaload, 1) := by decide +kernel
theorem d_O_mergeEntry_255 : decode prog_12_method_38_code 255 = .ok (.iconst 1, 1) := by decide +kernel
theorem d_O_mergeEntry_256 : decode prog_12_method_38_code 256 = .ok (.iload 8, 2) := by decide +kernel
theorem d_O_mergeEntry_258 : decode prog_12_method_38_code 258 = .ok (.ishl, 1) := by decide +kernel
theorem d_O_mergeEntry_259 : decode prog_12_method_38_code 259 = .ok (.iand, 1) := by decide +kernel
theorem d_O_mergeEntry_260 : decode prog_12_method_38_code 260 = .ok (.ior, 1) := by decide +kernel
theorem d_O_mergeEntry_261 : decode prog_12_method_38_code 261 = .ok (.iastore, 1) := by decide +kernel
theorem d_O_mergeEntry_262 : decode prog_12_method_38_code 262 = .ok (.aload_n 0, 1) := by decide +kernel
theorem d_O_mergeEntry_263 : decode prog_12_method_38_code 263 = .ok (.getfield 60, 3) := by decide +kernel
theorem d_O_mergeEntry_266 : decode prog_12_method_38_code 266 = .ok (.iconst 4, 1) := by decide +kernel
theorem d_O_mergeEntry_267 : decode prog_12_method_38_code 267 = .ok (.iload 7, 2) := by decide +kernel
theorem d_O_mergeEntry_269 : decode prog_12_method_38_code 269 = .ok (.imul, 1) := by decide +kernel
theorem d_O_mergeEntry_270 : decode prog_12_method_38_code 270 = .ok (.iload 8, 2) := by decide +kernel
theorem d_O_mergeEntry_272 : decode prog_12_method_38_code 272 = .ok (.iadd, 1) := by decide +kernel
theorem d_O_mergeEntry_273 : decode prog_12_method_38_code 273 = .ok (.aload_n 0, 1) := by decide +kernel
theorem d_O_mergeEntry_274 : decode prog_12_method_38_code 274 = .ok (.getfield 60, 3) := by decide +kernel
theorem d_O_mergeEntry_277 : decode prog_12_method_38_code 277 = .ok (.iconst 4, 1) := by decide +kernel
theorem d_O_mergeEntry_278 : decode prog_12_method_38_code 278 = .ok (.iload 10, 2) := by decide +kernel
theorem d_O_mergeEntry_280 : decode prog_12_method_38_code 280 = .ok (.imul, 1) := by decide +kernel
theorem d_O_mergeEntry_281 : decode prog_12_method_38_code 281 = .ok (.iload 8, 2) := by decide +kernel
theorem d_O_mergeEntry_283 : decode prog_12_method_38_code 283 = .ok (.iadd, 1) := by decide +kernel
theorem d_O_mergeEntry_284 : decode prog_12_method_38_code 284 = .ok (.iaload, 1) := by decide +kernel
theorem d_O_mergeEntry_285 : decode prog_12_method_38_code 285 = .ok (.iastore, 1) := by decide +kernel
theorem d_O_mergeEntry_286 : decode prog_12_method_38_code 286 = .ok (.iinc 8 (1), 3) := by decide +kernel
theorem d_O_mergeEntry_289 : decode prog_12_method_38_code 289 = .ok (.goto (-131), 3) := by decide +kernel
theorem d_O_mergeEntry_292 : decode prog_12_method_38_code 292 = .ok (.iconst 0, 1) := by decide +kernel
theorem d_O_mergeEntry_293 : decode prog_12_method_38_code 293 = .ok (.ireturn, 1) := by decide +kernel
def Y_O_mergeEntry : sdY := ("SettingsDeskModel", prog_12_method_38_code, 11, (some .boolean), .code y_O_mergeEntry prog_12_method_38_code 11 (some .boolean) :: sdB0, { frames := 3, cells := 0, slots := 0, locals := 67 }, 0, 0, [])
theorem cw_O_mergeEntry_O_find_115 : sd_cwV Y_O_mergeEntry Y_O_find y_O_find 115 3 "SettingsDeskModel" := ⟨sd_goodV q492 q494 q495 q459 q493, ⟨_, rfl⟩, ⟨rfl, rfl, rfl, rfl⟩, ⟨rfl, by decide, by decide, by decide +kernel⟩, ⟨by decide, by decide⟩⟩
theorem cw_O_mergeEntry_O_sameEntry_105 : sd_cwV Y_O_mergeEntry Y_O_sameEntry y_O_sameEntry 105 2 "SettingsDeskModel" := ⟨sd_goodV q535 q537 q538 q459 q536, ⟨_, rfl⟩, ⟨rfl, rfl, rfl, rfl⟩, ⟨rfl, by decide, by decide, by decide +kernel⟩, ⟨by decide, by decide⟩⟩
theorem cw_O_mergeEntry_O_insert_164 : sd_cwV Y_O_mergeEntry Y_O_insert y_O_insert 164 3 "SettingsDeskModel" := ⟨sd_goodV q549 q551 q552 q459 q550, ⟨_, rfl⟩, ⟨rfl, rfl, rfl, rfl⟩, ⟨rfl, by decide, by decide, by decide +kernel⟩, ⟨by decide, by decide⟩⟩
theorem cw_O_mergeEntry_O_alike_101 : sd_cwV Y_O_mergeEntry Y_O_alike y_O_alike 101 3 "SettingsDeskModel" := ⟨sd_goodV q531 q533 q534 q459 q532, ⟨_, rfl⟩, ⟨rfl, rfl, rfl, rfl⟩, ⟨rfl, by decide, by decide, by decide +kernel⟩, ⟨by decide, by decide⟩⟩
theorem cw_O_mergeEntry_O_clashes_174 : sd_cwV Y_O_mergeEntry Y_O_clashes y_O_clashes 174 3 "SettingsDeskModel" := ⟨sd_goodV q566 q568 q569 q459 q567, ⟨_, rfl⟩, ⟨rfl, rfl, rfl, rfl⟩, ⟨rfl, by decide, by decide, by decide +kernel⟩, ⟨by decide, by decide⟩⟩
theorem cw_O_mergeEntry_O_put_94 : sd_cwV Y_O_mergeEntry Y_O_put y_O_put 94 2 "SettingsDeskModel" := ⟨sd_goodV q515 q517 q518 q459 q516, ⟨_, rfl⟩, ⟨rfl, rfl, rfl, rfl⟩, ⟨rfl, by decide, by decide, by decide +kernel⟩, ⟨by decide, by decide⟩⟩
section
variable {l : Launch} {D : va_G} {dA : Nat → ClassId} {b n : Nat} {ad : Nat → Nat} {L : Nat → sdL} {sc : Option (Nat × Nat × (Nat → Int32))}
def k_O_mergeEntry_233 (Q : Int32 → sdM → Prop) (k158 : sdM → Int32 → Int32 → Int32 → Int32 → Int32 → Int32 → Int32 → Prop) (M : sdM) (x2 : Int32) (x3 : Int32) (x4 : Int32) (x5 : Int32) (x6 : Int32) (x7 : Int32) (x8 : Int32) (s0 : Int32) : Prop := vp_in x7 816 ∧ vp_in s0 816 ∧ vp_in x7 816 ∧ ∀ M41 : sdM, M41 = sd_s M 131 x7.toNatClampNeg ((M 131 x7.toNatClampNeg) ||| ((M 131 s0.toNatClampNeg) &&& ((1 : Int32) <<< (x8 &&& 31)))) → vp_in (((4 : Int32) * s0) + x8) 3264 ∧ vp_in (((4 : Int32) * x7) + x8) 3264 ∧ ∀ M45 : sdM, M45 = sd_s M41 132 (((4 : Int32) * x7) + x8).toNatClampNeg (M41 132 (((4 : Int32) * s0) + x8).toNatClampNeg) → k158 M45 x2 x3 x4 x5 x6 x7 (x8 + 1)
set_option maxHeartbeats 1000000 in
theorem t_O_mergeEntry_233 (hA : sd_ad b n ad) (hT : l.stackTraces = false) (hO : isO n L dA) {Q : Int32 → sdM → Prop} {k158 : sdM → Int32 → Int32 → Int32 → Int32 → Int32 → Int32 → Int32 → Prop} (hk158 : ∀ (M : sdM) (x2 : Int32) (x3 : Int32) (x4 : Int32) (x5 : Int32) (x6 : Int32) (x7 : Int32) (x8 : Int32), k158 M x2 x3 x4 x5 x6 x7 x8 → sdW l (sdE0 sc) Y_O_mergeEntry D (sd_tys dA) b n ad L ad (sd_H D (sdE0 sc).1 n ad L) (sd_qi Q) sd_xf 158 [(0, .ref 116), (2, .int x2), (3, .int x3), (4, .int x4), (5, .int x5), (6, .int x6), (7, .int x7), (8, .int x8)] [] M 0 0) (M : sdM) (x2 : Int32) (x3 : Int32) (x4 : Int32) (x5 : Int32) (x6 : Int32) (x7 : Int32) (x8 : Int32) (s0 : Int32) (hw : k_O_mergeEntry_233 Q k158 M x2 x3 x4 x5 x6 x7 x8 s0) : sdW l (sdE0 sc) Y_O_mergeEntry D (sd_tys dA) b n ad L ad (sd_H D (sdE0 sc).1 n ad L) (sd_qi Q) sd_xf 233 [(0, .ref 116), (2, .int x2), (3, .int x3), (4, .int x4), (5, .int x5), (6, .int x6), (7, .int x7), (8, .int x8)] [.int s0] M 0 0 := by
  unfold k_O_mergeEntry_233 at hw
  refine x_istore 10 [(10, .int s0), (0, .ref 116), (2, .int x2), (3, .int x3), (4, .int x4), (5, .int x5), (6, .int x6), (7, .int x7), (8, .int x8)] d_O_mergeEntry_233 (by decide) rfl ?_
  refine x_aload_n 0 1 d_O_mergeEntry_235 rfl rfl ?_
  refine x_getr 18 131 d_O_mergeEntry_236 hO.1 hO.2.1 rfl rfl (by decide) lay_O (List.mem_cons_of_mem _ q472) rfl ?_
  refine x_iload 7 7 d_O_mergeEntry_239 rfl ?_
  refine x_aload_n 0 1 d_O_mergeEntry_241 rfl rfl ?_
  refine x_getr 18 131 d_O_mergeEntry_242 hO.1 hO.2.1 rfl rfl (by decide) lay_O (List.mem_cons_of_mem _ q472) rfl ?_
  refine x_iload 7 7 d_O_mergeEntry_245 rfl ?_
  obtain ⟨hi38, hw⟩ := hw
  refine x_iald d_O_mergeEntry_247 hO.bits.1 hO.bits.2 rfl hi38 ?_
  refine x_aload_n 0 1 d_O_mergeEntry_248 rfl rfl ?_
  refine x_getr 18 131 d_O_mergeEntry_249 hO.1 hO.2.1 rfl rfl (by decide) lay_O (List.mem_cons_of_mem _ q472) rfl ?_
  refine x_iload 10 0 d_O_mergeEntry_252 rfl ?_
  obtain ⟨hi39, hw⟩ := hw
  refine x_iald d_O_mergeEntry_254 hO.bits.1 hO.bits.2 rfl hi39 ?_
  refine x_iconst (v := 1) d_O_mergeEntry_255 (by decide) ?_
  refine x_iload 8 8 d_O_mergeEntry_256 rfl ?_
  refine x_ishl d_O_mergeEntry_258 ?_
  refine x_iand d_O_mergeEntry_259 ?_
  refine x_ior d_O_mergeEntry_260 ?_
  obtain ⟨hi40, hw⟩ := hw
  refine x_iast hA d_O_mergeEntry_261 hO.bits.1 hO.bits.2 rfl hi40 (fun M41 e42 => ?_)
  have hw := hw M41 e42
  clear e42
  refine x_aload_n 0 1 d_O_mergeEntry_262 rfl rfl ?_
  refine x_getr 19 132 d_O_mergeEntry_263 hO.1 hO.2.1 rfl rfl (by decide) lay_O (List.mem_cons_of_mem _ q477) rfl ?_
  refine x_iconst (v := 4) d_O_mergeEntry_266 (by decide) ?_
  refine x_iload 7 7 d_O_mergeEntry_267 rfl ?_
  refine x_imul d_O_mergeEntry_269 ?_
  refine x_iload 8 8 d_O_mergeEntry_270 rfl ?_
  refine x_iadd d_O_mergeEntry_272 ?_
  refine x_aload_n 0 1 d_O_mergeEntry_273 rfl rfl ?_
  refine x_getr 19 132 d_O_mergeEntry_274 hO.1 hO.2.1 rfl rfl (by decide) lay_O (List.mem_cons_of_mem _ q477) rfl ?_
  refine x_iconst (v := 4) d_O_mergeEntry_277 (by decide) ?_
  refine x_iload 10 0 d_O_mergeEntry_278 rfl ?_
  refine x_imul d_O_mergeEntry_280 ?_
  refine x_iload 8 8 d_O_mergeEntry_281 rfl ?_
  refine x_iadd d_O_mergeEntry_283 ?_
  obtain ⟨hi43, hw⟩ := hw
  refine x_iald d_O_mergeEntry_284 hO.values.1 hO.values.2 rfl hi43 ?_
  obtain ⟨hi44, hw⟩ := hw
  refine x_iast hA d_O_mergeEntry_285 hO.values.1 hO.values.2 rfl hi44 (fun M45 e46 => ?_)
  have hw := hw M45 e46
  clear e46
  refine x_iinc 8 8 [(8, .int (x8 + 1)), (10, .int s0), (0, .ref 116), (2, .int x2), (3, .int x3), (4, .int x4), (5, .int x5), (6, .int x6), (7, .int x7)] d_O_mergeEntry_286 rfl (congrArg (HAdd.hAdd x8) (show Int32.ofInt 1 = 1 by decide)) (by decide) rfl ?_
  refine x_goto 158 d_O_mergeEntry_289 rfl ?_
  refine x_sub [2, 3, 4, 5, 6, 7, 8, 0] [(0, .ref 116), (2, .int x2), (3, .int x3), (4, .int x4), (5, .int x5), (6, .int x6), (7, .int x7), (8, .int (x8 + 1))] rfl ?_
  exact hk158 M45 x2 x3 x4 x5 x6 x7 (x8 + 1) hw
def k_O_mergeEntry_221 (Q : Int32 → sdM → Prop) (k158 : sdM → Int32 → Int32 → Int32 → Int32 → Int32 → Int32 → Int32 → Prop) (M : sdM) (x2 : Int32) (x3 : Int32) (x4 : Int32) (x5 : Int32) (x6 : Int32) (x7 : Int32) (x8 : Int32) (x9 : Int32) : Prop := (x9 = 0 → k_O_mergeEntry_233 Q k158 M x2 x3 x4 x5 x6 x7 x8 x5) ∧ (¬ x9 = 0 → k_O_mergeEntry_233 Q k158 M x2 x3 x4 x5 x6 x7 x8 x4)
set_option maxHeartbeats 1000000 in
theorem t_O_mergeEntry_221 (hA : sd_ad b n ad) (hT : l.stackTraces = false) (hO : isO n L dA) {Q : Int32 → sdM → Prop} {k158 : sdM → Int32 → Int32 → Int32 → Int32 → Int32 → Int32 → Int32 → Prop} (hk158 : ∀ (M : sdM) (x2 : Int32) (x3 : Int32) (x4 : Int32) (x5 : Int32) (x6 : Int32) (x7 : Int32) (x8 : Int32), k158 M x2 x3 x4 x5 x6 x7 x8 → sdW l (sdE0 sc) Y_O_mergeEntry D (sd_tys dA) b n ad L ad (sd_H D (sdE0 sc).1 n ad L) (sd_qi Q) sd_xf 158 [(0, .ref 116), (2, .int x2), (3, .int x3), (4, .int x4), (5, .int x5), (6, .int x6), (7, .int x7), (8, .int x8)] [] M 0 0) (M : sdM) (x2 : Int32) (x3 : Int32) (x4 : Int32) (x5 : Int32) (x6 : Int32) (x7 : Int32) (x8 : Int32) (x9 : Int32) (hw : k_O_mergeEntry_221 Q k158 M x2 x3 x4 x5 x6 x7 x8 x9) : sdW l (sdE0 sc) Y_O_mergeEntry D (sd_tys dA) b n ad L ad (sd_H D (sdE0 sc).1 n ad L) (sd_qi Q) sd_xf 221 [(0, .ref 116), (2, .int x2), (3, .int x3), (4, .int x4), (5, .int x5), (6, .int x6), (7, .int x7), (8, .int x8), (9, .int x9)] [] M 0 0 := by
  unfold k_O_mergeEntry_221 at hw
  refine x_iload 9 8 d_O_mergeEntry_221 rfl ?_
  refine x_if_eq 231 d_O_mergeEntry_223 rfl (fun hc => ?_) (fun hc => ?_)
  · have hw := hw.1 hc
    refine x_iload 5 4 d_O_mergeEntry_231 rfl ?_
    refine x_sub [0, 1, 2, 3, 4, 5, 6, 7] [(0, .ref 116), (2, .int x2), (3, .int x3), (4, .int x4), (5, .int x5), (6, .int x6), (7, .int x7), (8, .int x8)] rfl ?_
    exact t_O_mergeEntry_233 hA hT hO hk158 M x2 x3 x4 x5 x6 x7 x8 x5 hw
  · have hw := hw.2 hc
    refine x_iload 4 3 d_O_mergeEntry_226 rfl ?_
    refine x_goto 233 d_O_mergeEntry_228 rfl ?_
    refine x_sub [0, 1, 2, 3, 4, 5, 6, 7] [(0, .ref 116), (2, .int x2), (3, .int x3), (4, .int x4), (5, .int x5), (6, .int x6), (7, .int x7), (8, .int x8)] rfl ?_
    exact t_O_mergeEntry_233 hA hT hO hk158 M x2 x3 x4 x5 x6 x7 x8 x4 hw
def h_O_mergeEntry_158 (Q : Int32 → sdM → Prop) : Nat → sdM → Int32 → Int32 → Int32 → Int32 → Int32 → Int32 → Int32 → Prop
  | 0, _, _, _, _, _, _, _, _ => False
  | N + 1, M, x2, x3, x4, x5, x6, x7, x8 => vp_in x2 4 ∧ ((M 117 x2.toNatClampNeg) ≤ x8 → sdB (0 : Int32) ∧ Q (0 : Int32) M) ∧ (¬ (M 117 x2.toNatClampNeg) ≤ x8 → w_O_alike M x5 x6 x8 (fun r49 M48 => (¬ r49 = 0 → k_O_mergeEntry_221 Q (fun M x2 x3 x4 x5 x6 x7 x8 => h_O_mergeEntry_158 Q N M x2 x3 x4 x5 x6 x7 x8) M48 x2 x3 x4 x5 x6 x7 x8 r49) ∧ (r49 = 0 → w_O_alike M48 x4 x6 x8 (fun r51 M50 => (¬ r51 = 0 → k_O_mergeEntry_221 Q (fun M x2 x3 x4 x5 x6 x7 x8 => h_O_mergeEntry_158 Q N M x2 x3 x4 x5 x6 x7 x8) M50 x2 x3 x4 x5 x6 x7 x8 r49) ∧ (r51 = 0 → w_O_alike M50 x5 x4 x8 (fun r53 M52 => (¬ r53 = 0 → k_O_mergeEntry_221 Q (fun M x2 x3 x4 x5 x6 x7 x8 => h_O_mergeEntry_158 Q N M x2 x3 x4 x5 x6 x7 x8) M52 x2 x3 x4 x5 x6 x7 x8 r49) ∧ (r53 = 0 → w_O_clashes M52 x2 x3 x8 (fun r55 M54 => sdB r55 ∧ Q r55 M54))))))))
set_option maxHeartbeats 1000000 in
theorem t_O_mergeEntry_158 (hA : sd_ad b n ad) (hT : l.stackTraces = false) (hO : isO n L dA) {Q : Int32 → sdM → Prop} (N : Nat) : ∀ (M : sdM) (x2 : Int32) (x3 : Int32) (x4 : Int32) (x5 : Int32) (x6 : Int32) (x7 : Int32) (x8 : Int32), h_O_mergeEntry_158 Q N M x2 x3 x4 x5 x6 x7 x8 → sdW l (sdE0 sc) Y_O_mergeEntry D (sd_tys dA) b n ad L ad (sd_H D (sdE0 sc).1 n ad L) (sd_qi Q) sd_xf 158 [(0, .ref 116), (2, .int x2), (3, .int x3), (4, .int x4), (5, .int x5), (6, .int x6), (7, .int x7), (8, .int x8)] [] M 0 0 := by
  induction N with
  | zero => intro M x2 x3 x4 x5 x6 x7 x8 hw; exact hw.elim
  | succ N ih =>
    intro M x2 x3 x4 x5 x6 x7 x8 hw
    rw [h_O_mergeEntry_158] at hw
    refine x_iload 8 7 d_O_mergeEntry_158 rfl ?_
    refine x_aload_n 0 0 d_O_mergeEntry_160 rfl rfl ?_
    refine x_getr 3 117 d_O_mergeEntry_161 hO.1 hO.2.1 rfl rfl (by decide) lay_O (List.mem_cons_of_mem _ q450) rfl ?_
    refine x_iload_n 2 1 d_O_mergeEntry_164 rfl rfl ?_
    obtain ⟨hi47, hw⟩ := hw
    refine x_iald d_O_mergeEntry_165 hO.leaves.1 hO.leaves.2 rfl hi47 ?_
    refine x_icmp_ge 292 d_O_mergeEntry_166 rfl (fun hc => ?_) (fun hc => ?_)
    · have hw := hw.1 hc
      refine x_iconst (v := 0) d_O_mergeEntry_292 (by decide) ?_
      exact x_zret d_O_mergeEntry_293 rfl (sdB_n hw.1) (fun _ h => h) ⟨_, rfl, hw.2⟩
    · have hw := hw.2 hc
      refine x_aload_n 0 0 d_O_mergeEntry_169 rfl rfl ?_
      refine x_iload 5 4 d_O_mergeEntry_170 rfl ?_
      refine x_iload 6 5 d_O_mergeEntry_172 rfl ?_
      refine x_iload 8 7 d_O_mergeEntry_174 rfl ?_
      refine x_callVi (As := [.int x5, .int x6, .int x8]) (t := 116) (rest := []) (rc := 0) (rs := 0) (c_O_alike hA hT hO hw) cw_O_mergeEntry_O_alike_101 hO.1 hO.2.1 rfl d_O_mergeEntry_176 rfl rfl (Nat.le_of_ble_eq_true rfl) rfl (fun _ _ h => h.elim) (fun _ _ h => h) (fun r49 M48 hw => ?_)
      refine x_istore 9 [(9, .int r49), (0, .ref 116), (2, .int x2), (3, .int x3), (4, .int x4), (5, .int x5), (6, .int x6), (7, .int x7), (8, .int x8)] d_O_mergeEntry_179 (by decide) rfl ?_
      refine x_iload 9 0 d_O_mergeEntry_181 rfl ?_
      refine x_if_ne 221 d_O_mergeEntry_183 rfl (fun hc => ?_) (fun hc => ?_)
      · have hw := hw.1 hc
        refine x_sub [1, 2, 3, 4, 5, 6, 7, 8, 0] [(0, .ref 116), (2, .int x2), (3, .int x3), (4, .int x4), (5, .int x5), (6, .int x6), (7, .int x7), (8, .int x8), (9, .int r49)] rfl ?_
        exact t_O_mergeEntry_221 hA hT hO (fun M x2 x3 x4 x5 x6 x7 x8  hw => ih M x2 x3 x4 x5 x6 x7 x8 hw) M48 x2 x3 x4 x5 x6 x7 x8 r49 hw
      · have hw := hw.2 hc
        refine x_aload_n 0 1 d_O_mergeEntry_186 rfl rfl ?_
        refine x_iload 4 4 d_O_mergeEntry_187 rfl ?_
        refine x_iload 6 6 d_O_mergeEntry_189 rfl ?_
        refine x_iload 8 8 d_O_mergeEntry_191 rfl ?_
        refine x_callVi (As := [.int x4, .int x6, .int x8]) (t := 116) (rest := []) (rc := 0) (rs := 0) (c_O_alike hA hT hO hw) cw_O_mergeEntry_O_alike_101 hO.1 hO.2.1 rfl d_O_mergeEntry_193 rfl rfl (Nat.le_of_ble_eq_true rfl) rfl (fun _ _ h => h.elim) (fun _ _ h => h) (fun r51 M50 hw => ?_)
        refine x_if_ne 221 d_O_mergeEntry_196 rfl (fun hc => ?_) (fun hc => ?_)
        · have hw := hw.1 hc
          refine x_sub [1, 2, 3, 4, 5, 6, 7, 8, 0] [(0, .ref 116), (2, .int x2), (3, .int x3), (4, .int x4), (5, .int x5), (6, .int x6), (7, .int x7), (8, .int x8), (9, .int r49)] rfl ?_
          exact t_O_mergeEntry_221 hA hT hO (fun M x2 x3 x4 x5 x6 x7 x8  hw => ih M x2 x3 x4 x5 x6 x7 x8 hw) M50 x2 x3 x4 x5 x6 x7 x8 r49 hw
        · have hw := hw.2 hc
          refine x_aload_n 0 1 d_O_mergeEntry_199 rfl rfl ?_
          refine x_iload 5 5 d_O_mergeEntry_200 rfl ?_
          refine x_iload 4 4 d_O_mergeEntry_202 rfl ?_
          refine x_iload 8 8 d_O_mergeEntry_204 rfl ?_
          refine x_callVi (As := [.int x5, .int x4, .int x8]) (t := 116) (rest := []) (rc := 0) (rs := 0) (c_O_alike hA hT hO hw) cw_O_mergeEntry_O_alike_101 hO.1 hO.2.1 rfl d_O_mergeEntry_206 rfl rfl (Nat.le_of_ble_eq_true rfl) rfl (fun _ _ h => h.elim) (fun _ _ h => h) (fun r53 M52 hw => ?_)
          refine x_if_ne 221 d_O_mergeEntry_209 rfl (fun hc => ?_) (fun hc => ?_)
          · have hw := hw.1 hc
            refine x_sub [1, 2, 3, 4, 5, 6, 7, 8, 0] [(0, .ref 116), (2, .int x2), (3, .int x3), (4, .int x4), (5, .int x5), (6, .int x6), (7, .int x7), (8, .int x8), (9, .int r49)] rfl ?_
            exact t_O_mergeEntry_221 hA hT hO (fun M x2 x3 x4 x5 x6 x7 x8  hw => ih M x2 x3 x4 x5 x6 x7 x8 hw) M52 x2 x3 x4 x5 x6 x7 x8 r49 hw
          · have hw := hw.2 hc
            refine x_aload_n 0 1 d_O_mergeEntry_212 rfl rfl ?_
            refine x_iload_n 2 2 d_O_mergeEntry_213 rfl rfl ?_
            refine x_iload_n 3 3 d_O_mergeEntry_214 rfl rfl ?_
            refine x_iload 8 8 d_O_mergeEntry_215 rfl ?_
            refine x_callVi (As := [.int x2, .int x3, .int x8]) (t := 116) (rest := []) (rc := 0) (rs := 0) (c_O_clashes hA hT hO hw) cw_O_mergeEntry_O_clashes_174 hO.1 hO.2.1 rfl d_O_mergeEntry_217 rfl rfl (Nat.le_of_ble_eq_true rfl) rfl (fun _ _ h => h.elim) (fun _ _ h => h) (fun r55 M54 hw => ?_)
            exact x_zret d_O_mergeEntry_220 rfl (sdB_n hw.1) (fun _ h => h) ⟨_, rfl, hw.2⟩
def k_O_mergeEntry_144 (Q : Int32 → sdM → Prop) (M : sdM) (s0 : Int32) : Prop := sdB s0 ∧ Q s0 M
set_option maxHeartbeats 1000000 in
theorem t_O_mergeEntry_144 (hA : sd_ad b n ad) (hT : l.stackTraces = false) (hO : isO n L dA) {Q : Int32 → sdM → Prop} (M : sdM) (s0 : Int32) (hw : k_O_mergeEntry_144 Q M s0) : sdW l (sdE0 sc) Y_O_mergeEntry D (sd_tys dA) b n ad L ad (sd_H D (sdE0 sc).1 n ad L) (sd_qi Q) sd_xf 144 [] [.int s0] M 0 0 := by
  unfold k_O_mergeEntry_144 at hw
  exact x_zret d_O_mergeEntry_144 rfl (sdB_n hw.1) (fun _ h => h) ⟨_, rfl, hw.2⟩
def k_O_mergeEntry_143 (Q : Int32 → sdM → Prop) (M : sdM) : Prop := k_O_mergeEntry_144 Q M (0 : Int32)
set_option maxHeartbeats 1000000 in
theorem t_O_mergeEntry_143 (hA : sd_ad b n ad) (hT : l.stackTraces = false) (hO : isO n L dA) {Q : Int32 → sdM → Prop} (M : sdM) (hw : k_O_mergeEntry_143 Q M ) : sdW l (sdE0 sc) Y_O_mergeEntry D (sd_tys dA) b n ad L ad (sd_H D (sdE0 sc).1 n ad L) (sd_qi Q) sd_xf 143 [] [] M 0 0 := by
  unfold k_O_mergeEntry_143 at hw
  refine x_iconst (v := 0) d_O_mergeEntry_143 (by decide) ?_
  exact t_O_mergeEntry_144 hA hT hO M (0 : Int32) hw
def k_O_mergeEntry_126 (Q : Int32 → sdM → Prop) (M : sdM) (x2 : Int32) (x3 : Int32) (s0 : Int32) (s1 : Int32) : Prop := (s0 = s1 → k_O_mergeEntry_143 Q M) ∧ (¬ s0 = s1 → w_O_clashes M x2 x3 (-1 : Int32) (fun r57 M56 => (r57 = 0 → k_O_mergeEntry_143 Q M56) ∧ (¬ r57 = 0 → k_O_mergeEntry_144 Q M56 (1 : Int32))))
set_option maxHeartbeats 1000000 in
theorem t_O_mergeEntry_126 (hA : sd_ad b n ad) (hT : l.stackTraces = false) (hO : isO n L dA) {Q : Int32 → sdM → Prop} (M : sdM) (x2 : Int32) (x3 : Int32) (s0 : Int32) (s1 : Int32) (hw : k_O_mergeEntry_126 Q M x2 x3 s0 s1) : sdW l (sdE0 sc) Y_O_mergeEntry D (sd_tys dA) b n ad L ad (sd_H D (sdE0 sc).1 n ad L) (sd_qi Q) sd_xf 126 [(0, .ref 116), (2, .int x2), (3, .int x3)] [.int s1, .int s0] M 0 0 := by
  unfold k_O_mergeEntry_126 at hw
  refine x_icmp_eq 143 d_O_mergeEntry_126 rfl (fun hc => ?_) (fun hc => ?_)
  · have hw := hw.1 hc
    refine x_sub [] [] rfl ?_
    exact t_O_mergeEntry_143 hA hT hO M hw
  · have hw := hw.2 hc
    refine x_aload_n 0 0 d_O_mergeEntry_129 rfl rfl ?_
    refine x_iload_n 2 1 d_O_mergeEntry_130 rfl rfl ?_
    refine x_iload_n 3 2 d_O_mergeEntry_131 rfl rfl ?_
    refine x_iconst (v := (-1)) d_O_mergeEntry_132 (by decide) ?_
    refine x_callVi (As := [.int x2, .int x3, .int (-1 : Int32)]) (t := 116) (rest := []) (rc := 0) (rs := 0) (c_O_clashes hA hT hO hw) cw_O_mergeEntry_O_clashes_174 hO.1 hO.2.1 rfl d_O_mergeEntry_133 rfl rfl (Nat.le_of_ble_eq_true rfl) rfl (fun _ _ h => h.elim) (fun _ _ h => h) (fun r57 M56 hw => ?_)
    refine x_if_eq 143 d_O_mergeEntry_136 rfl (fun hc => ?_) (fun hc => ?_)
    · have hw := hw.1 hc
      refine x_sub [] [] rfl ?_
      exact t_O_mergeEntry_143 hA hT hO M56 hw
    · have hw := hw.2 hc
      refine x_iconst (v := 1) d_O_mergeEntry_139 (by decide) ?_
      refine x_goto 144 d_O_mergeEntry_140 rfl ?_
      refine x_sub [] [] rfl ?_
      exact t_O_mergeEntry_144 hA hT hO M56 (1 : Int32) hw
def k_O_mergeEntry_116 (Q : Int32 → sdM → Prop) (M : sdM) (x2 : Int32) (x3 : Int32) (x5 : Int32) (s0 : Int32) : Prop := (x5 < 0 → k_O_mergeEntry_126 Q M x2 x3 s0 (0 : Int32)) ∧ (¬ x5 < 0 → k_O_mergeEntry_126 Q M x2 x3 s0 (1 : Int32))
set_option maxHeartbeats 1000000 in
theorem t_O_mergeEntry_116 (hA : sd_ad b n ad) (hT : l.stackTraces = false) (hO : isO n L dA) {Q : Int32 → sdM → Prop} (M : sdM) (x2 : Int32) (x3 : Int32) (x5 : Int32) (s0 : Int32) (hw : k_O_mergeEntry_116 Q M x2 x3 x5 s0) : sdW l (sdE0 sc) Y_O_mergeEntry D (sd_tys dA) b n ad L ad (sd_H D (sdE0 sc).1 n ad L) (sd_qi Q) sd_xf 116 [(0, .ref 116), (2, .int x2), (3, .int x3), (5, .int x5)] [.int s0] M 0 0 := by
  unfold k_O_mergeEntry_116 at hw
  refine x_iload 5 3 d_O_mergeEntry_116 rfl ?_
  refine x_if_lt 125 d_O_mergeEntry_118 rfl (fun hc => ?_) (fun hc => ?_)
  · have hw := hw.1 hc
    refine x_iconst (v := 0) d_O_mergeEntry_125 (by decide) ?_
    refine x_sub [0, 1, 2] [(0, .ref 116), (2, .int x2), (3, .int x3)] rfl ?_
    exact t_O_mergeEntry_126 hA hT hO M x2 x3 s0 (0 : Int32) hw
  · have hw := hw.2 hc
    refine x_iconst (v := 1) d_O_mergeEntry_121 (by decide) ?_
    refine x_goto 126 d_O_mergeEntry_122 rfl ?_
    refine x_sub [0, 1, 2] [(0, .ref 116), (2, .int x2), (3, .int x3)] rfl ?_
    exact t_O_mergeEntry_126 hA hT hO M x2 x3 s0 (1 : Int32) hw
def k_O_mergeEntry_106 (Q : Int32 → sdM → Prop) (M : sdM) (x2 : Int32) (x3 : Int32) (x4 : Int32) (x5 : Int32) : Prop := (x4 < 0 → k_O_mergeEntry_116 Q M x2 x3 x5 (0 : Int32)) ∧ (¬ x4 < 0 → k_O_mergeEntry_116 Q M x2 x3 x5 (1 : Int32))
set_option maxHeartbeats 1000000 in
theorem t_O_mergeEntry_106 (hA : sd_ad b n ad) (hT : l.stackTraces = false) (hO : isO n L dA) {Q : Int32 → sdM → Prop} (M : sdM) (x2 : Int32) (x3 : Int32) (x4 : Int32) (x5 : Int32) (hw : k_O_mergeEntry_106 Q M x2 x3 x4 x5) : sdW l (sdE0 sc) Y_O_mergeEntry D (sd_tys dA) b n ad L ad (sd_H D (sdE0 sc).1 n ad L) (sd_qi Q) sd_xf 106 [(0, .ref 116), (2, .int x2), (3, .int x3), (4, .int x4), (5, .int x5)] [] M 0 0 := by
  unfold k_O_mergeEntry_106 at hw
  refine x_iload 4 3 d_O_mergeEntry_106 rfl ?_
  refine x_if_lt 115 d_O_mergeEntry_108 rfl (fun hc => ?_) (fun hc => ?_)
  · have hw := hw.1 hc
    refine x_iconst (v := 0) d_O_mergeEntry_115 (by decide) ?_
    refine x_sub [0, 1, 2, 4] [(0, .ref 116), (2, .int x2), (3, .int x3), (5, .int x5)] rfl ?_
    exact t_O_mergeEntry_116 hA hT hO M x2 x3 x5 (0 : Int32) hw
  · have hw := hw.2 hc
    refine x_iconst (v := 1) d_O_mergeEntry_111 (by decide) ?_
    refine x_goto 116 d_O_mergeEntry_112 rfl ?_
    refine x_sub [0, 1, 2, 4] [(0, .ref 116), (2, .int x2), (3, .int x3), (5, .int x5)] rfl ?_
    exact t_O_mergeEntry_116 hA hT hO M x2 x3 x5 (1 : Int32) hw
def k_O_mergeEntry_94 (Q : Int32 → sdM → Prop) (M : sdM) : Prop := sdB (0 : Int32) ∧ Q (0 : Int32) M
set_option maxHeartbeats 1000000 in
theorem t_O_mergeEntry_94 (hA : sd_ad b n ad) (hT : l.stackTraces = false) (hO : isO n L dA) {Q : Int32 → sdM → Prop} (M : sdM) (hw : k_O_mergeEntry_94 Q M ) : sdW l (sdE0 sc) Y_O_mergeEntry D (sd_tys dA) b n ad L ad (sd_H D (sdE0 sc).1 n ad L) (sd_qi Q) sd_xf 94 [] [] M 0 0 := by
  unfold k_O_mergeEntry_94 at hw
  refine x_iconst (v := 0) d_O_mergeEntry_94 (by decide) ?_
  exact x_zret d_O_mergeEntry_95 rfl (sdB_n hw.1) (fun _ h => h) ⟨_, rfl, hw.2⟩
def k_O_mergeEntry_73 (Q : Int32 → sdM → Prop) (M : sdM) (x2 : Int32) (x3 : Int32) (s0 : Int32) : Prop := (s0 < 0 → k_O_mergeEntry_94 Q M) ∧ (¬ s0 < 0 → w_O_insert M (16 : Int32) x2 x3 (fun r59 M58 => w_O_put M58 s0 r59 (fun M60 => k_O_mergeEntry_94 Q M60)))
set_option maxHeartbeats 1000000 in
theorem t_O_mergeEntry_73 (hA : sd_ad b n ad) (hT : l.stackTraces = false) (hO : isO n L dA) {Q : Int32 → sdM → Prop} (M : sdM) (x2 : Int32) (x3 : Int32) (s0 : Int32) (hw : k_O_mergeEntry_73 Q M x2 x3 s0) : sdW l (sdE0 sc) Y_O_mergeEntry D (sd_tys dA) b n ad L ad (sd_H D (sdE0 sc).1 n ad L) (sd_qi Q) sd_xf 73 [(0, .ref 116), (2, .int x2), (3, .int x3)] [.int s0] M 0 0 := by
  unfold k_O_mergeEntry_73 at hw
  refine x_istore 7 [(7, .int s0), (0, .ref 116), (2, .int x2), (3, .int x3)] d_O_mergeEntry_73 (by decide) rfl ?_
  refine x_iload 7 0 d_O_mergeEntry_75 rfl ?_
  refine x_if_lt 94 d_O_mergeEntry_77 rfl (fun hc => ?_) (fun hc => ?_)
  · have hw := hw.1 hc
    refine x_sub [] [] rfl ?_
    exact t_O_mergeEntry_94 hA hT hO M hw
  · have hw := hw.2 hc
    refine x_aload_n 0 1 d_O_mergeEntry_80 rfl rfl ?_
    refine x_iload 7 0 d_O_mergeEntry_81 rfl ?_
    refine x_aload_n 0 1 d_O_mergeEntry_83 rfl rfl ?_
    refine x_bipush (v := 16) d_O_mergeEntry_84 (by decide) ?_
    refine x_iload_n 2 2 d_O_mergeEntry_86 rfl rfl ?_
    refine x_iload_n 3 3 d_O_mergeEntry_87 rfl rfl ?_
    refine x_callVi (As := [.int (16 : Int32), .int x2, .int x3]) (t := 116) (rest := [.int s0, .ref 116]) (rc := 0) (rs := 0) (c_O_insert hA hT hO hw) cw_O_mergeEntry_O_insert_164 hO.1 hO.2.1 rfl d_O_mergeEntry_88 rfl rfl (Nat.le_of_ble_eq_true rfl) rfl (fun _ _ h => h.elim) (fun _ _ h => h) (fun r59 M58 hw => ?_)
    refine x_callVv (As := [.int s0, .int r59]) (t := 116) (rest := []) (rc := 0) (rs := 0) (c_O_put hA hT hO hw) cw_O_mergeEntry_O_put_94 hO.1 hO.2.1 rfl d_O_mergeEntry_91 rfl rfl (Nat.le_of_ble_eq_true rfl) rfl (fun _ _ h => h.elim) (fun _ _ h => h) (fun M60 hw => ?_)
    refine x_sub [] [] rfl ?_
    exact t_O_mergeEntry_94 hA hT hO M60 hw
def k_O_mergeEntry_55 (Q : Int32 → sdM → Prop) (M : sdM) (x2 : Int32) (x3 : Int32) (x4 : Int32) (x5 : Int32) (x6 : Int32) : Prop := w_O_sameEntry M x5 x6 (fun r62 M61 => (r62 = 0 → k_O_mergeEntry_73 Q M61 x2 x3 x5) ∧ (¬ r62 = 0 → k_O_mergeEntry_73 Q M61 x2 x3 x4))
set_option maxHeartbeats 1000000 in
theorem t_O_mergeEntry_55 (hA : sd_ad b n ad) (hT : l.stackTraces = false) (hO : isO n L dA) {Q : Int32 → sdM → Prop} (M : sdM) (x2 : Int32) (x3 : Int32) (x4 : Int32) (x5 : Int32) (x6 : Int32) (hw : k_O_mergeEntry_55 Q M x2 x3 x4 x5 x6) : sdW l (sdE0 sc) Y_O_mergeEntry D (sd_tys dA) b n ad L ad (sd_H D (sdE0 sc).1 n ad L) (sd_qi Q) sd_xf 55 [(0, .ref 116), (2, .int x2), (3, .int x3), (4, .int x4), (5, .int x5), (6, .int x6)] [] M 0 0 := by
  unfold k_O_mergeEntry_55 at hw
  refine x_aload_n 0 0 d_O_mergeEntry_55 rfl rfl ?_
  refine x_iload 5 4 d_O_mergeEntry_56 rfl ?_
  refine x_iload 6 5 d_O_mergeEntry_58 rfl ?_
  refine x_callVi (As := [.int x5, .int x6]) (t := 116) (rest := []) (rc := 0) (rs := 0) (c_O_sameEntry hA hT hO hw) cw_O_mergeEntry_O_sameEntry_105 hO.1 hO.2.1 rfl d_O_mergeEntry_60 rfl rfl (Nat.le_of_ble_eq_true rfl) rfl (fun _ _ h => h.elim) (fun _ _ h => h) (fun r62 M61 hw => ?_)
  refine x_if_eq 71 d_O_mergeEntry_63 rfl (fun hc => ?_) (fun hc => ?_)
  · have hw := hw.1 hc
    refine x_iload 5 4 d_O_mergeEntry_71 rfl ?_
    refine x_sub [0, 1, 2] [(0, .ref 116), (2, .int x2), (3, .int x3)] rfl ?_
    exact t_O_mergeEntry_73 hA hT hO M61 x2 x3 x5 hw
  · have hw := hw.2 hc
    refine x_iload 4 3 d_O_mergeEntry_66 rfl ?_
    refine x_goto 73 d_O_mergeEntry_68 rfl ?_
    refine x_sub [0, 1, 2] [(0, .ref 116), (2, .int x2), (3, .int x3)] rfl ?_
    exact t_O_mergeEntry_73 hA hT hO M61 x2 x3 x4 hw
def w_O_mergeEntry (M : sdM) (a1 : Int32) (a2 : Int32) (a3 : Int32) (Q : Int32 → sdM → Prop) : Prop := w_O_find M (0 : Int32) a2 a3 (fun r64 M63 => w_O_find M63 ((10 : Int32) + a1) a2 a3 (fun r66 M65 => w_O_find M65 ((13 : Int32) + a1) a2 a3 (fun r68 M67 => w_O_sameEntry M67 r66 r68 (fun r70 M69 => (¬ r70 = 0 → k_O_mergeEntry_55 Q M69 a2 a3 r64 r66 r68) ∧ (r70 = 0 → w_O_sameEntry M69 r64 r68 (fun r72 M71 => (r72 = 0 → (r64 < 0 → k_O_mergeEntry_106 Q M71 a2 a3 r64 r66) ∧ (¬ r64 < 0 → (0 ≤ r66 → w_O_insert M71 (16 : Int32) a2 a3 (fun r74 M73 => ∃ N9 : Nat, h_O_mergeEntry_158 Q N9 M73 a2 a3 r64 r66 r68 r74 (0 : Int32))) ∧ (¬ 0 ≤ r66 → k_O_mergeEntry_106 Q M71 a2 a3 r64 r66))) ∧ (¬ r72 = 0 → k_O_mergeEntry_55 Q M71 a2 a3 r64 r66 r68)))))))
set_option maxHeartbeats 1000000 in
theorem c_O_mergeEntry {a1 : Int32} {a2 : Int32} {a3 : Int32} (hA : sd_ad b n ad) (hT : l.stackTraces = false) (hO : isO n L dA) {Q : Int32 → sdM → Prop} {M : sdM} (hw : w_O_mergeEntry M a1 a2 a3 Q) : sd_Cn l (sdE0 sc) y_O_mergeEntry Y_O_mergeEntry.2.2.2.2.1 Y_O_mergeEntry.2.2.2.2.2.1 0 0 D (sd_tys dA) b n ad L M [.ref 116, .int a1, .int a2, .int a3] (sd_qi Q) sd_xf := by
  refine sd_enter (Y := Y_O_mergeEntry) rfl rfl rfl rfl (Nat.le_of_ble_eq_true rfl) ?_
  show sdW l (sdE0 sc) Y_O_mergeEntry D (sd_tys dA) b n ad L ad (sd_H D (sdE0 sc).1 n ad L) (sd_qi Q) sd_xf 0 [(0, .ref 116), (1, .int a1), (2, .int a2), (3, .int a3)] [] M 0 0
  unfold w_O_mergeEntry at hw
  refine x_aload_n 0 0 d_O_mergeEntry_0 rfl rfl ?_
  refine x_iconst (v := 0) d_O_mergeEntry_1 (by decide) ?_
  refine x_iload_n 2 2 d_O_mergeEntry_2 rfl rfl ?_
  refine x_iload_n 3 3 d_O_mergeEntry_3 rfl rfl ?_
  refine x_callVi (As := [.int (0 : Int32), .int a2, .int a3]) (t := 116) (rest := []) (rc := 0) (rs := 0) (c_O_find hA hT hO hw) cw_O_mergeEntry_O_find_115 hO.1 hO.2.1 rfl d_O_mergeEntry_4 rfl rfl (Nat.le_of_ble_eq_true rfl) rfl (fun _ _ h => h.elim) (fun _ _ h => h) (fun r64 M63 hw => ?_)
  refine x_istore 4 [(4, .int r64), (0, .ref 116), (1, .int a1), (2, .int a2), (3, .int a3)] d_O_mergeEntry_7 (by decide) rfl ?_
  refine x_aload_n 0 1 d_O_mergeEntry_9 rfl rfl ?_
  refine x_bipush (v := 10) d_O_mergeEntry_10 (by decide) ?_
  refine x_iload_n 1 2 d_O_mergeEntry_12 rfl rfl ?_
  refine x_iadd d_O_mergeEntry_13 ?_
  refine x_iload_n 2 3 d_O_mergeEntry_14 rfl rfl ?_
  refine x_iload_n 3 4 d_O_mergeEntry_15 rfl rfl ?_
  refine x_callVi (As := [.int ((10 : Int32) + a1), .int a2, .int a3]) (t := 116) (rest := []) (rc := 0) (rs := 0) (c_O_find hA hT hO hw) cw_O_mergeEntry_O_find_115 hO.1 hO.2.1 rfl d_O_mergeEntry_16 rfl rfl (Nat.le_of_ble_eq_true rfl) rfl (fun _ _ h => h.elim) (fun _ _ h => h) (fun r66 M65 hw => ?_)
  refine x_istore 5 [(5, .int r66), (4, .int r64), (0, .ref 116), (1, .int a1), (2, .int a2), (3, .int a3)] d_O_mergeEntry_19 (by decide) rfl ?_
  refine x_aload_n 0 2 d_O_mergeEntry_21 rfl rfl ?_
  refine x_bipush (v := 13) d_O_mergeEntry_22 (by decide) ?_
  refine x_iload_n 1 3 d_O_mergeEntry_24 rfl rfl ?_
  refine x_iadd d_O_mergeEntry_25 ?_
  refine x_iload_n 2 4 d_O_mergeEntry_26 rfl rfl ?_
  refine x_iload_n 3 5 d_O_mergeEntry_27 rfl rfl ?_
  refine x_callVi (As := [.int ((13 : Int32) + a1), .int a2, .int a3]) (t := 116) (rest := []) (rc := 0) (rs := 0) (c_O_find hA hT hO hw) cw_O_mergeEntry_O_find_115 hO.1 hO.2.1 rfl d_O_mergeEntry_28 rfl rfl (Nat.le_of_ble_eq_true rfl) rfl (fun _ _ h => h.elim) (fun _ _ h => h) (fun r68 M67 hw => ?_)
  refine x_istore 6 [(6, .int r68), (5, .int r66), (4, .int r64), (0, .ref 116), (1, .int a1), (2, .int a2), (3, .int a3)] d_O_mergeEntry_31 (by decide) rfl ?_
  refine x_aload_n 0 3 d_O_mergeEntry_33 rfl rfl ?_
  refine x_iload 5 1 d_O_mergeEntry_34 rfl ?_
  refine x_iload 6 0 d_O_mergeEntry_36 rfl ?_
  refine x_callVi (As := [.int r66, .int r68]) (t := 116) (rest := []) (rc := 0) (rs := 0) (c_O_sameEntry hA hT hO hw) cw_O_mergeEntry_O_sameEntry_105 hO.1 hO.2.1 rfl d_O_mergeEntry_38 rfl rfl (Nat.le_of_ble_eq_true rfl) rfl (fun _ _ h => h.elim) (fun _ _ h => h) (fun r70 M69 hw => ?_)
  refine x_if_ne 55 d_O_mergeEntry_41 rfl (fun hc => ?_) (fun hc => ?_)
  · have hw := hw.1 hc
    refine x_sub [3, 5, 6, 2, 1, 0] [(0, .ref 116), (2, .int a2), (3, .int a3), (4, .int r64), (5, .int r66), (6, .int r68)] rfl ?_
    exact t_O_mergeEntry_55 hA hT hO M69 a2 a3 r64 r66 r68 hw
  · have hw := hw.2 hc
    refine x_aload_n 0 3 d_O_mergeEntry_44 rfl rfl ?_
    refine x_iload 4 2 d_O_mergeEntry_45 rfl ?_
    refine x_iload 6 0 d_O_mergeEntry_47 rfl ?_
    refine x_callVi (As := [.int r64, .int r68]) (t := 116) (rest := []) (rc := 0) (rs := 0) (c_O_sameEntry hA hT hO hw) cw_O_mergeEntry_O_sameEntry_105 hO.1 hO.2.1 rfl d_O_mergeEntry_49 rfl rfl (Nat.le_of_ble_eq_true rfl) rfl (fun _ _ h => h.elim) (fun _ _ h => h) (fun r72 M71 hw => ?_)
    refine x_if_eq 96 d_O_mergeEntry_52 rfl (fun hc => ?_) (fun hc => ?_)
    · have hw := hw.1 hc
      refine x_iload 4 2 d_O_mergeEntry_96 rfl ?_
      refine x_if_lt 106 d_O_mergeEntry_98 rfl (fun hc => ?_) (fun hc => ?_)
      · have hw := hw.1 hc
        refine x_sub [3, 5, 6, 2, 1] [(0, .ref 116), (2, .int a2), (3, .int a3), (4, .int r64), (5, .int r66)] rfl ?_
        exact t_O_mergeEntry_106 hA hT hO M71 a2 a3 r64 r66 hw
      · have hw := hw.2 hc
        refine x_iload 5 1 d_O_mergeEntry_101 rfl ?_
        refine x_if_ge 145 d_O_mergeEntry_103 rfl (fun hc => ?_) (fun hc => ?_)
        · have hw := hw.1 hc
          refine x_aload_n 0 3 d_O_mergeEntry_145 rfl rfl ?_
          refine x_bipush (v := 16) d_O_mergeEntry_146 (by decide) ?_
          refine x_iload_n 2 5 d_O_mergeEntry_148 rfl rfl ?_
          refine x_iload_n 3 6 d_O_mergeEntry_149 rfl rfl ?_
          refine x_callVi (As := [.int (16 : Int32), .int a2, .int a3]) (t := 116) (rest := []) (rc := 0) (rs := 0) (c_O_insert hA hT hO hw) cw_O_mergeEntry_O_insert_164 hO.1 hO.2.1 rfl d_O_mergeEntry_150 rfl rfl (Nat.le_of_ble_eq_true rfl) rfl (fun _ _ h => h.elim) (fun _ _ h => h) (fun r74 M73 hw => ?_)
          refine x_istore 7 [(7, .int r74), (6, .int r68), (5, .int r66), (4, .int r64), (0, .ref 116), (1, .int a1), (2, .int a2), (3, .int a3)] d_O_mergeEntry_153 (by decide) rfl ?_
          refine x_iconst (v := 0) d_O_mergeEntry_155 (by decide) ?_
          refine x_istore 8 [(8, .int (0 : Int32)), (7, .int r74), (6, .int r68), (5, .int r66), (4, .int r64), (0, .ref 116), (1, .int a1), (2, .int a2), (3, .int a3)] d_O_mergeEntry_156 (by decide) rfl ?_
          refine x_sub [5, 7, 8, 4, 3, 2, 1, 0] [(0, .ref 116), (2, .int a2), (3, .int a3), (4, .int r64), (5, .int r66), (6, .int r68), (7, .int r74), (8, .int (0 : Int32))] rfl ?_
          obtain ⟨N9, hw⟩ := hw
          exact t_O_mergeEntry_158 hA hT hO N9 M73 a2 a3 r64 r66 r68 r74 (0 : Int32) hw
        · have hw := hw.2 hc
          refine x_sub [3, 5, 6, 2, 1] [(0, .ref 116), (2, .int a2), (3, .int a3), (4, .int r64), (5, .int r66)] rfl ?_
          exact t_O_mergeEntry_106 hA hT hO M71 a2 a3 r64 r66 hw
    · have hw := hw.2 hc
      refine x_sub [3, 5, 6, 2, 1, 0] [(0, .ref 116), (2, .int a2), (3, .int a3), (4, .int r64), (5, .int r66), (6, .int r68)] rfl ?_
      exact t_O_mergeEntry_55 hA hT hO M71 a2 a3 r64 r66 r68 hw
end
theorem q570 : (.methodLink "SettingsDeskModel" 177 ⟨"SettingsDeskModel", "mergeEntry", "(III)Z"⟩ : Cond) ∈ sdB0 := sd_tb5 169 rfl rfl
theorem q571 : (.code ⟨"SettingsDeskModel", "mergeEntry", "(III)Z"⟩ prog_12_method_38_code 11 (some .boolean) : Cond) ∈ sdB0 := sd_tb5 172 rfl rfl
theorem q572 : (.instanceMethod ⟨"SettingsDeskModel", "mergeEntry", "(III)Z"⟩ : Cond) ∈ sdB0 := sd_tb5 171 rfl rfl
theorem q573 : (.selects "SettingsDeskModel" ⟨"SettingsDeskModel", "mergeEntry", "(III)Z"⟩ ⟨"SettingsDeskModel", "mergeEntry", "(III)Z"⟩ : Cond) ∈ sdB0 := sd_tbp (q := (⟨"SettingsDeskModel", "mergeEntry", "(III)Z"⟩, 35)) (List.mem_of_getElem? (i := 37) rfl)
abbrev y_O_merge : MethodName := ⟨"SettingsDeskModel", "merge", "(I)Z"⟩
theorem d_O_merge_0 : decode prog_12_method_39_code 0 = .ok (.aload_n 0, 1) := by decide +kernel
theorem d_O_merge_1 : decode prog_12_method_39_code 1 = .ok (.iconst 0, 1) := by decide +kernel
theorem d_O_merge_2 : decode prog_12_method_39_code 2 = .ok (.bipush (13), 2) := by decide +kernel
theorem d_O_merge_4 : decode prog_12_method_39_code 4 = .ok (.iload_n 1, 1) := by decide +kernel
theorem d_O_merge_5 : decode prog_12_method_39_code 5 = .ok (.iadd, 1) := by decide +kernel
theorem d_O_merge_6 : decode prog_12_method_39_code 6 = .ok (.invokevirtual 141, 3) := by decide +kernel
theorem d_O_merge_9 : decode prog_12_method_39_code 9 = .ok (.ifCond .eq (15), 3) := by decide +kernel
theorem d_O_merge_12 : decode prog_12_method_39_code 12 = .ok (.aload_n 0, 1) := by decide +kernel
theorem d_O_merge_13 : decode prog_12_method_39_code 13 = .ok (.bipush (10), 2) := by decide +kernel
theorem d_O_merge_15 : decode prog_12_method_39_code 15 = .ok (.iload_n 1, 1) := by decide +kernel
theorem d_O_merge_16 : decode prog_12_method_39_code 16 = .ok (.iadd, 1) := by decide +kernel
theorem d_O_merge_17 : decode prog_12_method_39_code 17 = .ok (.bipush (16), 2) := by decide +kernel
theorem d_O_merge_19 : decode prog_12_method_39_code 19 = .ok (.invokevirtual 144, 3) := by decide +kernel
theorem d_O_merge_22 : decode prog_12_method_39_code 22 = .ok (.iconst 0, 1) := by decide +kernel
theorem d_O_merge_23 : decode prog_12_method_39_code 23 = .ok (.ireturn, 1) := by decide +kernel
theorem d_O_merge_24 : decode prog_12_method_39_code 24 = .ok (.iconst 0, 1) := by decide +kernel
theorem d_O_merge_25 : decode prog_12_method_39_code 25 = .ok (.istore_n 2, 1) := by decide +kernel
theorem d_O_merge_26 : decode prog_12_method_39_code 26 = .ok (.iload_n 2, 1) := by decide +kernel
theorem d_O_merge_27 : decode prog_12_method_39_code 27 = .ok (.iconst 4, 1) := by decide +kernel
theorem d_O_merge_28 : decode prog_12_method_39_code 28 = .ok (.if_icmp .ge (45), 3) := by decide +kernel
theorem d_O_merge_31 : decode prog_12_method_39_code 31 = .ok (.aload_n 0, 1) := by decide +kernel
theorem d_O_merge_32 : decode prog_12_method_39_code 32 = .ok (.getfield 51, 3) := by decide +kernel
theorem d_O_merge_35 : decode prog_12_method_39_code 35 = .ok (.bipush (64), 2) := by decide +kernel
theorem d_O_merge_37 : decode prog_12_method_39_code 37 = .ok (.iload_n 2, 1) := by decide +kernel
theorem d_O_merge_38 : decode prog_12_method_39_code 38 = .ok (.iadd, 1) := by decide +kernel
theorem d_O_merge_39 : decode prog_12_method_39_code 39 = .ok (.iconst 0, 1) := by decide +kernel
theorem d_O_merge_40 : decode prog_12_method_39_code 40 = .ok (.iastore, 1) := by decide +kernel
theorem d_O_merge_41 : decode prog_12_method_39_code 41 = .ok (.iconst 0, 1) := by decide +kernel
theorem d_O_merge_42 : decode prog_12_method_39_code 42 = .ok (.istore_n 3, 1) := by decide +kernel
theorem d_O_merge_43 : decode prog_12_method_39_code 43 = .ok (.iload_n 3, 1) := by decide +kernel
theorem d_O_merge_44 : decode prog_12_method_39_code 44 = .ok (.bipush (100), 2) := by decide +kernel
theorem d_O_merge_46 : decode prog_12_method_39_code 46 = .ok (.if_icmp .gt (21), 3) := by decide +kernel
theorem d_O_merge_49 : decode prog_12_method_39_code 49 = .ok (.aload_n 0, 1) := by decide +kernel
theorem d_O_merge_50 : decode prog_12_method_39_code 50 = .ok (.iload_n 1, 1) := by decide +kernel
theorem d_O_merge_51 : decode prog_12_method_39_code 51 = .ok (.iload_n 2, 1) := by decide +kernel
theorem d_O_merge_52 : decode prog_12_method_39_code 52 = .ok (.iload_n 3, 1) := by decide +kernel
theorem d_O_merge_53 : decode prog_12_method_39_code 53 = .ok (.invokevirtual 177, 3) := by decide +kernel
theorem d_O_merge_56 : decode prog_12_method_39_code 56 = .ok (.ifCond .eq (5), 3) := by decide +kernel
theorem d_O_merge_59 : decode prog_12_method_39_code 59 = .ok (.iconst 1, 1) := by decide +kernel
theorem d_O_merge_60 : decode prog_12_method_39_code 60 = .ok (.ireturn, 1) := by decide +kernel
theorem d_O_merge_61 : decode prog_12_method_39_code 61 = .ok (.iinc 3 (1), 3) := by decide +kernel
theorem d_O_merge_64 : decode prog_12_method_39_code 64 = .ok (.goto (-21), 3) := by decide +kernel
theorem d_O_merge_67 : decode prog_12_method_39_code 67 = .ok (.iinc 2 (1), 3) := by decide +kernel
theorem d_O_merge_70 : decode prog_12_method_39_code 70 = .ok (.goto (-44), 3) := by decide +kernel
theorem d_O_merge_73 : decode prog_12_method_39_code 73 = .ok (.iconst 0, 1) := by decide +kernel
theorem d_O_merge_74 : decode prog_12_method_39_code 74 = .ok (.ireturn, 1) := by decide +kernel
def Y_O_merge : sdY := ("SettingsDeskModel", prog_12_method_39_code, 4, (some .boolean), .code y_O_merge prog_12_method_39_code 4 (some .boolean) :: sdB0, { frames := 4, cells := 0, slots := 0, locals := 97 }, 0, 0, [])
theorem cw_O_merge_O_same_141 : sd_cwV Y_O_merge Y_O_same y_O_same 141 2 "SettingsDeskModel" := ⟨sd_goodV q545 q547 q548 q459 q546, ⟨_, rfl⟩, ⟨rfl, rfl, rfl, rfl⟩, ⟨rfl, by decide, by decide, by decide +kernel⟩, ⟨by decide, by decide⟩⟩
theorem cw_O_merge_O_copy_144 : sd_cwV Y_O_merge Y_O_copy y_O_copy 144 2 "SettingsDeskModel" := ⟨sd_goodV q527 q529 q530 q459 q528, ⟨_, rfl⟩, ⟨rfl, rfl, rfl, rfl⟩, ⟨rfl, by decide, by decide, by decide +kernel⟩, ⟨by decide, by decide⟩⟩
theorem cw_O_merge_O_mergeEntry_177 : sd_cwV Y_O_merge Y_O_mergeEntry y_O_mergeEntry 177 3 "SettingsDeskModel" := ⟨sd_goodV q570 q572 q573 q459 q571, ⟨_, rfl⟩, ⟨rfl, rfl, rfl, rfl⟩, ⟨rfl, by decide, by decide, by decide +kernel⟩, ⟨by decide, by decide⟩⟩
section
variable {l : Launch} {D : va_G} {dA : Nat → ClassId} {b n : Nat} {ad : Nat → Nat} {L : Nat → sdL} {sc : Option (Nat × Nat × (Nat → Int32))}
def h_O_merge_43 (Q : Int32 → sdM → Prop) (k26 : sdM → Int32 → Int32 → Prop) : Nat → sdM → Int32 → Int32 → Int32 → Prop
  | 0, _, _, _, _ => False
  | N + 1, M, x1, x2, x3 => ((100 : Int32) < x3 → k26 M x1 (x2 + 1)) ∧ (¬ (100 : Int32) < x3 → w_O_mergeEntry M x1 x2 x3 (fun r10 M9 => (r10 = 0 → h_O_merge_43 Q k26 N M9 x1 x2 (x3 + 1)) ∧ (¬ r10 = 0 → sdB (1 : Int32) ∧ Q (1 : Int32) M9)))
set_option maxHeartbeats 1000000 in
theorem t_O_merge_43 (hA : sd_ad b n ad) (hT : l.stackTraces = false) (hO : isO n L dA) {Q : Int32 → sdM → Prop} {k26 : sdM → Int32 → Int32 → Prop} (hk26 : ∀ (M : sdM) (x1 : Int32) (x2 : Int32), k26 M x1 x2 → sdW l (sdE0 sc) Y_O_merge D (sd_tys dA) b n ad L ad (sd_H D (sdE0 sc).1 n ad L) (sd_qi Q) sd_xf 26 [(0, .ref 116), (1, .int x1), (2, .int x2)] [] M 0 0) (N : Nat) : ∀ (M : sdM) (x1 : Int32) (x2 : Int32) (x3 : Int32), h_O_merge_43 Q k26 N M x1 x2 x3 → sdW l (sdE0 sc) Y_O_merge D (sd_tys dA) b n ad L ad (sd_H D (sdE0 sc).1 n ad L) (sd_qi Q) sd_xf 43 [(0, .ref 116), (1, .int x1), (2, .int x2), (3, .int x3)] [] M 0 0 := by
  induction N with
  | zero => intro M x1 x2 x3 hw; exact hw.elim
  | succ N ih =>
    intro M x1 x2 x3 hw
    rw [h_O_merge_43] at hw
    refine x_iload_n 3 3 d_O_merge_43 rfl rfl ?_
    refine x_bipush (v := 100) d_O_merge_44 (by decide) ?_
    refine x_icmp_gt 67 d_O_merge_46 rfl (fun hc => ?_) (fun hc => ?_)
    · have hw := hw.1 hc
      refine x_iinc 2 2 [(2, .int (x2 + 1)), (0, .ref 116), (1, .int x1), (3, .int x3)] d_O_merge_67 rfl (congrArg (HAdd.hAdd x2) (show Int32.ofInt 1 = 1 by decide)) (by decide) rfl ?_
      refine x_goto 26 d_O_merge_70 rfl ?_
      refine x_sub [1, 2, 0] [(0, .ref 116), (1, .int x1), (2, .int (x2 + 1))] rfl ?_
      exact hk26 M x1 (x2 + 1) hw
    · have hw := hw.2 hc
      refine x_aload_n 0 0 d_O_merge_49 rfl rfl ?_
      refine x_iload_n 1 1 d_O_merge_50 rfl rfl ?_
      refine x_iload_n 2 2 d_O_merge_51 rfl rfl ?_
      refine x_iload_n 3 3 d_O_merge_52 rfl rfl ?_
      refine x_callVi (As := [.int x1, .int x2, .int x3]) (t := 116) (rest := []) (rc := 0) (rs := 0) (c_O_mergeEntry hA hT hO hw) cw_O_merge_O_mergeEntry_177 hO.1 hO.2.1 rfl d_O_merge_53 rfl rfl (Nat.le_of_ble_eq_true rfl) rfl (fun _ _ h => h.elim) (fun _ _ h => h) (fun r10 M9 hw => ?_)
      refine x_if_eq 61 d_O_merge_56 rfl (fun hc => ?_) (fun hc => ?_)
      · have hw := hw.1 hc
        refine x_iinc 3 3 [(3, .int (x3 + 1)), (0, .ref 116), (1, .int x1), (2, .int x2)] d_O_merge_61 rfl (congrArg (HAdd.hAdd x3) (show Int32.ofInt 1 = 1 by decide)) (by decide) rfl ?_
        refine x_goto 43 d_O_merge_64 rfl ?_
        refine x_sub [1, 2, 3, 0] [(0, .ref 116), (1, .int x1), (2, .int x2), (3, .int (x3 + 1))] rfl ?_
        exact ih M9 x1 x2 (x3 + 1) hw
      · have hw := hw.2 hc
        refine x_iconst (v := 1) d_O_merge_59 (by decide) ?_
        exact x_zret d_O_merge_60 rfl (sdB_n hw.1) (fun _ h => h) ⟨_, rfl, hw.2⟩
def h_O_merge_26 (Q : Int32 → sdM → Prop) : Nat → sdM → Int32 → Int32 → Prop
  | 0, _, _, _ => False
  | N + 1, M, x1, x2 => ((4 : Int32) ≤ x2 → sdB (0 : Int32) ∧ Q (0 : Int32) M) ∧ (¬ (4 : Int32) ≤ x2 → vp_in ((64 : Int32) + x2) 68 ∧ ∀ M12 : sdM, M12 = sd_s M 129 ((64 : Int32) + x2).toNatClampNeg (0 : Int32) → ∃ N9 : Nat, h_O_merge_43 Q (fun M x1 x2 => h_O_merge_26 Q N M x1 x2) N9 M12 x1 x2 (0 : Int32))
set_option maxHeartbeats 1000000 in
theorem t_O_merge_26 (hA : sd_ad b n ad) (hT : l.stackTraces = false) (hO : isO n L dA) {Q : Int32 → sdM → Prop} (N : Nat) : ∀ (M : sdM) (x1 : Int32) (x2 : Int32), h_O_merge_26 Q N M x1 x2 → sdW l (sdE0 sc) Y_O_merge D (sd_tys dA) b n ad L ad (sd_H D (sdE0 sc).1 n ad L) (sd_qi Q) sd_xf 26 [(0, .ref 116), (1, .int x1), (2, .int x2)] [] M 0 0 := by
  induction N with
  | zero => intro M x1 x2 hw; exact hw.elim
  | succ N ih =>
    intro M x1 x2 hw
    rw [h_O_merge_26] at hw
    refine x_iload_n 2 2 d_O_merge_26 rfl rfl ?_
    refine x_iconst (v := 4) d_O_merge_27 (by decide) ?_
    refine x_icmp_ge 73 d_O_merge_28 rfl (fun hc => ?_) (fun hc => ?_)
    · have hw := hw.1 hc
      refine x_iconst (v := 0) d_O_merge_73 (by decide) ?_
      exact x_zret d_O_merge_74 rfl (sdB_n hw.1) (fun _ h => h) ⟨_, rfl, hw.2⟩
    · have hw := hw.2 hc
      refine x_aload_n 0 0 d_O_merge_31 rfl rfl ?_
      refine x_getr 16 129 d_O_merge_32 hO.1 hO.2.1 rfl rfl (by decide) lay_O (List.mem_cons_of_mem _ q478) rfl ?_
      refine x_bipush (v := 64) d_O_merge_35 (by decide) ?_
      refine x_iload_n 2 2 d_O_merge_37 rfl rfl ?_
      refine x_iadd d_O_merge_38 ?_
      refine x_iconst (v := 0) d_O_merge_39 (by decide) ?_
      obtain ⟨hi11, hw⟩ := hw
      refine x_iast hA d_O_merge_40 hO.sizes.1 hO.sizes.2 rfl hi11 (fun M12 e13 => ?_)
      have hw := hw M12 e13
      clear e13
      refine x_iconst (v := 0) d_O_merge_41 (by decide) ?_
      refine x_istore_n 3 [(3, .int (0 : Int32)), (0, .ref 116), (1, .int x1), (2, .int x2)] d_O_merge_42 rfl (by decide) rfl ?_
      refine x_sub [1, 2, 3, 0] [(0, .ref 116), (1, .int x1), (2, .int x2), (3, .int (0 : Int32))] rfl ?_
      obtain ⟨N9, hw⟩ := hw
      exact t_O_merge_43 hA hT hO (fun M x1 x2  hw => ih M x1 x2 hw) N9 M12 x1 x2 (0 : Int32) hw
def w_O_merge (M : sdM) (a1 : Int32) (Q : Int32 → sdM → Prop) : Prop := w_O_same M (0 : Int32) ((13 : Int32) + a1) (fun r15 M14 => (r15 = 0 → ∃ N9 : Nat, h_O_merge_26 Q N9 M14 a1 (0 : Int32)) ∧ (¬ r15 = 0 → w_O_copy M14 ((10 : Int32) + a1) (16 : Int32) (fun M16 => sdB (0 : Int32) ∧ Q (0 : Int32) M16)))
set_option maxHeartbeats 1000000 in
theorem c_O_merge {a1 : Int32} (hA : sd_ad b n ad) (hT : l.stackTraces = false) (hO : isO n L dA) {Q : Int32 → sdM → Prop} {M : sdM} (hw : w_O_merge M a1 Q) : sd_Cn l (sdE0 sc) y_O_merge Y_O_merge.2.2.2.2.1 Y_O_merge.2.2.2.2.2.1 0 0 D (sd_tys dA) b n ad L M [.ref 116, .int a1] (sd_qi Q) sd_xf := by
  refine sd_enter (Y := Y_O_merge) rfl rfl rfl rfl (Nat.le_of_ble_eq_true rfl) ?_
  show sdW l (sdE0 sc) Y_O_merge D (sd_tys dA) b n ad L ad (sd_H D (sdE0 sc).1 n ad L) (sd_qi Q) sd_xf 0 [(0, .ref 116), (1, .int a1)] [] M 0 0
  unfold w_O_merge at hw
  refine x_aload_n 0 0 d_O_merge_0 rfl rfl ?_
  refine x_iconst (v := 0) d_O_merge_1 (by decide) ?_
  refine x_bipush (v := 13) d_O_merge_2 (by decide) ?_
  refine x_iload_n 1 1 d_O_merge_4 rfl rfl ?_
  refine x_iadd d_O_merge_5 ?_
  refine x_callVi (As := [.int (0 : Int32), .int ((13 : Int32) + a1)]) (t := 116) (rest := []) (rc := 0) (rs := 0) (c_O_same hA hT hO hw) cw_O_merge_O_same_141 hO.1 hO.2.1 rfl d_O_merge_6 rfl rfl (Nat.le_of_ble_eq_true rfl) rfl (fun _ _ h => h.elim) (fun _ _ h => h) (fun r15 M14 hw => ?_)
  refine x_if_eq 24 d_O_merge_9 rfl (fun hc => ?_) (fun hc => ?_)
  · have hw := hw.1 hc
    refine x_iconst (v := 0) d_O_merge_24 (by decide) ?_
    refine x_istore_n 2 [(2, .int (0 : Int32)), (0, .ref 116), (1, .int a1)] d_O_merge_25 rfl (by decide) rfl ?_
    refine x_sub [1, 2, 0] [(0, .ref 116), (1, .int a1), (2, .int (0 : Int32))] rfl ?_
    obtain ⟨N9, hw⟩ := hw
    exact t_O_merge_26 hA hT hO N9 M14 a1 (0 : Int32) hw
  · have hw := hw.2 hc
    refine x_aload_n 0 0 d_O_merge_12 rfl rfl ?_
    refine x_bipush (v := 10) d_O_merge_13 (by decide) ?_
    refine x_iload_n 1 1 d_O_merge_15 rfl rfl ?_
    refine x_iadd d_O_merge_16 ?_
    refine x_bipush (v := 16) d_O_merge_17 (by decide) ?_
    refine x_callVv (As := [.int ((10 : Int32) + a1), .int (16 : Int32)]) (t := 116) (rest := []) (rc := 0) (rs := 0) (c_O_copy hA hT hO hw) cw_O_merge_O_copy_144 hO.1 hO.2.1 rfl d_O_merge_19 rfl rfl (Nat.le_of_ble_eq_true rfl) rfl (fun _ _ h => h.elim) (fun _ _ h => h) (fun M16 hw => ?_)
    refine x_iconst (v := 0) d_O_merge_22 (by decide) ?_
    exact x_zret d_O_merge_23 rfl (sdB_n hw.1) (fun _ h => h) ⟨_, rfl, hw.2⟩
end
theorem q574 : (.fieldLink "SettingsDeskModel" 192 "SettingsDeskModel" "waits" "I" : Cond) ∈ sdB0 := sd_tb4 183 rfl rfl
theorem q575 : (.methodLink "SettingsDeskModel" 195 ⟨"SettingsDeskModel", "merge", "(I)Z"⟩ : Cond) ∈ sdB0 := sd_tb5 153 rfl rfl
theorem q576 : (.code ⟨"SettingsDeskModel", "merge", "(I)Z"⟩ prog_12_method_39_code 4 (some .boolean) : Cond) ∈ sdB0 := sd_tb5 156 rfl rfl
theorem q577 : (.instanceMethod ⟨"SettingsDeskModel", "merge", "(I)Z"⟩ : Cond) ∈ sdB0 := sd_tb5 155 rfl rfl
theorem q578 : (.selects "SettingsDeskModel" ⟨"SettingsDeskModel", "merge", "(I)Z"⟩ ⟨"SettingsDeskModel", "merge", "(I)Z"⟩ : Cond) ∈ sdB0 := sd_tbp (q := (⟨"SettingsDeskModel", "merge", "(I)Z"⟩, 35)) (List.mem_of_getElem? (i := 33) rfl)
theorem q579 : (.methodLink "SettingsDeskModel" 202 ⟨"SettingsDeskModel", "become", "(I)Z"⟩ : Cond) ∈ sdB0 := sd_tb5 181 rfl rfl
theorem q580 : (.code ⟨"SettingsDeskModel", "become", "(I)Z"⟩ prog_12_method_27_code 3 (some .boolean) : Cond) ∈ sdB0 := sd_tb5 184 rfl rfl
theorem q581 : (.instanceMethod ⟨"SettingsDeskModel", "become", "(I)Z"⟩ : Cond) ∈ sdB0 := sd_tb5 183 rfl rfl
theorem q582 : (.selects "SettingsDeskModel" ⟨"SettingsDeskModel", "become", "(I)Z"⟩ ⟨"SettingsDeskModel", "become", "(I)Z"⟩ : Cond) ∈ sdB0 := sd_tbp (q := (⟨"SettingsDeskModel", "become", "(I)Z"⟩, 35)) (List.mem_of_getElem? (i := 40) rfl)
theorem q583 : (.methodLink "SettingsDeskModel" 198 ⟨"SettingsDeskModel", "note", "(I)V"⟩ : Cond) ∈ sdB0 := sd_tb5 177 rfl rfl
theorem q584 : (.code ⟨"SettingsDeskModel", "note", "(I)V"⟩ prog_12_method_40_code 2 none : Cond) ∈ sdB0 := sd_tb5 180 rfl rfl
theorem q585 : (.instanceMethod ⟨"SettingsDeskModel", "note", "(I)V"⟩ : Cond) ∈ sdB0 := sd_tb5 179 rfl rfl
theorem q586 : (.selects "SettingsDeskModel" ⟨"SettingsDeskModel", "note", "(I)V"⟩ ⟨"SettingsDeskModel", "note", "(I)V"⟩ : Cond) ∈ sdB0 := sd_tbp (q := (⟨"SettingsDeskModel", "note", "(I)V"⟩, 35)) (List.mem_of_getElem? (i := 39) rfl)
abbrev y_O_commit : MethodName := ⟨"SettingsDeskModel", "commit", "(II)I"⟩
theorem d_O_commit_0 : decode prog_12_method_41_code 0 = .ok (.aload_n 0, 1) := by decide +kernel
theorem d_O_commit_1 : decode prog_12_method_41_code 1 = .ok (.aload_n 0, 1) := by decide +kernel
theorem d_O_commit_2 : decode prog_12_method_41_code 2 = .ok (.iload_n 1, 1) := by decide +kernel
theorem d_O_commit_3 : decode prog_12_method_41_code 3 = .ok (.invokevirtual 171, 3) := by decide +kernel
theorem d_O_commit_6 : decode prog_12_method_41_code 6 = .ok (.putfield 69, 3) := by decide +kernel
theorem d_O_commit_9 : decode prog_12_method_41_code 9 = .ok (.aload_n 0, 1) := by decide +kernel
theorem d_O_commit_10 : decode prog_12_method_41_code 10 = .ok (.aload_n 0, 1) := by decide +kernel
theorem d_O_commit_11 : decode prog_12_method_41_code 11 = .ok (.getfield 69, 3) := by decide +kernel
theorem d_O_commit_14 : decode prog_12_method_41_code 14 = .ok (.ifCond .ne (18), 3) := by decide +kernel
theorem d_O_commit_17 : decode prog_12_method_41_code 17 = .ok (.iload_n 2, 1) := by decide +kernel
theorem d_O_commit_18 : decode prog_12_method_41_code 18 = .ok (.ifCond .lt (10), 3) := by decide +kernel
theorem d_O_commit_21 : decode prog_12_method_41_code 21 = .ok (.iload_n 2, 1) := by decide +kernel
theorem d_O_commit_22 : decode prog_12_method_41_code 22 = .ok (.sipush (1000), 3) := by decide +kernel
theorem d_O_commit_25 : decode prog_12_method_41_code 25 = .ok (.if_icmp .le (7), 3) := by decide +kernel
theorem d_O_commit_28 : decode prog_12_method_41_code 28 = .ok (.iconst 3, 1) := by decide +kernel
theorem d_O_commit_29 : decode prog_12_method_41_code 29 = .ok (.goto (7), 3) := by decide +kernel
theorem d_O_commit_32 : decode prog_12_method_41_code 32 = .ok (.aload_n 0, 1) := by decide +kernel
theorem d_O_commit_33 : decode prog_12_method_41_code 33 = .ok (.getfield 69, 3) := by decide +kernel
theorem d_O_commit_36 : decode prog_12_method_41_code 36 = .ok (.putfield 69, 3) := by decide +kernel
theorem d_O_commit_39 : decode prog_12_method_41_code 39 = .ok (.aload_n 0, 1) := by decide +kernel
theorem d_O_commit_40 : decode prog_12_method_41_code 40 = .ok (.getfield 69, 3) := by decide +kernel
theorem d_O_commit_43 : decode prog_12_method_41_code 43 = .ok (.ifCond .le (5), 3) := by decide +kernel
theorem d_O_commit_46 : decode prog_12_method_41_code 46 = .ok (.iconst 0, 1) := by decide +kernel
theorem d_O_commit_47 : decode prog_12_method_41_code 47 = .ok (.ireturn, 1) := by decide +kernel
theorem d_O_commit_48 : decode prog_12_method_41_code 48 = .ok (.aload_n 0, 1) := by decide +kernel
theorem d_O_commit_49 : decode prog_12_method_41_code 49 = .ok (.getfield 192, 3) := by decide +kernel
theorem d_O_commit_52 : decode prog_12_method_41_code 52 = .ok (.ifCond .gt (19), 3) := by decide +kernel
theorem d_O_commit_55 : decode prog_12_method_41_code 55 = .ok (.aload_n 0, 1) := by decide +kernel
theorem d_O_commit_56 : decode prog_12_method_41_code 56 = .ok (.getfield 66, 3) := by decide +kernel
theorem d_O_commit_59 : decode prog_12_method_41_code 59 = .ok (.iconst (-1), 1) := by decide +kernel
theorem d_O_commit_60 : decode prog_12_method_41_code 60 = .ok (.if_icmp .eq (13), 3) := by decide +kernel
theorem d_O_commit_63 : decode prog_12_method_41_code 63 = .ok (.aload_n 0, 1) := by decide +kernel
theorem d_O_commit_64 : decode prog_12_method_41_code 64 = .ok (.getfield 66, 3) := by decide +kernel
theorem d_O_commit_67 : decode prog_12_method_41_code 67 = .ok (.iload_n 1, 1) := by decide +kernel
theorem d_O_commit_68 : decode prog_12_method_41_code 68 = .ok (.if_icmp .eq (5), 3) := by decide +kernel
theorem d_O_commit_71 : decode prog_12_method_41_code 71 = .ok (.iconst 3, 1) := by decide +kernel
theorem d_O_commit_72 : decode prog_12_method_41_code 72 = .ok (.ireturn, 1) := by decide +kernel
theorem d_O_commit_73 : decode prog_12_method_41_code 73 = .ok (.aload_n 0, 1) := by decide +kernel
theorem d_O_commit_74 : decode prog_12_method_41_code 74 = .ok (.iload_n 1, 1) := by decide +kernel
theorem d_O_commit_75 : decode prog_12_method_41_code 75 = .ok (.invokevirtual 195, 3) := by decide +kernel
theorem d_O_commit_78 : decode prog_12_method_41_code 78 = .ok (.ifCond .eq (10), 3) := by decide +kernel
theorem d_O_commit_81 : decode prog_12_method_41_code 81 = .ok (.aload_n 0, 1) := by decide +kernel
theorem d_O_commit_82 : decode prog_12_method_41_code 82 = .ok (.iconst 0, 1) := by decide +kernel
theorem d_O_commit_83 : decode prog_12_method_41_code 83 = .ok (.invokevirtual 198, 3) := by decide +kernel
theorem d_O_commit_86 : decode prog_12_method_41_code 86 = .ok (.iconst 1, 1) := by decide +kernel
theorem d_O_commit_87 : decode prog_12_method_41_code 87 = .ok (.ireturn, 1) := by decide +kernel
theorem d_O_commit_88 : decode prog_12_method_41_code 88 = .ok (.aload_n 0, 1) := by decide +kernel
theorem d_O_commit_89 : decode prog_12_method_41_code 89 = .ok (.bipush (16), 2) := by decide +kernel
theorem d_O_commit_91 : decode prog_12_method_41_code 91 = .ok (.invokevirtual 90, 3) := by decide +kernel
theorem d_O_commit_94 : decode prog_12_method_41_code 94 = .ok (.istore_n 3, 1) := by decide +kernel
theorem d_O_commit_95 : decode prog_12_method_41_code 95 = .ok (.iload_n 3, 1) := by decide +kernel
theorem d_O_commit_96 : decode prog_12_method_41_code 96 = .ok (.ifCond .le (10), 3) := by decide +kernel
theorem d_O_commit_99 : decode prog_12_method_41_code 99 = .ok (.aload_n 0, 1) := by decide +kernel
theorem d_O_commit_100 : decode prog_12_method_41_code 100 = .ok (.iload_n 3, 1) := by decide +kernel
theorem d_O_commit_101 : decode prog_12_method_41_code 101 = .ok (.invokevirtual 198, 3) := by decide +kernel
theorem d_O_commit_104 : decode prog_12_method_41_code 104 = .ok (.iconst 2, 1) := by decide +kernel
theorem d_O_commit_105 : decode prog_12_method_41_code 105 = .ok (.ireturn, 1) := by decide +kernel
theorem d_O_commit_106 : decode prog_12_method_41_code 106 = .ok (.aload_n 0, 1) := by decide +kernel
theorem d_O_commit_107 : decode prog_12_method_41_code 107 = .ok (.aload_n 0, 1) := by decide +kernel
theorem d_O_commit_108 : decode prog_12_method_41_code 108 = .ok (.bipush (16), 2) := by decide +kernel
theorem d_O_commit_110 : decode prog_12_method_41_code 110 = .ok (.invokevirtual 202, 3) := by decide +kernel
theorem d_O_commit_113 : decode prog_12_method_41_code 113 = .ok (.ifCond .eq (7), 3) := by decide +kernel
theorem d_O_commit_116 : decode prog_12_method_41_code 116 = .ok (.iload_n 2, 1) := by decide +kernel
theorem d_O_commit_117 : decode prog_12_method_41_code 117 = .ok (.goto (4), 3) := by decide +kernel
theorem d_O_commit_120 : decode prog_12_method_41_code 120 = .ok (.iconst 0, 1) := by decide +kernel
theorem d_O_commit_121 : decode prog_12_method_41_code 121 = .ok (.putfield 192, 3) := by decide +kernel
theorem d_O_commit_124 : decode prog_12_method_41_code 124 = .ok (.aload_n 0, 1) := by decide +kernel
theorem d_O_commit_125 : decode prog_12_method_41_code 125 = .ok (.bipush (16), 2) := by decide +kernel
theorem d_O_commit_127 : decode prog_12_method_41_code 127 = .ok (.bipush (10), 2) := by decide +kernel
theorem d_O_commit_129 : decode prog_12_method_41_code 129 = .ok (.iload_n 1, 1) := by decide +kernel
theorem d_O_commit_130 : decode prog_12_method_41_code 130 = .ok (.iadd, 1) := by decide +kernel
theorem d_O_commit_131 : decode prog_12_method_41_code 131 = .ok (.invokevirtual 144, 3) := by decide +kernel
theorem d_O_commit_134 : decode prog_12_method_41_code 134 = .ok (.aload_n 0, 1) := by decide +kernel
theorem d_O_commit_135 : decode prog_12_method_41_code 135 = .ok (.bipush (16), 2) := by decide +kernel
theorem d_O_commit_137 : decode prog_12_method_41_code 137 = .ok (.bipush (13), 2) := by decide +kernel
theorem d_O_commit_139 : decode prog_12_method_41_code 139 = .ok (.iload_n 1, 1) := by decide +kernel
theorem d_O_commit_140 : decode prog_12_method_41_code 140 = .ok (.iadd, 1) := by decide +kernel
theorem d_O_commit_141 : decode prog_12_method_41_code 141 = .ok (.invokevirtual 144, 3) := by decide +kernel
theorem d_O_commit_144 : decode prog_12_method_41_code 144 = .ok (.iconst 0, 1) := by decide +kernel
theorem d_O_commit_145 : decode prog_12_method_41_code 145 = .ok (.ireturn, 1) := by decide +kernel
def Y_O_commit : sdY := ("SettingsDeskModel", prog_12_method_41_code, 4, (some .int), .code y_O_commit prog_12_method_41_code 4 (some .int) :: sdB0, { frames := 6, cells := 0, slots := 0, locals := 146 }, 0, 0, [])
theorem cw_O_commit_O_needs_171 : sd_cwV Y_O_commit Y_O_needs y_O_needs 171 1 "SettingsDeskModel" := ⟨sd_goodV q562 q564 q565 q459 q563, ⟨_, rfl⟩, ⟨rfl, rfl, rfl, rfl⟩, ⟨rfl, by decide, by decide, by decide +kernel⟩, ⟨by decide, by decide⟩⟩
theorem cw_O_commit_O_merge_195 : sd_cwV Y_O_commit Y_O_merge y_O_merge 195 1 "SettingsDeskModel" := ⟨sd_goodV q575 q577 q578 q459 q576, ⟨_, rfl⟩, ⟨rfl, rfl, rfl, rfl⟩, ⟨rfl, by decide, by decide, by decide +kernel⟩, ⟨by decide, by decide⟩⟩
theorem cw_O_commit_O_faultOf_90 : sd_cwV Y_O_commit Y_O_faultOf y_O_faultOf 90 1 "SettingsDeskModel" := ⟨sd_goodV q511 q513 q514 q459 q512, ⟨_, rfl⟩, ⟨rfl, rfl, rfl, rfl⟩, ⟨rfl, by decide, by decide, by decide +kernel⟩, ⟨by decide, by decide⟩⟩
theorem cw_O_commit_O_become_202 : sd_cwV Y_O_commit Y_O_become y_O_become 202 1 "SettingsDeskModel" := ⟨sd_goodV q579 q581 q582 q459 q580, ⟨_, rfl⟩, ⟨rfl, rfl, rfl, rfl⟩, ⟨rfl, by decide, by decide, by decide +kernel⟩, ⟨by decide, by decide⟩⟩
theorem cw_O_commit_O_note_198 : sd_cwV Y_O_commit Y_O_note y_O_note 198 1 "SettingsDeskModel" := ⟨sd_goodV q583 q585 q586 q459 q584, ⟨_, rfl⟩, ⟨rfl, rfl, rfl, rfl⟩, ⟨rfl, by decide, by decide, by decide +kernel⟩, ⟨by decide, by decide⟩⟩
theorem cw_O_commit_O_copy_144 : sd_cwV Y_O_commit Y_O_copy y_O_copy 144 2 "SettingsDeskModel" := ⟨sd_goodV q527 q529 q530 q459 q528, ⟨_, rfl⟩, ⟨rfl, rfl, rfl, rfl⟩, ⟨rfl, by decide, by decide, by decide +kernel⟩, ⟨by decide, by decide⟩⟩
section
variable {l : Launch} {D : va_G} {dA : Nat → ClassId} {b n : Nat} {ad : Nat → Nat} {L : Nat → sdL} {sc : Option (Nat × Nat × (Nat → Int32))}
def k_O_commit_121 (Q : Int32 → sdM → Prop) (M : sdM) (x1 : Int32) (s1 : Int32) : Prop := ∀ M19 : sdM, M19 = sd_s M 116 24 s1 → w_O_copy M19 (16 : Int32) ((10 : Int32) + x1) (fun M21 => w_O_copy M21 (16 : Int32) ((13 : Int32) + x1) (fun M22 => Q (0 : Int32) M22))
set_option maxHeartbeats 1000000 in
theorem t_O_commit_121 (hA : sd_ad b n ad) (hT : l.stackTraces = false) (hO : isO n L dA) {Q : Int32 → sdM → Prop} (M : sdM) (x1 : Int32) (s1 : Int32) (hw : k_O_commit_121 Q M x1 s1) : sdW l (sdE0 sc) Y_O_commit D (sd_tys dA) b n ad L ad (sd_H D (sdE0 sc).1 n ad L) (sd_qi Q) sd_xf 121 [(0, .ref 116), (1, .int x1)] [.int s1, .ref 116] M 0 0 := by
  unfold k_O_commit_121 at hw
  refine x_puti 24 (ty := .int) hA d_O_commit_121 hO.1 hO.2.1 rfl rfl (by decide) lay_O (List.mem_cons_of_mem _ q574) rfl ty_O ty_O_ok nm_O rfl (by decide +kernel) rfl rfl (fun M19 e20 => ?_)
  have hw := hw M19 e20
  clear e20
  refine x_aload_n 0 0 d_O_commit_124 rfl rfl ?_
  refine x_bipush (v := 16) d_O_commit_125 (by decide) ?_
  refine x_bipush (v := 10) d_O_commit_127 (by decide) ?_
  refine x_iload_n 1 1 d_O_commit_129 rfl rfl ?_
  refine x_iadd d_O_commit_130 ?_
  refine x_callVv (As := [.int (16 : Int32), .int ((10 : Int32) + x1)]) (t := 116) (rest := []) (rc := 0) (rs := 0) (c_O_copy hA hT hO hw) cw_O_commit_O_copy_144 hO.1 hO.2.1 rfl d_O_commit_131 rfl rfl (Nat.le_of_ble_eq_true rfl) rfl (fun _ _ h => h.elim) (fun _ _ h => h) (fun M21 hw => ?_)
  refine x_aload_n 0 0 d_O_commit_134 rfl rfl ?_
  refine x_bipush (v := 16) d_O_commit_135 (by decide) ?_
  refine x_bipush (v := 13) d_O_commit_137 (by decide) ?_
  refine x_iload_n 1 1 d_O_commit_139 rfl rfl ?_
  refine x_iadd d_O_commit_140 ?_
  refine x_callVv (As := [.int (16 : Int32), .int ((13 : Int32) + x1)]) (t := 116) (rest := []) (rc := 0) (rs := 0) (c_O_copy hA hT hO hw) cw_O_commit_O_copy_144 hO.1 hO.2.1 rfl d_O_commit_141 rfl rfl (Nat.le_of_ble_eq_true rfl) rfl (fun _ _ h => h.elim) (fun _ _ h => h) (fun M22 hw => ?_)
  refine x_iconst (v := 0) d_O_commit_144 (by decide) ?_
  exact x_iret d_O_commit_145 rfl (fun _ h => h) ⟨_, rfl, hw⟩
def k_O_commit_73 (Q : Int32 → sdM → Prop) (M : sdM) (x1 : Int32) (x2 : Int32) : Prop := w_O_merge M x1 (fun r24 M23 => (r24 = 0 → w_O_faultOf M23 (16 : Int32) (fun r26 M25 => (r26 ≤ 0 → w_O_become M25 (16 : Int32) (fun r28 M27 => (r28 = 0 → k_O_commit_121 Q M27 x1 (0 : Int32)) ∧ (¬ r28 = 0 → k_O_commit_121 Q M27 x1 x2))) ∧ (¬ r26 ≤ 0 → w_O_note M25 r26 (fun M29 => Q (2 : Int32) M29)))) ∧ (¬ r24 = 0 → w_O_note M23 (0 : Int32) (fun M30 => Q (1 : Int32) M30)))
set_option maxHeartbeats 1000000 in
theorem t_O_commit_73 (hA : sd_ad b n ad) (hT : l.stackTraces = false) (hO : isO n L dA) {Q : Int32 → sdM → Prop} (M : sdM) (x1 : Int32) (x2 : Int32) (hw : k_O_commit_73 Q M x1 x2) : sdW l (sdE0 sc) Y_O_commit D (sd_tys dA) b n ad L ad (sd_H D (sdE0 sc).1 n ad L) (sd_qi Q) sd_xf 73 [(0, .ref 116), (1, .int x1), (2, .int x2)] [] M 0 0 := by
  unfold k_O_commit_73 at hw
  refine x_aload_n 0 0 d_O_commit_73 rfl rfl ?_
  refine x_iload_n 1 1 d_O_commit_74 rfl rfl ?_
  refine x_callVi (As := [.int x1]) (t := 116) (rest := []) (rc := 0) (rs := 0) (c_O_merge hA hT hO hw) cw_O_commit_O_merge_195 hO.1 hO.2.1 rfl d_O_commit_75 rfl rfl (Nat.le_of_ble_eq_true rfl) rfl (fun _ _ h => h.elim) (fun _ _ h => h) (fun r24 M23 hw => ?_)
  refine x_if_eq 88 d_O_commit_78 rfl (fun hc => ?_) (fun hc => ?_)
  · have hw := hw.1 hc
    refine x_aload_n 0 0 d_O_commit_88 rfl rfl ?_
    refine x_bipush (v := 16) d_O_commit_89 (by decide) ?_
    refine x_callVi (As := [.int (16 : Int32)]) (t := 116) (rest := []) (rc := 0) (rs := 0) (c_O_faultOf hA hT hO hw) cw_O_commit_O_faultOf_90 hO.1 hO.2.1 rfl d_O_commit_91 rfl rfl (Nat.le_of_ble_eq_true rfl) rfl (fun _ _ h => h.elim) (fun _ _ h => h) (fun r26 M25 hw => ?_)
    refine x_istore_n 3 [(3, .int r26), (0, .ref 116), (1, .int x1), (2, .int x2)] d_O_commit_94 rfl (by decide) rfl ?_
    refine x_iload_n 3 0 d_O_commit_95 rfl rfl ?_
    refine x_if_le 106 d_O_commit_96 rfl (fun hc => ?_) (fun hc => ?_)
    · have hw := hw.1 hc
      refine x_aload_n 0 1 d_O_commit_106 rfl rfl ?_
      refine x_aload_n 0 1 d_O_commit_107 rfl rfl ?_
      refine x_bipush (v := 16) d_O_commit_108 (by decide) ?_
      refine x_callVi (As := [.int (16 : Int32)]) (t := 116) (rest := [.ref 116]) (rc := 0) (rs := 0) (c_O_become hA hT hO hw) cw_O_commit_O_become_202 hO.1 hO.2.1 rfl d_O_commit_110 rfl rfl (Nat.le_of_ble_eq_true rfl) rfl (fun _ _ h => h.elim) (fun _ _ h => h) (fun r28 M27 hw => ?_)
      refine x_if_eq 120 d_O_commit_113 rfl (fun hc => ?_) (fun hc => ?_)
      · have hw := hw.1 hc
        refine x_iconst (v := 0) d_O_commit_120 (by decide) ?_
        refine x_sub [1, 2] [(0, .ref 116), (1, .int x1)] rfl ?_
        exact t_O_commit_121 hA hT hO M27 x1 (0 : Int32) hw
      · have hw := hw.2 hc
        refine x_iload_n 2 3 d_O_commit_116 rfl rfl ?_
        refine x_goto 121 d_O_commit_117 rfl ?_
        refine x_sub [1, 2] [(0, .ref 116), (1, .int x1)] rfl ?_
        exact t_O_commit_121 hA hT hO M27 x1 x2 hw
    · have hw := hw.2 hc
      refine x_aload_n 0 1 d_O_commit_99 rfl rfl ?_
      refine x_iload_n 3 0 d_O_commit_100 rfl rfl ?_
      refine x_callVv (As := [.int r26]) (t := 116) (rest := []) (rc := 0) (rs := 0) (c_O_note hA hT hO hw) cw_O_commit_O_note_198 hO.1 hO.2.1 rfl d_O_commit_101 rfl rfl (Nat.le_of_ble_eq_true rfl) rfl (fun _ _ h => h.elim) (fun _ _ h => h) (fun M29 hw => ?_)
      refine x_iconst (v := 2) d_O_commit_104 (by decide) ?_
      exact x_iret d_O_commit_105 rfl (fun _ h => h) ⟨_, rfl, hw⟩
  · have hw := hw.2 hc
    refine x_aload_n 0 0 d_O_commit_81 rfl rfl ?_
    refine x_iconst (v := 0) d_O_commit_82 (by decide) ?_
    refine x_callVv (As := [.int (0 : Int32)]) (t := 116) (rest := []) (rc := 0) (rs := 0) (c_O_note hA hT hO hw) cw_O_commit_O_note_198 hO.1 hO.2.1 rfl d_O_commit_83 rfl rfl (Nat.le_of_ble_eq_true rfl) rfl (fun _ _ h => h.elim) (fun _ _ h => h) (fun M30 hw => ?_)
    refine x_iconst (v := 1) d_O_commit_86 (by decide) ?_
    exact x_iret d_O_commit_87 rfl (fun _ h => h) ⟨_, rfl, hw⟩
def k_O_commit_71 (Q : Int32 → sdM → Prop) (M : sdM) : Prop := Q (3 : Int32) M
set_option maxHeartbeats 1000000 in
theorem t_O_commit_71 (hA : sd_ad b n ad) (hT : l.stackTraces = false) (hO : isO n L dA) {Q : Int32 → sdM → Prop} (M : sdM) (hw : k_O_commit_71 Q M ) : sdW l (sdE0 sc) Y_O_commit D (sd_tys dA) b n ad L ad (sd_H D (sdE0 sc).1 n ad L) (sd_qi Q) sd_xf 71 [] [] M 0 0 := by
  unfold k_O_commit_71 at hw
  refine x_iconst (v := 3) d_O_commit_71 (by decide) ?_
  exact x_iret d_O_commit_72 rfl (fun _ h => h) ⟨_, rfl, hw⟩
def k_O_commit_36 (Q : Int32 → sdM → Prop) (M : sdM) (x1 : Int32) (x2 : Int32) (s1 : Int32) : Prop := ∀ M31 : sdM, M31 = sd_s M 116 0 s1 → ((M31 116 0) ≤ 0 → (0 < (M31 116 24) → k_O_commit_71 Q M31) ∧ (¬ 0 < (M31 116 24) → ((M31 116 23) = (-1 : Int32) → k_O_commit_73 Q M31 x1 x2) ∧ (¬ (M31 116 23) = (-1 : Int32) → ((M31 116 23) = x1 → k_O_commit_73 Q M31 x1 x2) ∧ (¬ (M31 116 23) = x1 → k_O_commit_71 Q M31)))) ∧ (¬ (M31 116 0) ≤ 0 → Q (0 : Int32) M31)
set_option maxHeartbeats 1000000 in
theorem t_O_commit_36 (hA : sd_ad b n ad) (hT : l.stackTraces = false) (hO : isO n L dA) {Q : Int32 → sdM → Prop} (M : sdM) (x1 : Int32) (x2 : Int32) (s1 : Int32) (hw : k_O_commit_36 Q M x1 x2 s1) : sdW l (sdE0 sc) Y_O_commit D (sd_tys dA) b n ad L ad (sd_H D (sdE0 sc).1 n ad L) (sd_qi Q) sd_xf 36 [(0, .ref 116), (1, .int x1), (2, .int x2)] [.int s1, .ref 116] M 0 0 := by
  unfold k_O_commit_36 at hw
  refine x_puti 0 (ty := .int) hA d_O_commit_36 hO.1 hO.2.1 rfl rfl (by decide) lay_O (List.mem_cons_of_mem _ q446) rfl ty_O ty_O_ok nm_O rfl (by decide +kernel) rfl rfl (fun M31 e32 => ?_)
  have hw := hw M31 e32
  clear e32
  refine x_aload_n 0 0 d_O_commit_39 rfl rfl ?_
  refine x_geti 0 d_O_commit_40 hO.1 hO.2.1 rfl rfl (by decide) lay_O (List.mem_cons_of_mem _ q446) rfl ?_
  refine x_if_le 48 d_O_commit_43 rfl (fun hc => ?_) (fun hc => ?_)
  · have hw := hw.1 hc
    refine x_aload_n 0 0 d_O_commit_48 rfl rfl ?_
    refine x_geti 24 d_O_commit_49 hO.1 hO.2.1 rfl rfl (by decide) lay_O (List.mem_cons_of_mem _ q574) rfl ?_
    refine x_if_gt 71 d_O_commit_52 rfl (fun hc => ?_) (fun hc => ?_)
    · have hw := hw.1 hc
      refine x_sub [] [] rfl ?_
      exact t_O_commit_71 hA hT hO M31 hw
    · have hw := hw.2 hc
      refine x_aload_n 0 0 d_O_commit_55 rfl rfl ?_
      refine x_geti 23 d_O_commit_56 hO.1 hO.2.1 rfl rfl (by decide) lay_O (List.mem_cons_of_mem _ q561) rfl ?_
      refine x_iconst (v := (-1)) d_O_commit_59 (by decide) ?_
      refine x_icmp_eq 73 d_O_commit_60 rfl (fun hc => ?_) (fun hc => ?_)
      · have hw := hw.1 hc
        exact t_O_commit_73 hA hT hO M31 x1 x2 hw
      · have hw := hw.2 hc
        refine x_aload_n 0 0 d_O_commit_63 rfl rfl ?_
        refine x_geti 23 d_O_commit_64 hO.1 hO.2.1 rfl rfl (by decide) lay_O (List.mem_cons_of_mem _ q561) rfl ?_
        refine x_iload_n 1 1 d_O_commit_67 rfl rfl ?_
        refine x_icmp_eq 73 d_O_commit_68 rfl (fun hc => ?_) (fun hc => ?_)
        · have hw := hw.1 hc
          exact t_O_commit_73 hA hT hO M31 x1 x2 hw
        · have hw := hw.2 hc
          refine x_sub [] [] rfl ?_
          exact t_O_commit_71 hA hT hO M31 hw
  · have hw := hw.2 hc
    refine x_iconst (v := 0) d_O_commit_46 (by decide) ?_
    exact x_iret d_O_commit_47 rfl (fun _ h => h) ⟨_, rfl, hw⟩
def k_O_commit_32 (Q : Int32 → sdM → Prop) (M : sdM) (x1 : Int32) (x2 : Int32) : Prop := k_O_commit_36 Q M x1 x2 (M 116 0)
set_option maxHeartbeats 1000000 in
theorem t_O_commit_32 (hA : sd_ad b n ad) (hT : l.stackTraces = false) (hO : isO n L dA) {Q : Int32 → sdM → Prop} (M : sdM) (x1 : Int32) (x2 : Int32) (hw : k_O_commit_32 Q M x1 x2) : sdW l (sdE0 sc) Y_O_commit D (sd_tys dA) b n ad L ad (sd_H D (sdE0 sc).1 n ad L) (sd_qi Q) sd_xf 32 [(0, .ref 116), (1, .int x1), (2, .int x2)] [.ref 116] M 0 0 := by
  unfold k_O_commit_32 at hw
  refine x_aload_n 0 0 d_O_commit_32 rfl rfl ?_
  refine x_geti 0 d_O_commit_33 hO.1 hO.2.1 rfl rfl (by decide) lay_O (List.mem_cons_of_mem _ q446) rfl ?_
  exact t_O_commit_36 hA hT hO M x1 x2 (M 116 0) hw
def k_O_commit_28 (Q : Int32 → sdM → Prop) (M : sdM) (x1 : Int32) (x2 : Int32) : Prop := k_O_commit_36 Q M x1 x2 (3 : Int32)
set_option maxHeartbeats 1000000 in
theorem t_O_commit_28 (hA : sd_ad b n ad) (hT : l.stackTraces = false) (hO : isO n L dA) {Q : Int32 → sdM → Prop} (M : sdM) (x1 : Int32) (x2 : Int32) (hw : k_O_commit_28 Q M x1 x2) : sdW l (sdE0 sc) Y_O_commit D (sd_tys dA) b n ad L ad (sd_H D (sdE0 sc).1 n ad L) (sd_qi Q) sd_xf 28 [(0, .ref 116), (1, .int x1), (2, .int x2)] [.ref 116] M 0 0 := by
  unfold k_O_commit_28 at hw
  refine x_iconst (v := 3) d_O_commit_28 (by decide) ?_
  refine x_goto 36 d_O_commit_29 rfl ?_
  exact t_O_commit_36 hA hT hO M x1 x2 (3 : Int32) hw
def w_O_commit (M : sdM) (a1 : Int32) (a2 : Int32) (Q : Int32 → sdM → Prop) : Prop := w_O_needs M a1 (fun r34 M33 => ∀ M35 : sdM, M35 = sd_s M33 116 0 r34 → (¬ (M35 116 0) = 0 → k_O_commit_32 Q M35 a1 a2) ∧ ((M35 116 0) = 0 → (a2 < 0 → k_O_commit_28 Q M35 a1 a2) ∧ (¬ a2 < 0 → (a2 ≤ (1000 : Int32) → k_O_commit_32 Q M35 a1 a2) ∧ (¬ a2 ≤ (1000 : Int32) → k_O_commit_28 Q M35 a1 a2))))
set_option maxHeartbeats 1000000 in
theorem c_O_commit {a1 : Int32} {a2 : Int32} (hA : sd_ad b n ad) (hT : l.stackTraces = false) (hO : isO n L dA) {Q : Int32 → sdM → Prop} {M : sdM} (hw : w_O_commit M a1 a2 Q) : sd_Cn l (sdE0 sc) y_O_commit Y_O_commit.2.2.2.2.1 Y_O_commit.2.2.2.2.2.1 0 0 D (sd_tys dA) b n ad L M [.ref 116, .int a1, .int a2] (sd_qi Q) sd_xf := by
  refine sd_enter (Y := Y_O_commit) rfl rfl rfl rfl (Nat.le_of_ble_eq_true rfl) ?_
  show sdW l (sdE0 sc) Y_O_commit D (sd_tys dA) b n ad L ad (sd_H D (sdE0 sc).1 n ad L) (sd_qi Q) sd_xf 0 [(0, .ref 116), (1, .int a1), (2, .int a2)] [] M 0 0
  unfold w_O_commit at hw
  refine x_aload_n 0 0 d_O_commit_0 rfl rfl ?_
  refine x_aload_n 0 0 d_O_commit_1 rfl rfl ?_
  refine x_iload_n 1 1 d_O_commit_2 rfl rfl ?_
  refine x_callVi (As := [.int a1]) (t := 116) (rest := [.ref 116]) (rc := 0) (rs := 0) (c_O_needs hA hT hO hw) cw_O_commit_O_needs_171 hO.1 hO.2.1 rfl d_O_commit_3 rfl rfl (Nat.le_of_ble_eq_true rfl) rfl (fun _ _ h => h.elim) (fun _ _ h => h) (fun r34 M33 hw => ?_)
  refine x_puti 0 (ty := .int) hA d_O_commit_6 hO.1 hO.2.1 rfl rfl (by decide) lay_O (List.mem_cons_of_mem _ q446) rfl ty_O ty_O_ok nm_O rfl (by decide +kernel) rfl rfl (fun M35 e36 => ?_)
  have hw := hw M35 e36
  clear e36
  refine x_aload_n 0 0 d_O_commit_9 rfl rfl ?_
  refine x_aload_n 0 0 d_O_commit_10 rfl rfl ?_
  refine x_geti 0 d_O_commit_11 hO.1 hO.2.1 rfl rfl (by decide) lay_O (List.mem_cons_of_mem _ q446) rfl ?_
  refine x_if_ne 32 d_O_commit_14 rfl (fun hc => ?_) (fun hc => ?_)
  · have hw := hw.1 hc
    exact t_O_commit_32 hA hT hO M35 a1 a2 hw
  · have hw := hw.2 hc
    refine x_iload_n 2 2 d_O_commit_17 rfl rfl ?_
    refine x_if_lt 28 d_O_commit_18 rfl (fun hc => ?_) (fun hc => ?_)
    · have hw := hw.1 hc
      exact t_O_commit_28 hA hT hO M35 a1 a2 hw
    · have hw := hw.2 hc
      refine x_iload_n 2 2 d_O_commit_21 rfl rfl ?_
      refine x_sipush (v := 1000) d_O_commit_22 (by decide) ?_
      refine x_icmp_le 32 d_O_commit_25 rfl (fun hc => ?_) (fun hc => ?_)
      · have hw := hw.1 hc
        exact t_O_commit_32 hA hT hO M35 a1 a2 hw
      · have hw := hw.2 hc
        exact t_O_commit_28 hA hT hO M35 a1 a2 hw
end
abbrev y_O_confirm : MethodName := ⟨"SettingsDeskModel", "confirm", "()Z"⟩
theorem d_O_confirm_0 : decode prog_12_method_42_code 0 = .ok (.aload_n 0, 1) := by decide +kernel
theorem d_O_confirm_1 : decode prog_12_method_42_code 1 = .ok (.aload_n 0, 1) := by decide +kernel
theorem d_O_confirm_2 : decode prog_12_method_42_code 2 = .ok (.invokevirtual 153, 3) := by decide +kernel
theorem d_O_confirm_5 : decode prog_12_method_42_code 5 = .ok (.ifCond .eq (7), 3) := by decide +kernel
theorem d_O_confirm_8 : decode prog_12_method_42_code 8 = .ok (.iconst 1, 1) := by decide +kernel
theorem d_O_confirm_9 : decode prog_12_method_42_code 9 = .ok (.goto (4), 3) := by decide +kernel
theorem d_O_confirm_12 : decode prog_12_method_42_code 12 = .ok (.iconst 0, 1) := by decide +kernel
theorem d_O_confirm_13 : decode prog_12_method_42_code 13 = .ok (.putfield 69, 3) := by decide +kernel
theorem d_O_confirm_16 : decode prog_12_method_42_code 16 = .ok (.aload_n 0, 1) := by decide +kernel
theorem d_O_confirm_17 : decode prog_12_method_42_code 17 = .ok (.getfield 69, 3) := by decide +kernel
theorem d_O_confirm_20 : decode prog_12_method_42_code 20 = .ok (.ifCond .ne (14), 3) := by decide +kernel
theorem d_O_confirm_23 : decode prog_12_method_42_code 23 = .ok (.aload_n 0, 1) := by decide +kernel
theorem d_O_confirm_24 : decode prog_12_method_42_code 24 = .ok (.getfield 192, 3) := by decide +kernel
theorem d_O_confirm_27 : decode prog_12_method_42_code 27 = .ok (.ifCond .le (7), 3) := by decide +kernel
theorem d_O_confirm_30 : decode prog_12_method_42_code 30 = .ok (.iconst 1, 1) := by decide +kernel
theorem d_O_confirm_31 : decode prog_12_method_42_code 31 = .ok (.goto (4), 3) := by decide +kernel
theorem d_O_confirm_34 : decode prog_12_method_42_code 34 = .ok (.iconst 0, 1) := by decide +kernel
theorem d_O_confirm_35 : decode prog_12_method_42_code 35 = .ok (.istore_n 1, 1) := by decide +kernel
theorem d_O_confirm_36 : decode prog_12_method_42_code 36 = .ok (.aload_n 0, 1) := by decide +kernel
theorem d_O_confirm_37 : decode prog_12_method_42_code 37 = .ok (.iload_n 1, 1) := by decide +kernel
theorem d_O_confirm_38 : decode prog_12_method_42_code 38 = .ok (.ifCond .eq (7), 3) := by decide +kernel
theorem d_O_confirm_41 : decode prog_12_method_42_code 41 = .ok (.iconst 0, 1) := by decide +kernel
theorem d_O_confirm_42 : decode prog_12_method_42_code 42 = .ok (.goto (7), 3) := by decide +kernel
theorem d_O_confirm_45 : decode prog_12_method_42_code 45 = .ok (.aload_n 0, 1) := by decide +kernel
theorem d_O_confirm_46 : decode prog_12_method_42_code 46 = .ok (.getfield 192, 3) := by decide +kernel
theorem d_O_confirm_49 : decode prog_12_method_42_code 49 = .ok (.putfield 192, 3) := by decide +kernel
theorem d_O_confirm_52 : decode prog_12_method_42_code 52 = .ok (.iload_n 1, 1) := by decide +kernel
theorem d_O_confirm_53 : decode prog_12_method_42_code 53 = .ok (.ireturn, 1) := by decide +kernel
def Y_O_confirm : sdY := ("SettingsDeskModel", prog_12_method_42_code, 2, (some .boolean), .code y_O_confirm prog_12_method_42_code 2 (some .boolean) :: sdB0, { frames := 1, cells := 0, slots := 0, locals := 20 }, 0, 0, [])
theorem cw_O_confirm_O_isDown_153 : sd_cwV Y_O_confirm Y_O_isDown y_O_isDown 153 0 "SettingsDeskModel" := ⟨sd_goodV q520 q522 q523 q459 q521, ⟨_, rfl⟩, ⟨rfl, rfl, rfl, rfl⟩, ⟨rfl, by decide, by decide, by decide +kernel⟩, ⟨by decide, by decide⟩⟩
section
variable {l : Launch} {D : va_G} {dA : Nat → ClassId} {b n : Nat} {ad : Nat → Nat} {L : Nat → sdL} {sc : Option (Nat × Nat × (Nat → Int32))}
def k_O_confirm_49 (Q : Int32 → sdM → Prop) (M : sdM) (x1 : Int32) (s1 : Int32) : Prop := ∀ M7 : sdM, M7 = sd_s M 116 24 s1 → sdB x1 ∧ Q x1 M7
set_option maxHeartbeats 1000000 in
theorem t_O_confirm_49 (hA : sd_ad b n ad) (hT : l.stackTraces = false) (hO : isO n L dA) {Q : Int32 → sdM → Prop} (M : sdM) (x1 : Int32) (s1 : Int32) (hw : k_O_confirm_49 Q M x1 s1) : sdW l (sdE0 sc) Y_O_confirm D (sd_tys dA) b n ad L ad (sd_H D (sdE0 sc).1 n ad L) (sd_qi Q) sd_xf 49 [(1, .int x1)] [.int s1, .ref 116] M 0 0 := by
  unfold k_O_confirm_49 at hw
  refine x_puti 24 (ty := .int) hA d_O_confirm_49 hO.1 hO.2.1 rfl rfl (by decide) lay_O (List.mem_cons_of_mem _ q574) rfl ty_O ty_O_ok nm_O rfl (by decide +kernel) rfl rfl (fun M7 e8 => ?_)
  have hw := hw M7 e8
  clear e8
  refine x_iload_n 1 0 d_O_confirm_52 rfl rfl ?_
  exact x_zret d_O_confirm_53 rfl (sdB_n hw.1) (fun _ h => h) ⟨_, rfl, hw.2⟩
def k_O_confirm_35 (Q : Int32 → sdM → Prop) (M : sdM) (s0 : Int32) : Prop := (s0 = 0 → k_O_confirm_49 Q M s0 (M 116 24)) ∧ (¬ s0 = 0 → k_O_confirm_49 Q M s0 (0 : Int32))
set_option maxHeartbeats 1000000 in
theorem t_O_confirm_35 (hA : sd_ad b n ad) (hT : l.stackTraces = false) (hO : isO n L dA) {Q : Int32 → sdM → Prop} (M : sdM) (s0 : Int32) (hw : k_O_confirm_35 Q M s0) : sdW l (sdE0 sc) Y_O_confirm D (sd_tys dA) b n ad L ad (sd_H D (sdE0 sc).1 n ad L) (sd_qi Q) sd_xf 35 [(0, .ref 116)] [.int s0] M 0 0 := by
  unfold k_O_confirm_35 at hw
  refine x_istore_n 1 [(1, .int s0), (0, .ref 116)] d_O_confirm_35 rfl (by decide) rfl ?_
  refine x_aload_n 0 1 d_O_confirm_36 rfl rfl ?_
  refine x_iload_n 1 0 d_O_confirm_37 rfl rfl ?_
  refine x_if_eq 45 d_O_confirm_38 rfl (fun hc => ?_) (fun hc => ?_)
  · have hw := hw.1 hc
    refine x_aload_n 0 1 d_O_confirm_45 rfl rfl ?_
    refine x_geti 24 d_O_confirm_46 hO.1 hO.2.1 rfl rfl (by decide) lay_O (List.mem_cons_of_mem _ q574) rfl ?_
    refine x_sub [0] [(1, .int s0)] rfl ?_
    exact t_O_confirm_49 hA hT hO M s0 (M 116 24) hw
  · have hw := hw.2 hc
    refine x_iconst (v := 0) d_O_confirm_41 (by decide) ?_
    refine x_goto 49 d_O_confirm_42 rfl ?_
    refine x_sub [0] [(1, .int s0)] rfl ?_
    exact t_O_confirm_49 hA hT hO M s0 (0 : Int32) hw
def k_O_confirm_34 (Q : Int32 → sdM → Prop) (M : sdM) : Prop := k_O_confirm_35 Q M (0 : Int32)
set_option maxHeartbeats 1000000 in
theorem t_O_confirm_34 (hA : sd_ad b n ad) (hT : l.stackTraces = false) (hO : isO n L dA) {Q : Int32 → sdM → Prop} (M : sdM) (hw : k_O_confirm_34 Q M ) : sdW l (sdE0 sc) Y_O_confirm D (sd_tys dA) b n ad L ad (sd_H D (sdE0 sc).1 n ad L) (sd_qi Q) sd_xf 34 [(0, .ref 116)] [] M 0 0 := by
  unfold k_O_confirm_34 at hw
  refine x_iconst (v := 0) d_O_confirm_34 (by decide) ?_
  exact t_O_confirm_35 hA hT hO M (0 : Int32) hw
def k_O_confirm_13 (Q : Int32 → sdM → Prop) (M : sdM) (s1 : Int32) : Prop := ∀ M9 : sdM, M9 = sd_s M 116 0 s1 → (¬ (M9 116 0) = 0 → k_O_confirm_34 Q M9) ∧ ((M9 116 0) = 0 → ((M9 116 24) ≤ 0 → k_O_confirm_34 Q M9) ∧ (¬ (M9 116 24) ≤ 0 → k_O_confirm_35 Q M9 (1 : Int32)))
set_option maxHeartbeats 1000000 in
theorem t_O_confirm_13 (hA : sd_ad b n ad) (hT : l.stackTraces = false) (hO : isO n L dA) {Q : Int32 → sdM → Prop} (M : sdM) (s1 : Int32) (hw : k_O_confirm_13 Q M s1) : sdW l (sdE0 sc) Y_O_confirm D (sd_tys dA) b n ad L ad (sd_H D (sdE0 sc).1 n ad L) (sd_qi Q) sd_xf 13 [(0, .ref 116)] [.int s1, .ref 116] M 0 0 := by
  unfold k_O_confirm_13 at hw
  refine x_puti 0 (ty := .int) hA d_O_confirm_13 hO.1 hO.2.1 rfl rfl (by decide) lay_O (List.mem_cons_of_mem _ q446) rfl ty_O ty_O_ok nm_O rfl (by decide +kernel) rfl rfl (fun M9 e10 => ?_)
  have hw := hw M9 e10
  clear e10
  refine x_aload_n 0 0 d_O_confirm_16 rfl rfl ?_
  refine x_geti 0 d_O_confirm_17 hO.1 hO.2.1 rfl rfl (by decide) lay_O (List.mem_cons_of_mem _ q446) rfl ?_
  refine x_if_ne 34 d_O_confirm_20 rfl (fun hc => ?_) (fun hc => ?_)
  · have hw := hw.1 hc
    exact t_O_confirm_34 hA hT hO M9 hw
  · have hw := hw.2 hc
    refine x_aload_n 0 0 d_O_confirm_23 rfl rfl ?_
    refine x_geti 24 d_O_confirm_24 hO.1 hO.2.1 rfl rfl (by decide) lay_O (List.mem_cons_of_mem _ q574) rfl ?_
    refine x_if_le 34 d_O_confirm_27 rfl (fun hc => ?_) (fun hc => ?_)
    · have hw := hw.1 hc
      exact t_O_confirm_34 hA hT hO M9 hw
    · have hw := hw.2 hc
      refine x_iconst (v := 1) d_O_confirm_30 (by decide) ?_
      refine x_goto 35 d_O_confirm_31 rfl ?_
      exact t_O_confirm_35 hA hT hO M9 (1 : Int32) hw
def w_O_confirm (M : sdM) (Q : Int32 → sdM → Prop) : Prop := w_O_isDown M (fun r12 M11 => (r12 = 0 → k_O_confirm_13 Q M11 (0 : Int32)) ∧ (¬ r12 = 0 → k_O_confirm_13 Q M11 (1 : Int32)))
set_option maxHeartbeats 1000000 in
theorem c_O_confirm (hA : sd_ad b n ad) (hT : l.stackTraces = false) (hO : isO n L dA) {Q : Int32 → sdM → Prop} {M : sdM} (hw : w_O_confirm M Q) : sd_Cn l (sdE0 sc) y_O_confirm Y_O_confirm.2.2.2.2.1 Y_O_confirm.2.2.2.2.2.1 0 0 D (sd_tys dA) b n ad L M [.ref 116] (sd_qi Q) sd_xf := by
  refine sd_enter (Y := Y_O_confirm) rfl rfl rfl rfl (Nat.le_of_ble_eq_true rfl) ?_
  show sdW l (sdE0 sc) Y_O_confirm D (sd_tys dA) b n ad L ad (sd_H D (sdE0 sc).1 n ad L) (sd_qi Q) sd_xf 0 [(0, .ref 116)] [] M 0 0
  unfold w_O_confirm at hw
  refine x_aload_n 0 0 d_O_confirm_0 rfl rfl ?_
  refine x_aload_n 0 0 d_O_confirm_1 rfl rfl ?_
  refine x_callVi (As := []) (t := 116) (rest := [.ref 116]) (rc := 0) (rs := 0) (c_O_isDown hA hT hO hw) cw_O_confirm_O_isDown_153 hO.1 hO.2.1 rfl d_O_confirm_2 rfl rfl (Nat.le_of_ble_eq_true rfl) rfl (fun _ _ h => h.elim) (fun _ _ h => h) (fun r12 M11 hw => ?_)
  refine x_if_eq 12 d_O_confirm_5 rfl (fun hc => ?_) (fun hc => ?_)
  · have hw := hw.1 hc
    refine x_iconst (v := 0) d_O_confirm_12 (by decide) ?_
    exact t_O_confirm_13 hA hT hO M11 (0 : Int32) hw
  · have hw := hw.2 hc
    refine x_iconst (v := 1) d_O_confirm_8 (by decide) ?_
    refine x_goto 13 d_O_confirm_9 rfl ?_
    exact t_O_confirm_13 hA hT hO M11 (1 : Int32) hw
end
abbrev y_O_tick : MethodName := ⟨"SettingsDeskModel", "tick", "()Z"⟩
theorem d_O_tick_0 : decode prog_12_method_43_code 0 = .ok (.aload_n 0, 1) := by decide +kernel
theorem d_O_tick_1 : decode prog_12_method_43_code 1 = .ok (.aload_n 0, 1) := by decide +kernel
theorem d_O_tick_2 : decode prog_12_method_43_code 2 = .ok (.invokevirtual 153, 3) := by decide +kernel
theorem d_O_tick_5 : decode prog_12_method_43_code 5 = .ok (.ifCond .eq (7), 3) := by decide +kernel
theorem d_O_tick_8 : decode prog_12_method_43_code 8 = .ok (.iconst 1, 1) := by decide +kernel
theorem d_O_tick_9 : decode prog_12_method_43_code 9 = .ok (.goto (4), 3) := by decide +kernel
theorem d_O_tick_12 : decode prog_12_method_43_code 12 = .ok (.iconst 0, 1) := by decide +kernel
theorem d_O_tick_13 : decode prog_12_method_43_code 13 = .ok (.putfield 69, 3) := by decide +kernel
theorem d_O_tick_16 : decode prog_12_method_43_code 16 = .ok (.aload_n 0, 1) := by decide +kernel
theorem d_O_tick_17 : decode prog_12_method_43_code 17 = .ok (.getfield 69, 3) := by decide +kernel
theorem d_O_tick_20 : decode prog_12_method_43_code 20 = .ok (.ifCond .gt (10), 3) := by decide +kernel
theorem d_O_tick_23 : decode prog_12_method_43_code 23 = .ok (.aload_n 0, 1) := by decide +kernel
theorem d_O_tick_24 : decode prog_12_method_43_code 24 = .ok (.getfield 192, 3) := by decide +kernel
theorem d_O_tick_27 : decode prog_12_method_43_code 27 = .ok (.ifCond .ne (5), 3) := by decide +kernel
theorem d_O_tick_30 : decode prog_12_method_43_code 30 = .ok (.iconst 0, 1) := by decide +kernel
theorem d_O_tick_31 : decode prog_12_method_43_code 31 = .ok (.ireturn, 1) := by decide +kernel
theorem d_O_tick_32 : decode prog_12_method_43_code 32 = .ok (.aload_n 0, 1) := by decide +kernel
theorem d_O_tick_33 : decode prog_12_method_43_code 33 = .ok (.dup, 1) := by decide +kernel
theorem d_O_tick_34 : decode prog_12_method_43_code 34 = .ok (.getfield 192, 3) := by decide +kernel
theorem d_O_tick_37 : decode prog_12_method_43_code 37 = .ok (.iconst 1, 1) := by decide +kernel
theorem d_O_tick_38 : decode prog_12_method_43_code 38 = .ok (.isub, 1) := by decide +kernel
theorem d_O_tick_39 : decode prog_12_method_43_code 39 = .ok (.putfield 192, 3) := by decide +kernel
theorem d_O_tick_42 : decode prog_12_method_43_code 42 = .ok (.aload_n 0, 1) := by decide +kernel
theorem d_O_tick_43 : decode prog_12_method_43_code 43 = .ok (.getfield 192, 3) := by decide +kernel
theorem d_O_tick_46 : decode prog_12_method_43_code 46 = .ok (.ifCond .le (5), 3) := by decide +kernel
theorem d_O_tick_49 : decode prog_12_method_43_code 49 = .ok (.iconst 0, 1) := by decide +kernel
theorem d_O_tick_50 : decode prog_12_method_43_code 50 = .ok (.ireturn, 1) := by decide +kernel
theorem d_O_tick_51 : decode prog_12_method_43_code 51 = .ok (.aload_n 0, 1) := by decide +kernel
theorem d_O_tick_52 : decode prog_12_method_43_code 52 = .ok (.iconst 2, 1) := by decide +kernel
theorem d_O_tick_53 : decode prog_12_method_43_code 53 = .ok (.bipush (16), 2) := by decide +kernel
theorem d_O_tick_55 : decode prog_12_method_43_code 55 = .ok (.invokevirtual 144, 3) := by decide +kernel
theorem d_O_tick_58 : decode prog_12_method_43_code 58 = .ok (.aload_n 0, 1) := by decide +kernel
theorem d_O_tick_59 : decode prog_12_method_43_code 59 = .ok (.bipush (16), 2) := by decide +kernel
theorem d_O_tick_61 : decode prog_12_method_43_code 61 = .ok (.invokevirtual 202, 3) := by decide +kernel
theorem d_O_tick_64 : decode prog_12_method_43_code 64 = .ok (.istore_n 1, 1) := by decide +kernel
theorem d_O_tick_65 : decode prog_12_method_43_code 65 = .ok (.iconst 1, 1) := by decide +kernel
theorem d_O_tick_66 : decode prog_12_method_43_code 66 = .ok (.ireturn, 1) := by decide +kernel
def Y_O_tick : sdY := ("SettingsDeskModel", prog_12_method_43_code, 2, (some .boolean), .code y_O_tick prog_12_method_43_code 2 (some .boolean) :: sdB0, { frames := 5, cells := 0, slots := 0, locals := 116 }, 0, 0, [])
theorem cw_O_tick_O_isDown_153 : sd_cwV Y_O_tick Y_O_isDown y_O_isDown 153 0 "SettingsDeskModel" := ⟨sd_goodV q520 q522 q523 q459 q521, ⟨_, rfl⟩, ⟨rfl, rfl, rfl, rfl⟩, ⟨rfl, by decide, by decide, by decide +kernel⟩, ⟨by decide, by decide⟩⟩
theorem cw_O_tick_O_copy_144 : sd_cwV Y_O_tick Y_O_copy y_O_copy 144 2 "SettingsDeskModel" := ⟨sd_goodV q527 q529 q530 q459 q528, ⟨_, rfl⟩, ⟨rfl, rfl, rfl, rfl⟩, ⟨rfl, by decide, by decide, by decide +kernel⟩, ⟨by decide, by decide⟩⟩
theorem cw_O_tick_O_become_202 : sd_cwV Y_O_tick Y_O_become y_O_become 202 1 "SettingsDeskModel" := ⟨sd_goodV q579 q581 q582 q459 q580, ⟨_, rfl⟩, ⟨rfl, rfl, rfl, rfl⟩, ⟨rfl, by decide, by decide, by decide +kernel⟩, ⟨by decide, by decide⟩⟩
section
variable {l : Launch} {D : va_G} {dA : Nat → ClassId} {b n : Nat} {ad : Nat → Nat} {L : Nat → sdL} {sc : Option (Nat × Nat × (Nat → Int32))}
def k_O_tick_30 (Q : Int32 → sdM → Prop) (M : sdM) : Prop := sdB (0 : Int32) ∧ Q (0 : Int32) M
set_option maxHeartbeats 1000000 in
theorem t_O_tick_30 (hA : sd_ad b n ad) (hT : l.stackTraces = false) (hO : isO n L dA) {Q : Int32 → sdM → Prop} (M : sdM) (hw : k_O_tick_30 Q M ) : sdW l (sdE0 sc) Y_O_tick D (sd_tys dA) b n ad L ad (sd_H D (sdE0 sc).1 n ad L) (sd_qi Q) sd_xf 30 [] [] M 0 0 := by
  unfold k_O_tick_30 at hw
  refine x_iconst (v := 0) d_O_tick_30 (by decide) ?_
  exact x_zret d_O_tick_31 rfl (sdB_n hw.1) (fun _ h => h) ⟨_, rfl, hw.2⟩
def k_O_tick_13 (Q : Int32 → sdM → Prop) (M : sdM) (s1 : Int32) : Prop := ∀ M10 : sdM, M10 = sd_s M 116 0 s1 → (0 < (M10 116 0) → k_O_tick_30 Q M10) ∧ (¬ 0 < (M10 116 0) → (¬ (M10 116 24) = 0 → ∀ M12 : sdM, M12 = sd_s M10 116 24 ((M10 116 24) - (1 : Int32)) → ((M12 116 24) ≤ 0 → w_O_copy M12 (2 : Int32) (16 : Int32) (fun M14 => w_O_become M14 (16 : Int32) (fun r16 M15 => sdB (1 : Int32) ∧ Q (1 : Int32) M15))) ∧ (¬ (M12 116 24) ≤ 0 → sdB (0 : Int32) ∧ Q (0 : Int32) M12)) ∧ ((M10 116 24) = 0 → k_O_tick_30 Q M10))
set_option maxHeartbeats 1000000 in
theorem t_O_tick_13 (hA : sd_ad b n ad) (hT : l.stackTraces = false) (hO : isO n L dA) {Q : Int32 → sdM → Prop} (M : sdM) (s1 : Int32) (hw : k_O_tick_13 Q M s1) : sdW l (sdE0 sc) Y_O_tick D (sd_tys dA) b n ad L ad (sd_H D (sdE0 sc).1 n ad L) (sd_qi Q) sd_xf 13 [(0, .ref 116)] [.int s1, .ref 116] M 0 0 := by
  unfold k_O_tick_13 at hw
  refine x_puti 0 (ty := .int) hA d_O_tick_13 hO.1 hO.2.1 rfl rfl (by decide) lay_O (List.mem_cons_of_mem _ q446) rfl ty_O ty_O_ok nm_O rfl (by decide +kernel) rfl rfl (fun M10 e11 => ?_)
  have hw := hw M10 e11
  clear e11
  refine x_aload_n 0 0 d_O_tick_16 rfl rfl ?_
  refine x_geti 0 d_O_tick_17 hO.1 hO.2.1 rfl rfl (by decide) lay_O (List.mem_cons_of_mem _ q446) rfl ?_
  refine x_if_gt 30 d_O_tick_20 rfl (fun hc => ?_) (fun hc => ?_)
  · have hw := hw.1 hc
    refine x_sub [] [] rfl ?_
    exact t_O_tick_30 hA hT hO M10 hw
  · have hw := hw.2 hc
    refine x_aload_n 0 0 d_O_tick_23 rfl rfl ?_
    refine x_geti 24 d_O_tick_24 hO.1 hO.2.1 rfl rfl (by decide) lay_O (List.mem_cons_of_mem _ q574) rfl ?_
    refine x_if_ne 32 d_O_tick_27 rfl (fun hc => ?_) (fun hc => ?_)
    · have hw := hw.1 hc
      refine x_aload_n 0 0 d_O_tick_32 rfl rfl ?_
      refine x_dup d_O_tick_33 rfl ?_
      refine x_geti 24 d_O_tick_34 hO.1 hO.2.1 rfl rfl (by decide) lay_O (List.mem_cons_of_mem _ q574) rfl ?_
      refine x_iconst (v := 1) d_O_tick_37 (by decide) ?_
      refine x_isub d_O_tick_38 ?_
      refine x_puti 24 (ty := .int) hA d_O_tick_39 hO.1 hO.2.1 rfl rfl (by decide) lay_O (List.mem_cons_of_mem _ q574) rfl ty_O ty_O_ok nm_O rfl (by decide +kernel) rfl rfl (fun M12 e13 => ?_)
      have hw := hw M12 e13
      clear e13
      refine x_aload_n 0 0 d_O_tick_42 rfl rfl ?_
      refine x_geti 24 d_O_tick_43 hO.1 hO.2.1 rfl rfl (by decide) lay_O (List.mem_cons_of_mem _ q574) rfl ?_
      refine x_if_le 51 d_O_tick_46 rfl (fun hc => ?_) (fun hc => ?_)
      · have hw := hw.1 hc
        refine x_aload_n 0 0 d_O_tick_51 rfl rfl ?_
        refine x_iconst (v := 2) d_O_tick_52 (by decide) ?_
        refine x_bipush (v := 16) d_O_tick_53 (by decide) ?_
        refine x_callVv (As := [.int (2 : Int32), .int (16 : Int32)]) (t := 116) (rest := []) (rc := 0) (rs := 0) (c_O_copy hA hT hO hw) cw_O_tick_O_copy_144 hO.1 hO.2.1 rfl d_O_tick_55 rfl rfl (Nat.le_of_ble_eq_true rfl) rfl (fun _ _ h => h.elim) (fun _ _ h => h) (fun M14 hw => ?_)
        refine x_aload_n 0 0 d_O_tick_58 rfl rfl ?_
        refine x_bipush (v := 16) d_O_tick_59 (by decide) ?_
        refine x_callVi (As := [.int (16 : Int32)]) (t := 116) (rest := []) (rc := 0) (rs := 0) (c_O_become hA hT hO hw) cw_O_tick_O_become_202 hO.1 hO.2.1 rfl d_O_tick_61 rfl rfl (Nat.le_of_ble_eq_true rfl) rfl (fun _ _ h => h.elim) (fun _ _ h => h) (fun r16 M15 hw => ?_)
        refine x_istore_n 1 [(1, .int r16), (0, .ref 116)] d_O_tick_64 rfl (by decide) rfl ?_
        refine x_iconst (v := 1) d_O_tick_65 (by decide) ?_
        exact x_zret d_O_tick_66 rfl (sdB_n hw.1) (fun _ h => h) ⟨_, rfl, hw.2⟩
      · have hw := hw.2 hc
        refine x_iconst (v := 0) d_O_tick_49 (by decide) ?_
        exact x_zret d_O_tick_50 rfl (sdB_n hw.1) (fun _ h => h) ⟨_, rfl, hw.2⟩
    · have hw := hw.2 hc
      refine x_sub [] [] rfl ?_
      exact t_O_tick_30 hA hT hO M10 hw
def w_O_tick (M : sdM) (Q : Int32 → sdM → Prop) : Prop := w_O_isDown M (fun r18 M17 => (r18 = 0 → k_O_tick_13 Q M17 (0 : Int32)) ∧ (¬ r18 = 0 → k_O_tick_13 Q M17 (1 : Int32)))
set_option maxHeartbeats 1000000 in
theorem c_O_tick (hA : sd_ad b n ad) (hT : l.stackTraces = false) (hO : isO n L dA) {Q : Int32 → sdM → Prop} {M : sdM} (hw : w_O_tick M Q) : sd_Cn l (sdE0 sc) y_O_tick Y_O_tick.2.2.2.2.1 Y_O_tick.2.2.2.2.2.1 0 0 D (sd_tys dA) b n ad L M [.ref 116] (sd_qi Q) sd_xf := by
  refine sd_enter (Y := Y_O_tick) rfl rfl rfl rfl (Nat.le_of_ble_eq_true rfl) ?_
  show sdW l (sdE0 sc) Y_O_tick D (sd_tys dA) b n ad L ad (sd_H D (sdE0 sc).1 n ad L) (sd_qi Q) sd_xf 0 [(0, .ref 116)] [] M 0 0
  unfold w_O_tick at hw
  refine x_aload_n 0 0 d_O_tick_0 rfl rfl ?_
  refine x_aload_n 0 0 d_O_tick_1 rfl rfl ?_
  refine x_callVi (As := []) (t := 116) (rest := [.ref 116]) (rc := 0) (rs := 0) (c_O_isDown hA hT hO hw) cw_O_tick_O_isDown_153 hO.1 hO.2.1 rfl d_O_tick_2 rfl rfl (Nat.le_of_ble_eq_true rfl) rfl (fun _ _ h => h.elim) (fun _ _ h => h) (fun r18 M17 hw => ?_)
  refine x_if_eq 12 d_O_tick_5 rfl (fun hc => ?_) (fun hc => ?_)
  · have hw := hw.1 hc
    refine x_iconst (v := 0) d_O_tick_12 (by decide) ?_
    exact t_O_tick_13 hA hT hO M17 (0 : Int32) hw
  · have hw := hw.2 hc
    refine x_iconst (v := 1) d_O_tick_8 (by decide) ?_
    refine x_goto 13 d_O_tick_9 rfl ?_
    exact t_O_tick_13 hA hT hO M17 (1 : Int32) hw
end
abbrev y_O_rollback : MethodName := ⟨"SettingsDeskModel", "rollback", "(II)I"⟩
theorem d_O_rollback_0 : decode prog_12_method_44_code 0 = .ok (.aload_n 0, 1) := by decide +kernel
theorem d_O_rollback_1 : decode prog_12_method_44_code 1 = .ok (.aload_n 0, 1) := by decide +kernel
theorem d_O_rollback_2 : decode prog_12_method_44_code 2 = .ok (.iload_n 1, 1) := by decide +kernel
theorem d_O_rollback_3 : decode prog_12_method_44_code 3 = .ok (.invokevirtual 171, 3) := by decide +kernel
theorem d_O_rollback_6 : decode prog_12_method_44_code 6 = .ok (.putfield 69, 3) := by decide +kernel
theorem d_O_rollback_9 : decode prog_12_method_44_code 9 = .ok (.aload_n 0, 1) := by decide +kernel
theorem d_O_rollback_10 : decode prog_12_method_44_code 10 = .ok (.aload_n 0, 1) := by decide +kernel
theorem d_O_rollback_11 : decode prog_12_method_44_code 11 = .ok (.getfield 69, 3) := by decide +kernel
theorem d_O_rollback_14 : decode prog_12_method_44_code 14 = .ok (.ifCond .ne (19), 3) := by decide +kernel
theorem d_O_rollback_17 : decode prog_12_method_44_code 17 = .ok (.iload_n 2, 1) := by decide +kernel
theorem d_O_rollback_18 : decode prog_12_method_44_code 18 = .ok (.ifCond .lt (11), 3) := by decide +kernel
theorem d_O_rollback_21 : decode prog_12_method_44_code 21 = .ok (.iload_n 2, 1) := by decide +kernel
theorem d_O_rollback_22 : decode prog_12_method_44_code 22 = .ok (.aload_n 0, 1) := by decide +kernel
theorem d_O_rollback_23 : decode prog_12_method_44_code 23 = .ok (.getfield 147, 3) := by decide +kernel
theorem d_O_rollback_26 : decode prog_12_method_44_code 26 = .ok (.if_icmp .le (7), 3) := by decide +kernel
theorem d_O_rollback_29 : decode prog_12_method_44_code 29 = .ok (.iconst 3, 1) := by decide +kernel
theorem d_O_rollback_30 : decode prog_12_method_44_code 30 = .ok (.goto (7), 3) := by decide +kernel
theorem d_O_rollback_33 : decode prog_12_method_44_code 33 = .ok (.aload_n 0, 1) := by decide +kernel
theorem d_O_rollback_34 : decode prog_12_method_44_code 34 = .ok (.getfield 69, 3) := by decide +kernel
theorem d_O_rollback_37 : decode prog_12_method_44_code 37 = .ok (.putfield 69, 3) := by decide +kernel
theorem d_O_rollback_40 : decode prog_12_method_44_code 40 = .ok (.aload_n 0, 1) := by decide +kernel
theorem d_O_rollback_41 : decode prog_12_method_44_code 41 = .ok (.getfield 69, 3) := by decide +kernel
theorem d_O_rollback_44 : decode prog_12_method_44_code 44 = .ok (.ifCond .le (5), 3) := by decide +kernel
theorem d_O_rollback_47 : decode prog_12_method_44_code 47 = .ok (.iconst 0, 1) := by decide +kernel
theorem d_O_rollback_48 : decode prog_12_method_44_code 48 = .ok (.ireturn, 1) := by decide +kernel
theorem d_O_rollback_49 : decode prog_12_method_44_code 49 = .ok (.aload_n 0, 1) := by decide +kernel
theorem d_O_rollback_50 : decode prog_12_method_44_code 50 = .ok (.iconst 0, 1) := by decide +kernel
theorem d_O_rollback_51 : decode prog_12_method_44_code 51 = .ok (.bipush (13), 2) := by decide +kernel
theorem d_O_rollback_53 : decode prog_12_method_44_code 53 = .ok (.iload_n 1, 1) := by decide +kernel
theorem d_O_rollback_54 : decode prog_12_method_44_code 54 = .ok (.iadd, 1) := by decide +kernel
theorem d_O_rollback_55 : decode prog_12_method_44_code 55 = .ok (.invokevirtual 144, 3) := by decide +kernel
theorem d_O_rollback_58 : decode prog_12_method_44_code 58 = .ok (.aload_n 0, 1) := by decide +kernel
theorem d_O_rollback_59 : decode prog_12_method_44_code 59 = .ok (.iload_n 2, 1) := by decide +kernel
theorem d_O_rollback_60 : decode prog_12_method_44_code 60 = .ok (.ifCond .ne (7), 3) := by decide +kernel
theorem d_O_rollback_63 : decode prog_12_method_44_code 63 = .ok (.iconst 0, 1) := by decide +kernel
theorem d_O_rollback_64 : decode prog_12_method_44_code 64 = .ok (.goto (8), 3) := by decide +kernel
theorem d_O_rollback_67 : decode prog_12_method_44_code 67 = .ok (.iconst 2, 1) := by decide +kernel
theorem d_O_rollback_68 : decode prog_12_method_44_code 68 = .ok (.iload_n 2, 1) := by decide +kernel
theorem d_O_rollback_69 : decode prog_12_method_44_code 69 = .ok (.iadd, 1) := by decide +kernel
theorem d_O_rollback_70 : decode prog_12_method_44_code 70 = .ok (.iconst 1, 1) := by decide +kernel
theorem d_O_rollback_71 : decode prog_12_method_44_code 71 = .ok (.isub, 1) := by decide +kernel
theorem d_O_rollback_72 : decode prog_12_method_44_code 72 = .ok (.bipush (10), 2) := by decide +kernel
theorem d_O_rollback_74 : decode prog_12_method_44_code 74 = .ok (.iload_n 1, 1) := by decide +kernel
theorem d_O_rollback_75 : decode prog_12_method_44_code 75 = .ok (.iadd, 1) := by decide +kernel
theorem d_O_rollback_76 : decode prog_12_method_44_code 76 = .ok (.invokevirtual 144, 3) := by decide +kernel
theorem d_O_rollback_79 : decode prog_12_method_44_code 79 = .ok (.aload_n 0, 1) := by decide +kernel
theorem d_O_rollback_80 : decode prog_12_method_44_code 80 = .ok (.getfield 147, 3) := by decide +kernel
theorem d_O_rollback_83 : decode prog_12_method_44_code 83 = .ok (.ireturn, 1) := by decide +kernel
def Y_O_rollback : sdY := ("SettingsDeskModel", prog_12_method_44_code, 3, (some .int), .code y_O_rollback prog_12_method_44_code 3 (some .int) :: sdB0, { frames := 2, cells := 0, slots := 0, locals := 46 }, 0, 0, [])
theorem cw_O_rollback_O_needs_171 : sd_cwV Y_O_rollback Y_O_needs y_O_needs 171 1 "SettingsDeskModel" := ⟨sd_goodV q562 q564 q565 q459 q563, ⟨_, rfl⟩, ⟨rfl, rfl, rfl, rfl⟩, ⟨rfl, by decide, by decide, by decide +kernel⟩, ⟨by decide, by decide⟩⟩
theorem cw_O_rollback_O_copy_144 : sd_cwV Y_O_rollback Y_O_copy y_O_copy 144 2 "SettingsDeskModel" := ⟨sd_goodV q527 q529 q530 q459 q528, ⟨_, rfl⟩, ⟨rfl, rfl, rfl, rfl⟩, ⟨rfl, by decide, by decide, by decide +kernel⟩, ⟨by decide, by decide⟩⟩
section
variable {l : Launch} {D : va_G} {dA : Nat → ClassId} {b n : Nat} {ad : Nat → Nat} {L : Nat → sdL} {sc : Option (Nat × Nat × (Nat → Int32))}
def k_O_rollback_72 (Q : Int32 → sdM → Prop) (M : sdM) (x1 : Int32) (s1 : Int32) : Prop := w_O_copy M s1 ((10 : Int32) + x1) (fun M9 => Q (M9 116 20) M9)
set_option maxHeartbeats 1000000 in
theorem t_O_rollback_72 (hA : sd_ad b n ad) (hT : l.stackTraces = false) (hO : isO n L dA) {Q : Int32 → sdM → Prop} (M : sdM) (x1 : Int32) (s1 : Int32) (hw : k_O_rollback_72 Q M x1 s1) : sdW l (sdE0 sc) Y_O_rollback D (sd_tys dA) b n ad L ad (sd_H D (sdE0 sc).1 n ad L) (sd_qi Q) sd_xf 72 [(0, .ref 116), (1, .int x1)] [.int s1, .ref 116] M 0 0 := by
  unfold k_O_rollback_72 at hw
  refine x_bipush (v := 10) d_O_rollback_72 (by decide) ?_
  refine x_iload_n 1 1 d_O_rollback_74 rfl rfl ?_
  refine x_iadd d_O_rollback_75 ?_
  refine x_callVv (As := [.int s1, .int ((10 : Int32) + x1)]) (t := 116) (rest := []) (rc := 0) (rs := 0) (c_O_copy hA hT hO hw) cw_O_rollback_O_copy_144 hO.1 hO.2.1 rfl d_O_rollback_76 rfl rfl (Nat.le_of_ble_eq_true rfl) rfl (fun _ _ h => h.elim) (fun _ _ h => h) (fun M9 hw => ?_)
  refine x_aload_n 0 0 d_O_rollback_79 rfl rfl ?_
  refine x_geti 20 d_O_rollback_80 hO.1 hO.2.1 rfl rfl (by decide) lay_O (List.mem_cons_of_mem _ q543) rfl ?_
  exact x_iret d_O_rollback_83 rfl (fun _ h => h) ⟨_, rfl, hw⟩
def k_O_rollback_37 (Q : Int32 → sdM → Prop) (M : sdM) (x1 : Int32) (x2 : Int32) (s1 : Int32) : Prop := ∀ M10 : sdM, M10 = sd_s M 116 0 s1 → ((M10 116 0) ≤ 0 → w_O_copy M10 (0 : Int32) ((13 : Int32) + x1) (fun M12 => (¬ x2 = 0 → k_O_rollback_72 Q M12 x1 (((2 : Int32) + x2) - (1 : Int32))) ∧ (x2 = 0 → k_O_rollback_72 Q M12 x1 (0 : Int32)))) ∧ (¬ (M10 116 0) ≤ 0 → Q (0 : Int32) M10)
set_option maxHeartbeats 1000000 in
theorem t_O_rollback_37 (hA : sd_ad b n ad) (hT : l.stackTraces = false) (hO : isO n L dA) {Q : Int32 → sdM → Prop} (M : sdM) (x1 : Int32) (x2 : Int32) (s1 : Int32) (hw : k_O_rollback_37 Q M x1 x2 s1) : sdW l (sdE0 sc) Y_O_rollback D (sd_tys dA) b n ad L ad (sd_H D (sdE0 sc).1 n ad L) (sd_qi Q) sd_xf 37 [(0, .ref 116), (1, .int x1), (2, .int x2)] [.int s1, .ref 116] M 0 0 := by
  unfold k_O_rollback_37 at hw
  refine x_puti 0 (ty := .int) hA d_O_rollback_37 hO.1 hO.2.1 rfl rfl (by decide) lay_O (List.mem_cons_of_mem _ q446) rfl ty_O ty_O_ok nm_O rfl (by decide +kernel) rfl rfl (fun M10 e11 => ?_)
  have hw := hw M10 e11
  clear e11
  refine x_aload_n 0 0 d_O_rollback_40 rfl rfl ?_
  refine x_geti 0 d_O_rollback_41 hO.1 hO.2.1 rfl rfl (by decide) lay_O (List.mem_cons_of_mem _ q446) rfl ?_
  refine x_if_le 49 d_O_rollback_44 rfl (fun hc => ?_) (fun hc => ?_)
  · have hw := hw.1 hc
    refine x_aload_n 0 0 d_O_rollback_49 rfl rfl ?_
    refine x_iconst (v := 0) d_O_rollback_50 (by decide) ?_
    refine x_bipush (v := 13) d_O_rollback_51 (by decide) ?_
    refine x_iload_n 1 1 d_O_rollback_53 rfl rfl ?_
    refine x_iadd d_O_rollback_54 ?_
    refine x_callVv (As := [.int (0 : Int32), .int ((13 : Int32) + x1)]) (t := 116) (rest := []) (rc := 0) (rs := 0) (c_O_copy hA hT hO hw) cw_O_rollback_O_copy_144 hO.1 hO.2.1 rfl d_O_rollback_55 rfl rfl (Nat.le_of_ble_eq_true rfl) rfl (fun _ _ h => h.elim) (fun _ _ h => h) (fun M12 hw => ?_)
    refine x_aload_n 0 0 d_O_rollback_58 rfl rfl ?_
    refine x_iload_n 2 2 d_O_rollback_59 rfl rfl ?_
    refine x_if_ne 67 d_O_rollback_60 rfl (fun hc => ?_) (fun hc => ?_)
    · have hw := hw.1 hc
      refine x_iconst (v := 2) d_O_rollback_67 (by decide) ?_
      refine x_iload_n 2 2 d_O_rollback_68 rfl rfl ?_
      refine x_iadd d_O_rollback_69 ?_
      refine x_iconst (v := 1) d_O_rollback_70 (by decide) ?_
      refine x_isub d_O_rollback_71 ?_
      refine x_sub [0, 1] [(0, .ref 116), (1, .int x1)] rfl ?_
      exact t_O_rollback_72 hA hT hO M12 x1 (((2 : Int32) + x2) - (1 : Int32)) hw
    · have hw := hw.2 hc
      refine x_iconst (v := 0) d_O_rollback_63 (by decide) ?_
      refine x_goto 72 d_O_rollback_64 rfl ?_
      refine x_sub [0, 1] [(0, .ref 116), (1, .int x1)] rfl ?_
      exact t_O_rollback_72 hA hT hO M12 x1 (0 : Int32) hw
  · have hw := hw.2 hc
    refine x_iconst (v := 0) d_O_rollback_47 (by decide) ?_
    exact x_iret d_O_rollback_48 rfl (fun _ h => h) ⟨_, rfl, hw⟩
def k_O_rollback_33 (Q : Int32 → sdM → Prop) (M : sdM) (x1 : Int32) (x2 : Int32) : Prop := k_O_rollback_37 Q M x1 x2 (M 116 0)
set_option maxHeartbeats 1000000 in
theorem t_O_rollback_33 (hA : sd_ad b n ad) (hT : l.stackTraces = false) (hO : isO n L dA) {Q : Int32 → sdM → Prop} (M : sdM) (x1 : Int32) (x2 : Int32) (hw : k_O_rollback_33 Q M x1 x2) : sdW l (sdE0 sc) Y_O_rollback D (sd_tys dA) b n ad L ad (sd_H D (sdE0 sc).1 n ad L) (sd_qi Q) sd_xf 33 [(0, .ref 116), (1, .int x1), (2, .int x2)] [.ref 116] M 0 0 := by
  unfold k_O_rollback_33 at hw
  refine x_aload_n 0 0 d_O_rollback_33 rfl rfl ?_
  refine x_geti 0 d_O_rollback_34 hO.1 hO.2.1 rfl rfl (by decide) lay_O (List.mem_cons_of_mem _ q446) rfl ?_
  exact t_O_rollback_37 hA hT hO M x1 x2 (M 116 0) hw
def k_O_rollback_29 (Q : Int32 → sdM → Prop) (M : sdM) (x1 : Int32) (x2 : Int32) : Prop := k_O_rollback_37 Q M x1 x2 (3 : Int32)
set_option maxHeartbeats 1000000 in
theorem t_O_rollback_29 (hA : sd_ad b n ad) (hT : l.stackTraces = false) (hO : isO n L dA) {Q : Int32 → sdM → Prop} (M : sdM) (x1 : Int32) (x2 : Int32) (hw : k_O_rollback_29 Q M x1 x2) : sdW l (sdE0 sc) Y_O_rollback D (sd_tys dA) b n ad L ad (sd_H D (sdE0 sc).1 n ad L) (sd_qi Q) sd_xf 29 [(0, .ref 116), (1, .int x1), (2, .int x2)] [.ref 116] M 0 0 := by
  unfold k_O_rollback_29 at hw
  refine x_iconst (v := 3) d_O_rollback_29 (by decide) ?_
  refine x_goto 37 d_O_rollback_30 rfl ?_
  exact t_O_rollback_37 hA hT hO M x1 x2 (3 : Int32) hw
def w_O_rollback (M : sdM) (a1 : Int32) (a2 : Int32) (Q : Int32 → sdM → Prop) : Prop := w_O_needs M a1 (fun r14 M13 => ∀ M15 : sdM, M15 = sd_s M13 116 0 r14 → (¬ (M15 116 0) = 0 → k_O_rollback_33 Q M15 a1 a2) ∧ ((M15 116 0) = 0 → (a2 < 0 → k_O_rollback_29 Q M15 a1 a2) ∧ (¬ a2 < 0 → (a2 ≤ (M15 116 20) → k_O_rollback_33 Q M15 a1 a2) ∧ (¬ a2 ≤ (M15 116 20) → k_O_rollback_29 Q M15 a1 a2))))
set_option maxHeartbeats 1000000 in
theorem c_O_rollback {a1 : Int32} {a2 : Int32} (hA : sd_ad b n ad) (hT : l.stackTraces = false) (hO : isO n L dA) {Q : Int32 → sdM → Prop} {M : sdM} (hw : w_O_rollback M a1 a2 Q) : sd_Cn l (sdE0 sc) y_O_rollback Y_O_rollback.2.2.2.2.1 Y_O_rollback.2.2.2.2.2.1 0 0 D (sd_tys dA) b n ad L M [.ref 116, .int a1, .int a2] (sd_qi Q) sd_xf := by
  refine sd_enter (Y := Y_O_rollback) rfl rfl rfl rfl (Nat.le_of_ble_eq_true rfl) ?_
  show sdW l (sdE0 sc) Y_O_rollback D (sd_tys dA) b n ad L ad (sd_H D (sdE0 sc).1 n ad L) (sd_qi Q) sd_xf 0 [(0, .ref 116), (1, .int a1), (2, .int a2)] [] M 0 0
  unfold w_O_rollback at hw
  refine x_aload_n 0 0 d_O_rollback_0 rfl rfl ?_
  refine x_aload_n 0 0 d_O_rollback_1 rfl rfl ?_
  refine x_iload_n 1 1 d_O_rollback_2 rfl rfl ?_
  refine x_callVi (As := [.int a1]) (t := 116) (rest := [.ref 116]) (rc := 0) (rs := 0) (c_O_needs hA hT hO hw) cw_O_rollback_O_needs_171 hO.1 hO.2.1 rfl d_O_rollback_3 rfl rfl (Nat.le_of_ble_eq_true rfl) rfl (fun _ _ h => h.elim) (fun _ _ h => h) (fun r14 M13 hw => ?_)
  refine x_puti 0 (ty := .int) hA d_O_rollback_6 hO.1 hO.2.1 rfl rfl (by decide) lay_O (List.mem_cons_of_mem _ q446) rfl ty_O ty_O_ok nm_O rfl (by decide +kernel) rfl rfl (fun M15 e16 => ?_)
  have hw := hw M15 e16
  clear e16
  refine x_aload_n 0 0 d_O_rollback_9 rfl rfl ?_
  refine x_aload_n 0 0 d_O_rollback_10 rfl rfl ?_
  refine x_geti 0 d_O_rollback_11 hO.1 hO.2.1 rfl rfl (by decide) lay_O (List.mem_cons_of_mem _ q446) rfl ?_
  refine x_if_ne 33 d_O_rollback_14 rfl (fun hc => ?_) (fun hc => ?_)
  · have hw := hw.1 hc
    exact t_O_rollback_33 hA hT hO M15 a1 a2 hw
  · have hw := hw.2 hc
    refine x_iload_n 2 2 d_O_rollback_17 rfl rfl ?_
    refine x_if_lt 29 d_O_rollback_18 rfl (fun hc => ?_) (fun hc => ?_)
    · have hw := hw.1 hc
      exact t_O_rollback_29 hA hT hO M15 a1 a2 hw
    · have hw := hw.2 hc
      refine x_iload_n 2 2 d_O_rollback_21 rfl rfl ?_
      refine x_aload_n 0 0 d_O_rollback_22 rfl rfl ?_
      refine x_geti 20 d_O_rollback_23 hO.1 hO.2.1 rfl rfl (by decide) lay_O (List.mem_cons_of_mem _ q543) rfl ?_
      refine x_icmp_le 33 d_O_rollback_26 rfl (fun hc => ?_) (fun hc => ?_)
      · have hw := hw.1 hc
        exact t_O_rollback_33 hA hT hO M15 a1 a2 hw
      · have hw := hw.2 hc
        exact t_O_rollback_29 hA hT hO M15 a1 a2 hw
end
abbrev y_O_differs : MethodName := ⟨"SettingsDeskModel", "differs", "(III)I"⟩
theorem d_O_differs_0 : decode prog_12_method_45_code 0 = .ok (.iload_n 1, 1) := by decide +kernel
theorem d_O_differs_1 : decode prog_12_method_45_code 1 = .ok (.ifCond .lt (7), 3) := by decide +kernel
theorem d_O_differs_4 : decode prog_12_method_45_code 4 = .ok (.iconst 1, 1) := by decide +kernel
theorem d_O_differs_5 : decode prog_12_method_45_code 5 = .ok (.goto (4), 3) := by decide +kernel
theorem d_O_differs_8 : decode prog_12_method_45_code 8 = .ok (.iconst 0, 1) := by decide +kernel
theorem d_O_differs_9 : decode prog_12_method_45_code 9 = .ok (.istore 4, 2) := by decide +kernel
theorem d_O_differs_11 : decode prog_12_method_45_code 11 = .ok (.iload_n 2, 1) := by decide +kernel
theorem d_O_differs_12 : decode prog_12_method_45_code 12 = .ok (.ifCond .lt (7), 3) := by decide +kernel
theorem d_O_differs_15 : decode prog_12_method_45_code 15 = .ok (.iconst 1, 1) := by decide +kernel
theorem d_O_differs_16 : decode prog_12_method_45_code 16 = .ok (.goto (4), 3) := by decide +kernel
theorem d_O_differs_19 : decode prog_12_method_45_code 19 = .ok (.iconst 0, 1) := by decide +kernel
theorem d_O_differs_20 : decode prog_12_method_45_code 20 = .ok (.istore 5, 2) := by decide +kernel
theorem d_O_differs_22 : decode prog_12_method_45_code 22 = .ok (.iload_n 3, 1) := by decide +kernel
theorem d_O_differs_23 : decode prog_12_method_45_code 23 = .ok (.ifCond .ge (25), 3) := by decide +kernel
theorem d_O_differs_26 : decode prog_12_method_45_code 26 = .ok (.iload 4, 2) := by decide +kernel
theorem d_O_differs_28 : decode prog_12_method_45_code 28 = .ok (.iload 5, 2) := by decide +kernel
theorem d_O_differs_30 : decode prog_12_method_45_code 30 = .ok (.if_icmp .ne (7), 3) := by decide +kernel
theorem d_O_differs_33 : decode prog_12_method_45_code 33 = .ok (.iconst 0, 1) := by decide +kernel
theorem d_O_differs_34 : decode prog_12_method_45_code 34 = .ok (.goto (13), 3) := by decide +kernel
theorem d_O_differs_37 : decode prog_12_method_45_code 37 = .ok (.iload 4, 2) := by decide +kernel
theorem d_O_differs_39 : decode prog_12_method_45_code 39 = .ok (.ifCond .eq (7), 3) := by decide +kernel
theorem d_O_differs_42 : decode prog_12_method_45_code 42 = .ok (.iconst 1, 1) := by decide +kernel
theorem d_O_differs_43 : decode prog_12_method_45_code 43 = .ok (.goto (4), 3) := by decide +kernel
theorem d_O_differs_46 : decode prog_12_method_45_code 46 = .ok (.iconst 2, 1) := by decide +kernel
theorem d_O_differs_47 : decode prog_12_method_45_code 47 = .ok (.ireturn, 1) := by decide +kernel
theorem d_O_differs_48 : decode prog_12_method_45_code 48 = .ok (.iload 4, 2) := by decide +kernel
theorem d_O_differs_50 : decode prog_12_method_45_code 50 = .ok (.ifCond .eq (17), 3) := by decide +kernel
theorem d_O_differs_53 : decode prog_12_method_45_code 53 = .ok (.aload_n 0, 1) := by decide +kernel
theorem d_O_differs_54 : decode prog_12_method_45_code 54 = .ok (.iload_n 1, 1) := by decide +kernel
theorem d_O_differs_55 : decode prog_12_method_45_code 55 = .ok (.iload_n 2, 1) := by decide +kernel
theorem d_O_differs_56 : decode prog_12_method_45_code 56 = .ok (.iload_n 3, 1) := by decide +kernel
theorem d_O_differs_57 : decode prog_12_method_45_code 57 = .ok (.invokevirtual 101, 3) := by decide +kernel
theorem d_O_differs_60 : decode prog_12_method_45_code 60 = .ok (.ifCond .ne (7), 3) := by decide +kernel
theorem d_O_differs_63 : decode prog_12_method_45_code 63 = .ok (.iconst 3, 1) := by decide +kernel
theorem d_O_differs_64 : decode prog_12_method_45_code 64 = .ok (.goto (4), 3) := by decide +kernel
theorem d_O_differs_67 : decode prog_12_method_45_code 67 = .ok (.iconst 0, 1) := by decide +kernel
theorem d_O_differs_68 : decode prog_12_method_45_code 68 = .ok (.ireturn, 1) := by decide +kernel
def Y_O_differs : sdY := ("SettingsDeskModel", prog_12_method_45_code, 6, (some .int), .code y_O_differs prog_12_method_45_code 6 (some .int) :: sdB0, { frames := 2, cells := 0, slots := 0, locals := 45 }, 0, 0, [])
theorem cw_O_differs_O_alike_101 : sd_cwV Y_O_differs Y_O_alike y_O_alike 101 3 "SettingsDeskModel" := ⟨sd_goodV q531 q533 q534 q459 q532, ⟨_, rfl⟩, ⟨rfl, rfl, rfl, rfl⟩, ⟨rfl, by decide, by decide, by decide +kernel⟩, ⟨by decide, by decide⟩⟩
section
variable {l : Launch} {D : va_G} {dA : Nat → ClassId} {b n : Nat} {ad : Nat → Nat} {L : Nat → sdL} {sc : Option (Nat × Nat × (Nat → Int32))}
def k_O_differs_68 (Q : Int32 → sdM → Prop) (M : sdM) (s0 : Int32) : Prop := Q s0 M
set_option maxHeartbeats 1000000 in
theorem t_O_differs_68 (hA : sd_ad b n ad) (hT : l.stackTraces = false) (hO : isO n L dA) {Q : Int32 → sdM → Prop} (M : sdM) (s0 : Int32) (hw : k_O_differs_68 Q M s0) : sdW l (sdE0 sc) Y_O_differs D (sd_tys dA) b n ad L ad (sd_H D (sdE0 sc).1 n ad L) (sd_qi Q) sd_xf 68 [] [.int s0] M 0 0 := by
  unfold k_O_differs_68 at hw
  exact x_iret d_O_differs_68 rfl (fun _ h => h) ⟨_, rfl, hw⟩
def k_O_differs_67 (Q : Int32 → sdM → Prop) (M : sdM) : Prop := k_O_differs_68 Q M (0 : Int32)
set_option maxHeartbeats 1000000 in
theorem t_O_differs_67 (hA : sd_ad b n ad) (hT : l.stackTraces = false) (hO : isO n L dA) {Q : Int32 → sdM → Prop} (M : sdM) (hw : k_O_differs_67 Q M ) : sdW l (sdE0 sc) Y_O_differs D (sd_tys dA) b n ad L ad (sd_H D (sdE0 sc).1 n ad L) (sd_qi Q) sd_xf 67 [] [] M 0 0 := by
  unfold k_O_differs_67 at hw
  refine x_iconst (v := 0) d_O_differs_67 (by decide) ?_
  exact t_O_differs_68 hA hT hO M (0 : Int32) hw
def k_O_differs_47 (Q : Int32 → sdM → Prop) (M : sdM) (s0 : Int32) : Prop := Q s0 M
set_option maxHeartbeats 1000000 in
theorem t_O_differs_47 (hA : sd_ad b n ad) (hT : l.stackTraces = false) (hO : isO n L dA) {Q : Int32 → sdM → Prop} (M : sdM) (s0 : Int32) (hw : k_O_differs_47 Q M s0) : sdW l (sdE0 sc) Y_O_differs D (sd_tys dA) b n ad L ad (sd_H D (sdE0 sc).1 n ad L) (sd_qi Q) sd_xf 47 [] [.int s0] M 0 0 := by
  unfold k_O_differs_47 at hw
  exact x_iret d_O_differs_47 rfl (fun _ h => h) ⟨_, rfl, hw⟩
def k_O_differs_20 (Q : Int32 → sdM → Prop) (M : sdM) (x1 : Int32) (x2 : Int32) (x3 : Int32) (x4 : Int32) (s0 : Int32) : Prop := (0 ≤ x3 → (x4 = 0 → k_O_differs_67 Q M) ∧ (¬ x4 = 0 → w_O_alike M x1 x2 x3 (fun r4 M3 => (¬ r4 = 0 → k_O_differs_67 Q M3) ∧ (r4 = 0 → k_O_differs_68 Q M3 (3 : Int32))))) ∧ (¬ 0 ≤ x3 → (¬ x4 = s0 → (x4 = 0 → k_O_differs_47 Q M (2 : Int32)) ∧ (¬ x4 = 0 → k_O_differs_47 Q M (1 : Int32))) ∧ (x4 = s0 → k_O_differs_47 Q M (0 : Int32)))
set_option maxHeartbeats 1000000 in
theorem t_O_differs_20 (hA : sd_ad b n ad) (hT : l.stackTraces = false) (hO : isO n L dA) {Q : Int32 → sdM → Prop} (M : sdM) (x1 : Int32) (x2 : Int32) (x3 : Int32) (x4 : Int32) (s0 : Int32) (hw : k_O_differs_20 Q M x1 x2 x3 x4 s0) : sdW l (sdE0 sc) Y_O_differs D (sd_tys dA) b n ad L ad (sd_H D (sdE0 sc).1 n ad L) (sd_qi Q) sd_xf 20 [(0, .ref 116), (1, .int x1), (2, .int x2), (3, .int x3), (4, .int x4)] [.int s0] M 0 0 := by
  unfold k_O_differs_20 at hw
  refine x_istore 5 [(5, .int s0), (0, .ref 116), (1, .int x1), (2, .int x2), (3, .int x3), (4, .int x4)] d_O_differs_20 (by decide) rfl ?_
  refine x_iload_n 3 4 d_O_differs_22 rfl rfl ?_
  refine x_if_ge 48 d_O_differs_23 rfl (fun hc => ?_) (fun hc => ?_)
  · have hw := hw.1 hc
    refine x_iload 4 5 d_O_differs_48 rfl ?_
    refine x_if_eq 67 d_O_differs_50 rfl (fun hc => ?_) (fun hc => ?_)
    · have hw := hw.1 hc
      refine x_sub [] [] rfl ?_
      exact t_O_differs_67 hA hT hO M hw
    · have hw := hw.2 hc
      refine x_aload_n 0 1 d_O_differs_53 rfl rfl ?_
      refine x_iload_n 1 2 d_O_differs_54 rfl rfl ?_
      refine x_iload_n 2 3 d_O_differs_55 rfl rfl ?_
      refine x_iload_n 3 4 d_O_differs_56 rfl rfl ?_
      refine x_callVi (As := [.int x1, .int x2, .int x3]) (t := 116) (rest := []) (rc := 0) (rs := 0) (c_O_alike hA hT hO hw) cw_O_differs_O_alike_101 hO.1 hO.2.1 rfl d_O_differs_57 rfl rfl (Nat.le_of_ble_eq_true rfl) rfl (fun _ _ h => h.elim) (fun _ _ h => h) (fun r4 M3 hw => ?_)
      refine x_if_ne 67 d_O_differs_60 rfl (fun hc => ?_) (fun hc => ?_)
      · have hw := hw.1 hc
        refine x_sub [] [] rfl ?_
        exact t_O_differs_67 hA hT hO M3 hw
      · have hw := hw.2 hc
        refine x_iconst (v := 3) d_O_differs_63 (by decide) ?_
        refine x_goto 68 d_O_differs_64 rfl ?_
        refine x_sub [] [] rfl ?_
        exact t_O_differs_68 hA hT hO M3 (3 : Int32) hw
  · have hw := hw.2 hc
    refine x_iload 4 5 d_O_differs_26 rfl ?_
    refine x_iload 5 0 d_O_differs_28 rfl ?_
    refine x_icmp_ne 37 d_O_differs_30 rfl (fun hc => ?_) (fun hc => ?_)
    · have hw := hw.1 hc
      refine x_iload 4 5 d_O_differs_37 rfl ?_
      refine x_if_eq 46 d_O_differs_39 rfl (fun hc => ?_) (fun hc => ?_)
      · have hw := hw.1 hc
        refine x_iconst (v := 2) d_O_differs_46 (by decide) ?_
        refine x_sub [] [] rfl ?_
        exact t_O_differs_47 hA hT hO M (2 : Int32) hw
      · have hw := hw.2 hc
        refine x_iconst (v := 1) d_O_differs_42 (by decide) ?_
        refine x_goto 47 d_O_differs_43 rfl ?_
        refine x_sub [] [] rfl ?_
        exact t_O_differs_47 hA hT hO M (1 : Int32) hw
    · have hw := hw.2 hc
      refine x_iconst (v := 0) d_O_differs_33 (by decide) ?_
      refine x_goto 47 d_O_differs_34 rfl ?_
      refine x_sub [] [] rfl ?_
      exact t_O_differs_47 hA hT hO M (0 : Int32) hw
def k_O_differs_9 (Q : Int32 → sdM → Prop) (M : sdM) (x1 : Int32) (x2 : Int32) (x3 : Int32) (s0 : Int32) : Prop := (x2 < 0 → k_O_differs_20 Q M x1 x2 x3 s0 (0 : Int32)) ∧ (¬ x2 < 0 → k_O_differs_20 Q M x1 x2 x3 s0 (1 : Int32))
set_option maxHeartbeats 1000000 in
theorem t_O_differs_9 (hA : sd_ad b n ad) (hT : l.stackTraces = false) (hO : isO n L dA) {Q : Int32 → sdM → Prop} (M : sdM) (x1 : Int32) (x2 : Int32) (x3 : Int32) (s0 : Int32) (hw : k_O_differs_9 Q M x1 x2 x3 s0) : sdW l (sdE0 sc) Y_O_differs D (sd_tys dA) b n ad L ad (sd_H D (sdE0 sc).1 n ad L) (sd_qi Q) sd_xf 9 [(0, .ref 116), (1, .int x1), (2, .int x2), (3, .int x3)] [.int s0] M 0 0 := by
  unfold k_O_differs_9 at hw
  refine x_istore 4 [(4, .int s0), (0, .ref 116), (1, .int x1), (2, .int x2), (3, .int x3)] d_O_differs_9 (by decide) rfl ?_
  refine x_iload_n 2 3 d_O_differs_11 rfl rfl ?_
  refine x_if_lt 19 d_O_differs_12 rfl (fun hc => ?_) (fun hc => ?_)
  · have hw := hw.1 hc
    refine x_iconst (v := 0) d_O_differs_19 (by decide) ?_
    refine x_sub [1, 2, 3, 4, 0] [(0, .ref 116), (1, .int x1), (2, .int x2), (3, .int x3), (4, .int s0)] rfl ?_
    exact t_O_differs_20 hA hT hO M x1 x2 x3 s0 (0 : Int32) hw
  · have hw := hw.2 hc
    refine x_iconst (v := 1) d_O_differs_15 (by decide) ?_
    refine x_goto 20 d_O_differs_16 rfl ?_
    refine x_sub [1, 2, 3, 4, 0] [(0, .ref 116), (1, .int x1), (2, .int x2), (3, .int x3), (4, .int s0)] rfl ?_
    exact t_O_differs_20 hA hT hO M x1 x2 x3 s0 (1 : Int32) hw
def w_O_differs (M : sdM) (a1 : Int32) (a2 : Int32) (a3 : Int32) (Q : Int32 → sdM → Prop) : Prop := (a1 < 0 → k_O_differs_9 Q M a1 a2 a3 (0 : Int32)) ∧ (¬ a1 < 0 → k_O_differs_9 Q M a1 a2 a3 (1 : Int32))
set_option maxHeartbeats 1000000 in
theorem c_O_differs {a1 : Int32} {a2 : Int32} {a3 : Int32} (hA : sd_ad b n ad) (hT : l.stackTraces = false) (hO : isO n L dA) {Q : Int32 → sdM → Prop} {M : sdM} (hw : w_O_differs M a1 a2 a3 Q) : sd_Cn l (sdE0 sc) y_O_differs Y_O_differs.2.2.2.2.1 Y_O_differs.2.2.2.2.2.1 0 0 D (sd_tys dA) b n ad L M [.ref 116, .int a1, .int a2, .int a3] (sd_qi Q) sd_xf := by
  refine sd_enter (Y := Y_O_differs) rfl rfl rfl rfl (Nat.le_of_ble_eq_true rfl) ?_
  show sdW l (sdE0 sc) Y_O_differs D (sd_tys dA) b n ad L ad (sd_H D (sdE0 sc).1 n ad L) (sd_qi Q) sd_xf 0 [(0, .ref 116), (1, .int a1), (2, .int a2), (3, .int a3)] [] M 0 0
  unfold w_O_differs at hw
  refine x_iload_n 1 1 d_O_differs_0 rfl rfl ?_
  refine x_if_lt 8 d_O_differs_1 rfl (fun hc => ?_) (fun hc => ?_)
  · have hw := hw.1 hc
    refine x_iconst (v := 0) d_O_differs_8 (by decide) ?_
    exact t_O_differs_9 hA hT hO M a1 a2 a3 (0 : Int32) hw
  · have hw := hw.2 hc
    refine x_iconst (v := 1) d_O_differs_4 (by decide) ?_
    refine x_goto 9 d_O_differs_5 rfl ?_
    exact t_O_differs_9 hA hT hO M a1 a2 a3 (1 : Int32) hw
end
theorem q587 : (.fieldLink "SettingsDeskModel" 208 "SettingsDeskModel" "foundKind" "I" : Cond) ∈ sdB0 := sd_tb4 193 rfl rfl
theorem q588 : (.methodLink "SettingsDeskModel" 205 ⟨"SettingsDeskModel", "differs", "(III)I"⟩ : Cond) ∈ sdB0 := sd_tb5 205 rfl rfl
theorem q589 : (.code ⟨"SettingsDeskModel", "differs", "(III)I"⟩ prog_12_method_45_code 6 (some .int) : Cond) ∈ sdB0 := sd_tb5 208 rfl rfl
theorem q590 : (.instanceMethod ⟨"SettingsDeskModel", "differs", "(III)I"⟩ : Cond) ∈ sdB0 := sd_tb5 207 rfl rfl
theorem q591 : (.selects "SettingsDeskModel" ⟨"SettingsDeskModel", "differs", "(III)I"⟩ ⟨"SettingsDeskModel", "differs", "(III)I"⟩ : Cond) ∈ sdB0 := sd_tbp (q := (⟨"SettingsDeskModel", "differs", "(III)I"⟩, 35)) (List.mem_of_getElem? (i := 42) rfl)
abbrev y_O_isDifference : MethodName := ⟨"SettingsDeskModel", "isDifference", "(II)Z"⟩
theorem d_O_isDifference_0 : decode prog_12_method_46_code 0 = .ok (.iconst 0, 1) := by decide +kernel
theorem d_O_isDifference_1 : decode prog_12_method_46_code 1 = .ok (.istore_n 3, 1) := by decide +kernel
theorem d_O_isDifference_2 : decode prog_12_method_46_code 2 = .ok (.iconst 0, 1) := by decide +kernel
theorem d_O_isDifference_3 : decode prog_12_method_46_code 3 = .ok (.istore 4, 2) := by decide +kernel
theorem d_O_isDifference_5 : decode prog_12_method_46_code 5 = .ok (.iload 4, 2) := by decide +kernel
theorem d_O_isDifference_7 : decode prog_12_method_46_code 7 = .ok (.sipush (404), 3) := by decide +kernel
theorem d_O_isDifference_10 : decode prog_12_method_46_code 10 = .ok (.if_icmp .ge (119), 3) := by decide +kernel
theorem d_O_isDifference_13 : decode prog_12_method_46_code 13 = .ok (.aload_n 0, 1) := by decide +kernel
theorem d_O_isDifference_14 : decode prog_12_method_46_code 14 = .ok (.bipush (10), 2) := by decide +kernel
theorem d_O_isDifference_16 : decode prog_12_method_46_code 16 = .ok (.iload_n 1, 1) := by decide +kernel
theorem d_O_isDifference_17 : decode prog_12_method_46_code 17 = .ok (.iadd, 1) := by decide +kernel
theorem d_O_isDifference_18 : decode prog_12_method_46_code 18 = .ok (.iload 4, 2) := by decide +kernel
theorem d_O_isDifference_20 : decode prog_12_method_46_code 20 = .ok (.bipush (101), 2) := by decide +kernel
theorem d_O_isDifference_22 : decode prog_12_method_46_code 22 = .ok (.idiv, 1) := by decide +kernel
theorem d_O_isDifference_23 : decode prog_12_method_46_code 23 = .ok (.iload 4, 2) := by decide +kernel
theorem d_O_isDifference_25 : decode prog_12_method_46_code 25 = .ok (.bipush (101), 2) := by decide +kernel
theorem d_O_isDifference_27 : decode prog_12_method_46_code 27 = .ok (.irem, 1) := by decide +kernel
theorem d_O_isDifference_28 : decode prog_12_method_46_code 28 = .ok (.invokevirtual 115, 3) := by decide +kernel
theorem d_O_isDifference_31 : decode prog_12_method_46_code 31 = .ok (.istore 5, 2) := by decide +kernel
theorem d_O_isDifference_33 : decode prog_12_method_46_code 33 = .ok (.aload_n 0, 1) := by decide +kernel
theorem d_O_isDifference_34 : decode prog_12_method_46_code 34 = .ok (.iconst 0, 1) := by decide +kernel
theorem d_O_isDifference_35 : decode prog_12_method_46_code 35 = .ok (.iload 4, 2) := by decide +kernel
theorem d_O_isDifference_37 : decode prog_12_method_46_code 37 = .ok (.bipush (101), 2) := by decide +kernel
theorem d_O_isDifference_39 : decode prog_12_method_46_code 39 = .ok (.idiv, 1) := by decide +kernel
theorem d_O_isDifference_40 : decode prog_12_method_46_code 40 = .ok (.iload 4, 2) := by decide +kernel
theorem d_O_isDifference_42 : decode prog_12_method_46_code 42 = .ok (.bipush (101), 2) := by decide +kernel
theorem d_O_isDifference_44 : decode prog_12_method_46_code 44 = .ok (.irem, 1) := by decide +kernel
theorem d_O_isDifference_45 : decode prog_12_method_46_code 45 = .ok (.invokevirtual 115, 3) := by decide +kernel
theorem d_O_isDifference_48 : decode prog_12_method_46_code 48 = .ok (.istore 6, 2) := by decide +kernel
theorem d_O_isDifference_50 : decode prog_12_method_46_code 50 = .ok (.iconst (-1), 1) := by decide +kernel
theorem d_O_isDifference_51 : decode prog_12_method_46_code 51 = .ok (.istore 7, 2) := by decide +kernel
theorem d_O_isDifference_53 : decode prog_12_method_46_code 53 = .ok (.iload 7, 2) := by decide +kernel
theorem d_O_isDifference_55 : decode prog_12_method_46_code 55 = .ok (.iconst 4, 1) := by decide +kernel
theorem d_O_isDifference_56 : decode prog_12_method_46_code 56 = .ok (.if_icmp .ge (67), 3) := by decide +kernel
theorem d_O_isDifference_59 : decode prog_12_method_46_code 59 = .ok (.aload_n 0, 1) := by decide +kernel
theorem d_O_isDifference_60 : decode prog_12_method_46_code 60 = .ok (.iload 5, 2) := by decide +kernel
theorem d_O_isDifference_62 : decode prog_12_method_46_code 62 = .ok (.iload 6, 2) := by decide +kernel
theorem d_O_isDifference_64 : decode prog_12_method_46_code 64 = .ok (.iload 7, 2) := by decide +kernel
theorem d_O_isDifference_66 : decode prog_12_method_46_code 66 = .ok (.invokevirtual 205, 3) := by decide +kernel
theorem d_O_isDifference_69 : decode prog_12_method_46_code 69 = .ok (.istore 8, 2) := by decide +kernel
theorem d_O_isDifference_71 : decode prog_12_method_46_code 71 = .ok (.iload 8, 2) := by decide +kernel
theorem d_O_isDifference_73 : decode prog_12_method_46_code 73 = .ok (.ifCond .le (31), 3) := by decide +kernel
theorem d_O_isDifference_76 : decode prog_12_method_46_code 76 = .ok (.iload_n 3, 1) := by decide +kernel
theorem d_O_isDifference_77 : decode prog_12_method_46_code 77 = .ok (.iload_n 2, 1) := by decide +kernel
theorem d_O_isDifference_78 : decode prog_12_method_46_code 78 = .ok (.if_icmp .ne (26), 3) := by decide +kernel
theorem d_O_isDifference_81 : decode prog_12_method_46_code 81 = .ok (.aload_n 0, 1) := by decide +kernel
theorem d_O_isDifference_82 : decode prog_12_method_46_code 82 = .ok (.iload 8, 2) := by decide +kernel
theorem d_O_isDifference_84 : decode prog_12_method_46_code 84 = .ok (.putfield 208, 3) := by decide +kernel
theorem d_O_isDifference_87 : decode prog_12_method_46_code 87 = .ok (.aload_n 0, 1) := by decide +kernel
theorem d_O_isDifference_88 : decode prog_12_method_46_code 88 = .ok (.iload 4, 2) := by decide +kernel
theorem d_O_isDifference_90 : decode prog_12_method_46_code 90 = .ok (.bipush (101), 2) := by decide +kernel
theorem d_O_isDifference_92 : decode prog_12_method_46_code 92 = .ok (.idiv, 1) := by decide +kernel
theorem d_O_isDifference_93 : decode prog_12_method_46_code 93 = .ok (.iload 4, 2) := by decide +kernel
theorem d_O_isDifference_95 : decode prog_12_method_46_code 95 = .ok (.bipush (101), 2) := by decide +kernel
theorem d_O_isDifference_97 : decode prog_12_method_46_code 97 = .ok (.irem, 1) := by decide +kernel
theorem d_O_isDifference_98 : decode prog_12_method_46_code 98 = .ok (.iload 7, 2) := by decide +kernel
theorem d_O_isDifference_100 : decode prog_12_method_46_code 100 = .ok (.invokevirtual 174, 3) := by decide +kernel
theorem d_O_isDifference_103 : decode prog_12_method_46_code 103 = .ok (.ireturn, 1) := by decide +kernel
theorem d_O_isDifference_104 : decode prog_12_method_46_code 104 = .ok (.iload 8, 2) := by decide +kernel
theorem d_O_isDifference_106 : decode prog_12_method_46_code 106 = .ok (.ifCond .le (9), 3) := by decide +kernel
theorem d_O_isDifference_109 : decode prog_12_method_46_code 109 = .ok (.iload_n 3, 1) := by decide +kernel
theorem d_O_isDifference_110 : decode prog_12_method_46_code 110 = .ok (.iconst 1, 1) := by decide +kernel
theorem d_O_isDifference_111 : decode prog_12_method_46_code 111 = .ok (.iadd, 1) := by decide +kernel
theorem d_O_isDifference_112 : decode prog_12_method_46_code 112 = .ok (.goto (4), 3) := by decide +kernel
theorem d_O_isDifference_115 : decode prog_12_method_46_code 115 = .ok (.iload_n 3, 1) := by decide +kernel
theorem d_O_isDifference_116 : decode prog_12_method_46_code 116 = .ok (.istore_n 3, 1) := by decide +kernel
theorem d_O_isDifference_117 : decode prog_12_method_46_code 117 = .ok (.iinc 7 (1), 3) := by decide +kernel
theorem d_O_isDifference_120 : decode prog_12_method_46_code 120 = .ok (.goto (-67), 3) := by decide +kernel
theorem d_O_isDifference_123 : decode prog_12_method_46_code 123 = .ok (.iinc 4 (1), 3) := by decide +kernel
theorem d_O_isDifference_126 : decode prog_12_method_46_code 126 = .ok (.goto (-121), 3) := by decide +kernel
theorem d_O_isDifference_129 : decode prog_12_method_46_code 129 = .ok (.iconst 0, 1) := by decide +kernel
theorem d_O_isDifference_130 : decode prog_12_method_46_code 130 = .ok (.ireturn, 1) := by decide +kernel
def Y_O_isDifference : sdY := ("SettingsDeskModel", prog_12_method_46_code, 9, (some .boolean), .code y_O_isDifference prog_12_method_46_code 9 (some .boolean) :: sdB0, { frames := 3, cells := 0, slots := 0, locals := 70 }, 0, 0, [])
theorem cw_O_isDifference_O_find_115 : sd_cwV Y_O_isDifference Y_O_find y_O_find 115 3 "SettingsDeskModel" := ⟨sd_goodV q492 q494 q495 q459 q493, ⟨_, rfl⟩, ⟨rfl, rfl, rfl, rfl⟩, ⟨rfl, by decide, by decide, by decide +kernel⟩, ⟨by decide, by decide⟩⟩
theorem cw_O_isDifference_O_differs_205 : sd_cwV Y_O_isDifference Y_O_differs y_O_differs 205 3 "SettingsDeskModel" := ⟨sd_goodV q588 q590 q591 q459 q589, ⟨_, rfl⟩, ⟨rfl, rfl, rfl, rfl⟩, ⟨rfl, by decide, by decide, by decide +kernel⟩, ⟨by decide, by decide⟩⟩
theorem cw_O_isDifference_O_clashes_174 : sd_cwV Y_O_isDifference Y_O_clashes y_O_clashes 174 3 "SettingsDeskModel" := ⟨sd_goodV q566 q568 q569 q459 q567, ⟨_, rfl⟩, ⟨rfl, rfl, rfl, rfl⟩, ⟨rfl, by decide, by decide, by decide +kernel⟩, ⟨by decide, by decide⟩⟩
section
variable {l : Launch} {D : va_G} {dA : Nat → ClassId} {b n : Nat} {ad : Nat → Nat} {L : Nat → sdL} {sc : Option (Nat × Nat × (Nat → Int32))}
def k_O_isDifference_116 (Q : Int32 → sdM → Prop) (k5 : sdM → Int32 → Int32 → Int32 → Int32 → Prop) (k53 : sdM → Int32 → Int32 → Int32 → Int32 → Int32 → Int32 → Int32 → Prop) (M : sdM) (x1 : Int32) (x2 : Int32) (x4 : Int32) (x5 : Int32) (x6 : Int32) (x7 : Int32) (s0 : Int32) : Prop := k53 M x1 x2 s0 x4 x5 x6 (x7 + 1)
set_option maxHeartbeats 1000000 in
theorem t_O_isDifference_116 (hA : sd_ad b n ad) (hT : l.stackTraces = false) (hO : isO n L dA) {Q : Int32 → sdM → Prop} {k5 : sdM → Int32 → Int32 → Int32 → Int32 → Prop} (hk5 : ∀ (M : sdM) (x1 : Int32) (x2 : Int32) (x3 : Int32) (x4 : Int32), k5 M x1 x2 x3 x4 → sdW l (sdE0 sc) Y_O_isDifference D (sd_tys dA) b n ad L ad (sd_H D (sdE0 sc).1 n ad L) (sd_qi Q) sd_xf 5 [(0, .ref 116), (1, .int x1), (2, .int x2), (3, .int x3), (4, .int x4)] [] M 0 0) {k53 : sdM → Int32 → Int32 → Int32 → Int32 → Int32 → Int32 → Int32 → Prop} (hk53 : ∀ (M : sdM) (x1 : Int32) (x2 : Int32) (x3 : Int32) (x4 : Int32) (x5 : Int32) (x6 : Int32) (x7 : Int32), k53 M x1 x2 x3 x4 x5 x6 x7 → sdW l (sdE0 sc) Y_O_isDifference D (sd_tys dA) b n ad L ad (sd_H D (sdE0 sc).1 n ad L) (sd_qi Q) sd_xf 53 [(0, .ref 116), (1, .int x1), (2, .int x2), (3, .int x3), (4, .int x4), (5, .int x5), (6, .int x6), (7, .int x7)] [] M 0 0) (M : sdM) (x1 : Int32) (x2 : Int32) (x4 : Int32) (x5 : Int32) (x6 : Int32) (x7 : Int32) (s0 : Int32) (hw : k_O_isDifference_116 Q k5 k53 M x1 x2 x4 x5 x6 x7 s0) : sdW l (sdE0 sc) Y_O_isDifference D (sd_tys dA) b n ad L ad (sd_H D (sdE0 sc).1 n ad L) (sd_qi Q) sd_xf 116 [(0, .ref 116), (1, .int x1), (2, .int x2), (4, .int x4), (5, .int x5), (6, .int x6), (7, .int x7)] [.int s0] M 0 0 := by
  unfold k_O_isDifference_116 at hw
  refine x_istore_n 3 [(3, .int s0), (0, .ref 116), (1, .int x1), (2, .int x2), (4, .int x4), (5, .int x5), (6, .int x6), (7, .int x7)] d_O_isDifference_116 rfl (by decide) rfl ?_
  refine x_iinc 7 7 [(7, .int (x7 + 1)), (3, .int s0), (0, .ref 116), (1, .int x1), (2, .int x2), (4, .int x4), (5, .int x5), (6, .int x6)] d_O_isDifference_117 rfl (congrArg (HAdd.hAdd x7) (show Int32.ofInt 1 = 1 by decide)) (by decide) rfl ?_
  refine x_goto 53 d_O_isDifference_120 rfl ?_
  refine x_sub [2, 3, 4, 1, 5, 6, 7, 0] [(0, .ref 116), (1, .int x1), (2, .int x2), (3, .int s0), (4, .int x4), (5, .int x5), (6, .int x6), (7, .int (x7 + 1))] rfl ?_
  exact hk53 M x1 x2 s0 x4 x5 x6 (x7 + 1) hw
def k_O_isDifference_104 (Q : Int32 → sdM → Prop) (k5 : sdM → Int32 → Int32 → Int32 → Int32 → Prop) (k53 : sdM → Int32 → Int32 → Int32 → Int32 → Int32 → Int32 → Int32 → Prop) (M : sdM) (x1 : Int32) (x2 : Int32) (x3 : Int32) (x4 : Int32) (x5 : Int32) (x6 : Int32) (x7 : Int32) (x8 : Int32) : Prop := (x8 ≤ 0 → k_O_isDifference_116 Q k5 k53 M x1 x2 x4 x5 x6 x7 x3) ∧ (¬ x8 ≤ 0 → k_O_isDifference_116 Q k5 k53 M x1 x2 x4 x5 x6 x7 (x3 + (1 : Int32)))
set_option maxHeartbeats 1000000 in
theorem t_O_isDifference_104 (hA : sd_ad b n ad) (hT : l.stackTraces = false) (hO : isO n L dA) {Q : Int32 → sdM → Prop} {k5 : sdM → Int32 → Int32 → Int32 → Int32 → Prop} (hk5 : ∀ (M : sdM) (x1 : Int32) (x2 : Int32) (x3 : Int32) (x4 : Int32), k5 M x1 x2 x3 x4 → sdW l (sdE0 sc) Y_O_isDifference D (sd_tys dA) b n ad L ad (sd_H D (sdE0 sc).1 n ad L) (sd_qi Q) sd_xf 5 [(0, .ref 116), (1, .int x1), (2, .int x2), (3, .int x3), (4, .int x4)] [] M 0 0) {k53 : sdM → Int32 → Int32 → Int32 → Int32 → Int32 → Int32 → Int32 → Prop} (hk53 : ∀ (M : sdM) (x1 : Int32) (x2 : Int32) (x3 : Int32) (x4 : Int32) (x5 : Int32) (x6 : Int32) (x7 : Int32), k53 M x1 x2 x3 x4 x5 x6 x7 → sdW l (sdE0 sc) Y_O_isDifference D (sd_tys dA) b n ad L ad (sd_H D (sdE0 sc).1 n ad L) (sd_qi Q) sd_xf 53 [(0, .ref 116), (1, .int x1), (2, .int x2), (3, .int x3), (4, .int x4), (5, .int x5), (6, .int x6), (7, .int x7)] [] M 0 0) (M : sdM) (x1 : Int32) (x2 : Int32) (x3 : Int32) (x4 : Int32) (x5 : Int32) (x6 : Int32) (x7 : Int32) (x8 : Int32) (hw : k_O_isDifference_104 Q k5 k53 M x1 x2 x3 x4 x5 x6 x7 x8) : sdW l (sdE0 sc) Y_O_isDifference D (sd_tys dA) b n ad L ad (sd_H D (sdE0 sc).1 n ad L) (sd_qi Q) sd_xf 104 [(0, .ref 116), (1, .int x1), (2, .int x2), (3, .int x3), (4, .int x4), (5, .int x5), (6, .int x6), (7, .int x7), (8, .int x8)] [] M 0 0 := by
  unfold k_O_isDifference_104 at hw
  refine x_iload 8 8 d_O_isDifference_104 rfl ?_
  refine x_if_le 115 d_O_isDifference_106 rfl (fun hc => ?_) (fun hc => ?_)
  · have hw := hw.1 hc
    refine x_iload_n 3 3 d_O_isDifference_115 rfl rfl ?_
    refine x_sub [0, 1, 2, 4, 5, 6, 7] [(0, .ref 116), (1, .int x1), (2, .int x2), (4, .int x4), (5, .int x5), (6, .int x6), (7, .int x7)] rfl ?_
    exact t_O_isDifference_116 hA hT hO hk5 hk53 M x1 x2 x4 x5 x6 x7 x3 hw
  · have hw := hw.2 hc
    refine x_iload_n 3 3 d_O_isDifference_109 rfl rfl ?_
    refine x_iconst (v := 1) d_O_isDifference_110 (by decide) ?_
    refine x_iadd d_O_isDifference_111 ?_
    refine x_goto 116 d_O_isDifference_112 rfl ?_
    refine x_sub [0, 1, 2, 4, 5, 6, 7] [(0, .ref 116), (1, .int x1), (2, .int x2), (4, .int x4), (5, .int x5), (6, .int x6), (7, .int x7)] rfl ?_
    exact t_O_isDifference_116 hA hT hO hk5 hk53 M x1 x2 x4 x5 x6 x7 (x3 + (1 : Int32)) hw
def h_O_isDifference_53 (Q : Int32 → sdM → Prop) (k5 : sdM → Int32 → Int32 → Int32 → Int32 → Prop) : Nat → sdM → Int32 → Int32 → Int32 → Int32 → Int32 → Int32 → Int32 → Prop
  | 0, _, _, _, _, _, _, _, _ => False
  | N + 1, M, x1, x2, x3, x4, x5, x6, x7 => ((4 : Int32) ≤ x7 → k5 M x1 x2 x3 (x4 + 1)) ∧ (¬ (4 : Int32) ≤ x7 → w_O_differs M x5 x6 x7 (fun r12 M11 => (r12 ≤ 0 → k_O_isDifference_104 Q k5 (fun M x1 x2 x3 x4 x5 x6 x7 => h_O_isDifference_53 Q k5 N M x1 x2 x3 x4 x5 x6 x7) M11 x1 x2 x3 x4 x5 x6 x7 r12) ∧ (¬ r12 ≤ 0 → (¬ x3 = x2 → k_O_isDifference_104 Q k5 (fun M x1 x2 x3 x4 x5 x6 x7 => h_O_isDifference_53 Q k5 N M x1 x2 x3 x4 x5 x6 x7) M11 x1 x2 x3 x4 x5 x6 x7 r12) ∧ (x3 = x2 → ∀ M13 : sdM, M13 = sd_s M11 116 34 r12 → w_O_clashes M13 (x4 / (101 : Int32)) (x4 - x4 / (101 : Int32) * (101 : Int32)) x7 (fun r16 M15 => sdB r16 ∧ Q r16 M15)))))
set_option maxHeartbeats 1000000 in
theorem t_O_isDifference_53 (hA : sd_ad b n ad) (hT : l.stackTraces = false) (hO : isO n L dA) {Q : Int32 → sdM → Prop} {k5 : sdM → Int32 → Int32 → Int32 → Int32 → Prop} (hk5 : ∀ (M : sdM) (x1 : Int32) (x2 : Int32) (x3 : Int32) (x4 : Int32), k5 M x1 x2 x3 x4 → sdW l (sdE0 sc) Y_O_isDifference D (sd_tys dA) b n ad L ad (sd_H D (sdE0 sc).1 n ad L) (sd_qi Q) sd_xf 5 [(0, .ref 116), (1, .int x1), (2, .int x2), (3, .int x3), (4, .int x4)] [] M 0 0) (N : Nat) : ∀ (M : sdM) (x1 : Int32) (x2 : Int32) (x3 : Int32) (x4 : Int32) (x5 : Int32) (x6 : Int32) (x7 : Int32), h_O_isDifference_53 Q k5 N M x1 x2 x3 x4 x5 x6 x7 → sdW l (sdE0 sc) Y_O_isDifference D (sd_tys dA) b n ad L ad (sd_H D (sdE0 sc).1 n ad L) (sd_qi Q) sd_xf 53 [(0, .ref 116), (1, .int x1), (2, .int x2), (3, .int x3), (4, .int x4), (5, .int x5), (6, .int x6), (7, .int x7)] [] M 0 0 := by
  induction N with
  | zero => intro M x1 x2 x3 x4 x5 x6 x7 hw; exact hw.elim
  | succ N ih =>
    intro M x1 x2 x3 x4 x5 x6 x7 hw
    rw [h_O_isDifference_53] at hw
    refine x_iload 7 7 d_O_isDifference_53 rfl ?_
    refine x_iconst (v := 4) d_O_isDifference_55 (by decide) ?_
    refine x_icmp_ge 123 d_O_isDifference_56 rfl (fun hc => ?_) (fun hc => ?_)
    · have hw := hw.1 hc
      refine x_iinc 4 4 [(4, .int (x4 + 1)), (0, .ref 116), (1, .int x1), (2, .int x2), (3, .int x3), (5, .int x5), (6, .int x6), (7, .int x7)] d_O_isDifference_123 rfl (congrArg (HAdd.hAdd x4) (show Int32.ofInt 1 = 1 by decide)) (by decide) rfl ?_
      refine x_goto 5 d_O_isDifference_126 rfl ?_
      refine x_sub [1, 2, 3, 4, 0] [(0, .ref 116), (1, .int x1), (2, .int x2), (3, .int x3), (4, .int (x4 + 1))] rfl ?_
      exact hk5 M x1 x2 x3 (x4 + 1) hw
    · have hw := hw.2 hc
      refine x_aload_n 0 0 d_O_isDifference_59 rfl rfl ?_
      refine x_iload 5 5 d_O_isDifference_60 rfl ?_
      refine x_iload 6 6 d_O_isDifference_62 rfl ?_
      refine x_iload 7 7 d_O_isDifference_64 rfl ?_
      refine x_callVi (As := [.int x5, .int x6, .int x7]) (t := 116) (rest := []) (rc := 0) (rs := 0) (c_O_differs hA hT hO hw) cw_O_isDifference_O_differs_205 hO.1 hO.2.1 rfl d_O_isDifference_66 rfl rfl (Nat.le_of_ble_eq_true rfl) rfl (fun _ _ h => h.elim) (fun _ _ h => h) (fun r12 M11 hw => ?_)
      refine x_istore 8 [(8, .int r12), (0, .ref 116), (1, .int x1), (2, .int x2), (3, .int x3), (4, .int x4), (5, .int x5), (6, .int x6), (7, .int x7)] d_O_isDifference_69 (by decide) rfl ?_
      refine x_iload 8 0 d_O_isDifference_71 rfl ?_
      refine x_if_le 104 d_O_isDifference_73 rfl (fun hc => ?_) (fun hc => ?_)
      · have hw := hw.1 hc
        refine x_sub [1, 2, 3, 4, 5, 6, 7, 8, 0] [(0, .ref 116), (1, .int x1), (2, .int x2), (3, .int x3), (4, .int x4), (5, .int x5), (6, .int x6), (7, .int x7), (8, .int r12)] rfl ?_
        exact t_O_isDifference_104 hA hT hO hk5 (fun M x1 x2 x3 x4 x5 x6 x7  hw => ih M x1 x2 x3 x4 x5 x6 x7 hw) M11 x1 x2 x3 x4 x5 x6 x7 r12 hw
      · have hw := hw.2 hc
        refine x_iload_n 3 4 d_O_isDifference_76 rfl rfl ?_
        refine x_iload_n 2 3 d_O_isDifference_77 rfl rfl ?_
        refine x_icmp_ne 104 d_O_isDifference_78 rfl (fun hc => ?_) (fun hc => ?_)
        · have hw := hw.1 hc
          refine x_sub [1, 2, 3, 4, 5, 6, 7, 8, 0] [(0, .ref 116), (1, .int x1), (2, .int x2), (3, .int x3), (4, .int x4), (5, .int x5), (6, .int x6), (7, .int x7), (8, .int r12)] rfl ?_
          exact t_O_isDifference_104 hA hT hO hk5 (fun M x1 x2 x3 x4 x5 x6 x7  hw => ih M x1 x2 x3 x4 x5 x6 x7 hw) M11 x1 x2 x3 x4 x5 x6 x7 r12 hw
        · have hw := hw.2 hc
          refine x_aload_n 0 1 d_O_isDifference_81 rfl rfl ?_
          refine x_iload 8 0 d_O_isDifference_82 rfl ?_
          refine x_puti 34 (ty := .int) hA d_O_isDifference_84 hO.1 hO.2.1 rfl rfl (by decide) lay_O (List.mem_cons_of_mem _ q587) rfl ty_O ty_O_ok nm_O rfl (by decide +kernel) rfl rfl (fun M13 e14 => ?_)
          have hw := hw M13 e14
          clear e14
          refine x_aload_n 0 1 d_O_isDifference_87 rfl rfl ?_
          refine x_iload 4 5 d_O_isDifference_88 rfl ?_
          refine x_bipush (v := 101) d_O_isDifference_90 (by decide) ?_
          refine x_idiv d_O_isDifference_92 (by decide) ?_
          refine x_iload 4 5 d_O_isDifference_93 rfl ?_
          refine x_bipush (v := 101) d_O_isDifference_95 (by decide) ?_
          refine x_irem d_O_isDifference_97 (by decide) ?_
          refine x_iload 7 8 d_O_isDifference_98 rfl ?_
          refine x_callVi (As := [.int (x4 / (101 : Int32)), .int (x4 - x4 / (101 : Int32) * (101 : Int32)), .int x7]) (t := 116) (rest := []) (rc := 0) (rs := 0) (c_O_clashes hA hT hO hw) cw_O_isDifference_O_clashes_174 hO.1 hO.2.1 rfl d_O_isDifference_100 rfl rfl (Nat.le_of_ble_eq_true rfl) rfl (fun _ _ h => h.elim) (fun _ _ h => h) (fun r16 M15 hw => ?_)
          exact x_zret d_O_isDifference_103 rfl (sdB_n hw.1) (fun _ h => h) ⟨_, rfl, hw.2⟩
def h_O_isDifference_5 (Q : Int32 → sdM → Prop) : Nat → sdM → Int32 → Int32 → Int32 → Int32 → Prop
  | 0, _, _, _, _, _ => False
  | N + 1, M, x1, x2, x3, x4 => ((404 : Int32) ≤ x4 → sdB (0 : Int32) ∧ Q (0 : Int32) M) ∧ (¬ (404 : Int32) ≤ x4 → w_O_find M ((10 : Int32) + x1) (x4 / (101 : Int32)) (x4 - x4 / (101 : Int32) * (101 : Int32)) (fun r18 M17 => w_O_find M17 (0 : Int32) (x4 / (101 : Int32)) (x4 - x4 / (101 : Int32) * (101 : Int32)) (fun r20 M19 => ∃ N9 : Nat, h_O_isDifference_53 Q (fun M x1 x2 x3 x4 => h_O_isDifference_5 Q N M x1 x2 x3 x4) N9 M19 x1 x2 x3 x4 r18 r20 (-1 : Int32))))
set_option maxHeartbeats 1000000 in
theorem t_O_isDifference_5 (hA : sd_ad b n ad) (hT : l.stackTraces = false) (hO : isO n L dA) {Q : Int32 → sdM → Prop} (N : Nat) : ∀ (M : sdM) (x1 : Int32) (x2 : Int32) (x3 : Int32) (x4 : Int32), h_O_isDifference_5 Q N M x1 x2 x3 x4 → sdW l (sdE0 sc) Y_O_isDifference D (sd_tys dA) b n ad L ad (sd_H D (sdE0 sc).1 n ad L) (sd_qi Q) sd_xf 5 [(0, .ref 116), (1, .int x1), (2, .int x2), (3, .int x3), (4, .int x4)] [] M 0 0 := by
  induction N with
  | zero => intro M x1 x2 x3 x4 hw; exact hw.elim
  | succ N ih =>
    intro M x1 x2 x3 x4 hw
    rw [h_O_isDifference_5] at hw
    refine x_iload 4 4 d_O_isDifference_5 rfl ?_
    refine x_sipush (v := 404) d_O_isDifference_7 (by decide) ?_
    refine x_icmp_ge 129 d_O_isDifference_10 rfl (fun hc => ?_) (fun hc => ?_)
    · have hw := hw.1 hc
      refine x_iconst (v := 0) d_O_isDifference_129 (by decide) ?_
      exact x_zret d_O_isDifference_130 rfl (sdB_n hw.1) (fun _ h => h) ⟨_, rfl, hw.2⟩
    · have hw := hw.2 hc
      refine x_aload_n 0 0 d_O_isDifference_13 rfl rfl ?_
      refine x_bipush (v := 10) d_O_isDifference_14 (by decide) ?_
      refine x_iload_n 1 1 d_O_isDifference_16 rfl rfl ?_
      refine x_iadd d_O_isDifference_17 ?_
      refine x_iload 4 4 d_O_isDifference_18 rfl ?_
      refine x_bipush (v := 101) d_O_isDifference_20 (by decide) ?_
      refine x_idiv d_O_isDifference_22 (by decide) ?_
      refine x_iload 4 4 d_O_isDifference_23 rfl ?_
      refine x_bipush (v := 101) d_O_isDifference_25 (by decide) ?_
      refine x_irem d_O_isDifference_27 (by decide) ?_
      refine x_callVi (As := [.int ((10 : Int32) + x1), .int (x4 / (101 : Int32)), .int (x4 - x4 / (101 : Int32) * (101 : Int32))]) (t := 116) (rest := []) (rc := 0) (rs := 0) (c_O_find hA hT hO hw) cw_O_isDifference_O_find_115 hO.1 hO.2.1 rfl d_O_isDifference_28 rfl rfl (Nat.le_of_ble_eq_true rfl) rfl (fun _ _ h => h.elim) (fun _ _ h => h) (fun r18 M17 hw => ?_)
      refine x_istore 5 [(5, .int r18), (0, .ref 116), (1, .int x1), (2, .int x2), (3, .int x3), (4, .int x4)] d_O_isDifference_31 (by decide) rfl ?_
      refine x_aload_n 0 1 d_O_isDifference_33 rfl rfl ?_
      refine x_iconst (v := 0) d_O_isDifference_34 (by decide) ?_
      refine x_iload 4 5 d_O_isDifference_35 rfl ?_
      refine x_bipush (v := 101) d_O_isDifference_37 (by decide) ?_
      refine x_idiv d_O_isDifference_39 (by decide) ?_
      refine x_iload 4 5 d_O_isDifference_40 rfl ?_
      refine x_bipush (v := 101) d_O_isDifference_42 (by decide) ?_
      refine x_irem d_O_isDifference_44 (by decide) ?_
      refine x_callVi (As := [.int (0 : Int32), .int (x4 / (101 : Int32)), .int (x4 - x4 / (101 : Int32) * (101 : Int32))]) (t := 116) (rest := []) (rc := 0) (rs := 0) (c_O_find hA hT hO hw) cw_O_isDifference_O_find_115 hO.1 hO.2.1 rfl d_O_isDifference_45 rfl rfl (Nat.le_of_ble_eq_true rfl) rfl (fun _ _ h => h.elim) (fun _ _ h => h) (fun r20 M19 hw => ?_)
      refine x_istore 6 [(6, .int r20), (5, .int r18), (0, .ref 116), (1, .int x1), (2, .int x2), (3, .int x3), (4, .int x4)] d_O_isDifference_48 (by decide) rfl ?_
      refine x_iconst (v := (-1)) d_O_isDifference_50 (by decide) ?_
      refine x_istore 7 [(7, .int (-1 : Int32)), (6, .int r20), (5, .int r18), (0, .ref 116), (1, .int x1), (2, .int x2), (3, .int x3), (4, .int x4)] d_O_isDifference_51 (by decide) rfl ?_
      refine x_sub [3, 4, 5, 6, 7, 2, 1, 0] [(0, .ref 116), (1, .int x1), (2, .int x2), (3, .int x3), (4, .int x4), (5, .int r18), (6, .int r20), (7, .int (-1 : Int32))] rfl ?_
      obtain ⟨N9, hw⟩ := hw
      exact t_O_isDifference_53 hA hT hO (fun M x1 x2 x3 x4  hw => ih M x1 x2 x3 x4 hw) N9 M19 x1 x2 x3 x4 r18 r20 (-1 : Int32) hw
def w_O_isDifference (M : sdM) (a1 : Int32) (a2 : Int32) (Q : Int32 → sdM → Prop) : Prop := ∃ N9 : Nat, h_O_isDifference_5 Q N9 M a1 a2 (0 : Int32) (0 : Int32)
set_option maxHeartbeats 1000000 in
theorem c_O_isDifference {a1 : Int32} {a2 : Int32} (hA : sd_ad b n ad) (hT : l.stackTraces = false) (hO : isO n L dA) {Q : Int32 → sdM → Prop} {M : sdM} (hw : w_O_isDifference M a1 a2 Q) : sd_Cn l (sdE0 sc) y_O_isDifference Y_O_isDifference.2.2.2.2.1 Y_O_isDifference.2.2.2.2.2.1 0 0 D (sd_tys dA) b n ad L M [.ref 116, .int a1, .int a2] (sd_qi Q) sd_xf := by
  refine sd_enter (Y := Y_O_isDifference) rfl rfl rfl rfl (Nat.le_of_ble_eq_true rfl) ?_
  show sdW l (sdE0 sc) Y_O_isDifference D (sd_tys dA) b n ad L ad (sd_H D (sdE0 sc).1 n ad L) (sd_qi Q) sd_xf 0 [(0, .ref 116), (1, .int a1), (2, .int a2)] [] M 0 0
  unfold w_O_isDifference at hw
  refine x_iconst (v := 0) d_O_isDifference_0 (by decide) ?_
  refine x_istore_n 3 [(3, .int (0 : Int32)), (0, .ref 116), (1, .int a1), (2, .int a2)] d_O_isDifference_1 rfl (by decide) rfl ?_
  refine x_iconst (v := 0) d_O_isDifference_2 (by decide) ?_
  refine x_istore 4 [(4, .int (0 : Int32)), (3, .int (0 : Int32)), (0, .ref 116), (1, .int a1), (2, .int a2)] d_O_isDifference_3 (by decide) rfl ?_
  refine x_sub [2, 3, 4, 1, 0] [(0, .ref 116), (1, .int a1), (2, .int a2), (3, .int (0 : Int32)), (4, .int (0 : Int32))] rfl ?_
  obtain ⟨N9, hw⟩ := hw
  exact t_O_isDifference_5 hA hT hO N9 M a1 a2 (0 : Int32) (0 : Int32) hw
end
theorem q592 : (.methodLink "SettingsDeskModel" 211 ⟨"SettingsDeskModel", "isDifference", "(II)Z"⟩ : Cond) ∈ sdB0 := sd_tb5 201 rfl rfl
theorem q593 : (.code ⟨"SettingsDeskModel", "isDifference", "(II)Z"⟩ prog_12_method_46_code 9 (some .boolean) : Cond) ∈ sdB0 := sd_tb5 204 rfl rfl
theorem q594 : (.instanceMethod ⟨"SettingsDeskModel", "isDifference", "(II)Z"⟩ : Cond) ∈ sdB0 := sd_tb5 203 rfl rfl
theorem q595 : (.selects "SettingsDeskModel" ⟨"SettingsDeskModel", "isDifference", "(II)Z"⟩ ⟨"SettingsDeskModel", "isDifference", "(II)Z"⟩ : Cond) ∈ sdB0 := sd_tbp (q := (⟨"SettingsDeskModel", "isDifference", "(II)Z"⟩, 35)) (List.mem_of_getElem? (i := 41) rfl)
abbrev y_O_diff : MethodName := ⟨"SettingsDeskModel", "diff", "(III)I"⟩
theorem d_O_diff_0 : decode prog_12_method_47_code 0 = .ok (.aload_n 0, 1) := by decide +kernel
theorem d_O_diff_1 : decode prog_12_method_47_code 1 = .ok (.aload_n 0, 1) := by decide +kernel
theorem d_O_diff_2 : decode prog_12_method_47_code 2 = .ok (.iload_n 1, 1) := by decide +kernel
theorem d_O_diff_3 : decode prog_12_method_47_code 3 = .ok (.invokevirtual 171, 3) := by decide +kernel
theorem d_O_diff_6 : decode prog_12_method_47_code 6 = .ok (.putfield 69, 3) := by decide +kernel
theorem d_O_diff_9 : decode prog_12_method_47_code 9 = .ok (.aload_n 0, 1) := by decide +kernel
theorem d_O_diff_10 : decode prog_12_method_47_code 10 = .ok (.getfield 69, 3) := by decide +kernel
theorem d_O_diff_13 : decode prog_12_method_47_code 13 = .ok (.ifCond .le (5), 3) := by decide +kernel
theorem d_O_diff_16 : decode prog_12_method_47_code 16 = .ok (.iconst 0, 1) := by decide +kernel
theorem d_O_diff_17 : decode prog_12_method_47_code 17 = .ok (.ireturn, 1) := by decide +kernel
theorem d_O_diff_18 : decode prog_12_method_47_code 18 = .ok (.aload_n 0, 1) := by decide +kernel
theorem d_O_diff_19 : decode prog_12_method_47_code 19 = .ok (.iload_n 3, 1) := by decide +kernel
theorem d_O_diff_20 : decode prog_12_method_47_code 20 = .ok (.ifCond .lt (17), 3) := by decide +kernel
theorem d_O_diff_23 : decode prog_12_method_47_code 23 = .ok (.iload_n 3, 1) := by decide +kernel
theorem d_O_diff_24 : decode prog_12_method_47_code 24 = .ok (.iconst 3, 1) := by decide +kernel
theorem d_O_diff_25 : decode prog_12_method_47_code 25 = .ok (.if_icmp .gt (12), 3) := by decide +kernel
theorem d_O_diff_28 : decode prog_12_method_47_code 28 = .ok (.aload_n 0, 1) := by decide +kernel
theorem d_O_diff_29 : decode prog_12_method_47_code 29 = .ok (.iload_n 1, 1) := by decide +kernel
theorem d_O_diff_30 : decode prog_12_method_47_code 30 = .ok (.iload_n 2, 1) := by decide +kernel
theorem d_O_diff_31 : decode prog_12_method_47_code 31 = .ok (.invokevirtual 211, 3) := by decide +kernel
theorem d_O_diff_34 : decode prog_12_method_47_code 34 = .ok (.ifCond .ne (7), 3) := by decide +kernel
theorem d_O_diff_37 : decode prog_12_method_47_code 37 = .ok (.iconst 2, 1) := by decide +kernel
theorem d_O_diff_38 : decode prog_12_method_47_code 38 = .ok (.goto (4), 3) := by decide +kernel
theorem d_O_diff_41 : decode prog_12_method_47_code 41 = .ok (.iconst 0, 1) := by decide +kernel
theorem d_O_diff_42 : decode prog_12_method_47_code 42 = .ok (.putfield 69, 3) := by decide +kernel
theorem d_O_diff_45 : decode prog_12_method_47_code 45 = .ok (.aload_n 0, 1) := by decide +kernel
theorem d_O_diff_46 : decode prog_12_method_47_code 46 = .ok (.getfield 69, 3) := by decide +kernel
theorem d_O_diff_49 : decode prog_12_method_47_code 49 = .ok (.ifCond .le (7), 3) := by decide +kernel
theorem d_O_diff_52 : decode prog_12_method_47_code 52 = .ok (.iconst 0, 1) := by decide +kernel
theorem d_O_diff_53 : decode prog_12_method_47_code 53 = .ok (.goto (42), 3) := by decide +kernel
theorem d_O_diff_56 : decode prog_12_method_47_code 56 = .ok (.iload_n 3, 1) := by decide +kernel
theorem d_O_diff_57 : decode prog_12_method_47_code 57 = .ok (.ifCond .ne (10), 3) := by decide +kernel
theorem d_O_diff_60 : decode prog_12_method_47_code 60 = .ok (.aload_n 0, 1) := by decide +kernel
theorem d_O_diff_61 : decode prog_12_method_47_code 61 = .ok (.getfield 132, 3) := by decide +kernel
theorem d_O_diff_64 : decode prog_12_method_47_code 64 = .ok (.goto (31), 3) := by decide +kernel
theorem d_O_diff_67 : decode prog_12_method_47_code 67 = .ok (.iload_n 3, 1) := by decide +kernel
theorem d_O_diff_68 : decode prog_12_method_47_code 68 = .ok (.iconst 1, 1) := by decide +kernel
theorem d_O_diff_69 : decode prog_12_method_47_code 69 = .ok (.if_icmp .ne (10), 3) := by decide +kernel
theorem d_O_diff_72 : decode prog_12_method_47_code 72 = .ok (.aload_n 0, 1) := by decide +kernel
theorem d_O_diff_73 : decode prog_12_method_47_code 73 = .ok (.getfield 135, 3) := by decide +kernel
theorem d_O_diff_76 : decode prog_12_method_47_code 76 = .ok (.goto (19), 3) := by decide +kernel
theorem d_O_diff_79 : decode prog_12_method_47_code 79 = .ok (.iload_n 3, 1) := by decide +kernel
theorem d_O_diff_80 : decode prog_12_method_47_code 80 = .ok (.iconst 2, 1) := by decide +kernel
theorem d_O_diff_81 : decode prog_12_method_47_code 81 = .ok (.if_icmp .ne (10), 3) := by decide +kernel
theorem d_O_diff_84 : decode prog_12_method_47_code 84 = .ok (.aload_n 0, 1) := by decide +kernel
theorem d_O_diff_85 : decode prog_12_method_47_code 85 = .ok (.getfield 126, 3) := by decide +kernel
theorem d_O_diff_88 : decode prog_12_method_47_code 88 = .ok (.goto (7), 3) := by decide +kernel
theorem d_O_diff_91 : decode prog_12_method_47_code 91 = .ok (.aload_n 0, 1) := by decide +kernel
theorem d_O_diff_92 : decode prog_12_method_47_code 92 = .ok (.getfield 208, 3) := by decide +kernel
theorem d_O_diff_95 : decode prog_12_method_47_code 95 = .ok (.ireturn, 1) := by decide +kernel
def Y_O_diff : sdY := ("SettingsDeskModel", prog_12_method_47_code, 4, (some .int), .code y_O_diff prog_12_method_47_code 4 (some .int) :: sdB0, { frames := 4, cells := 0, slots := 0, locals := 98 }, 0, 0, [])
theorem cw_O_diff_O_needs_171 : sd_cwV Y_O_diff Y_O_needs y_O_needs 171 1 "SettingsDeskModel" := ⟨sd_goodV q562 q564 q565 q459 q563, ⟨_, rfl⟩, ⟨rfl, rfl, rfl, rfl⟩, ⟨rfl, by decide, by decide, by decide +kernel⟩, ⟨by decide, by decide⟩⟩
theorem cw_O_diff_O_isDifference_211 : sd_cwV Y_O_diff Y_O_isDifference y_O_isDifference 211 2 "SettingsDeskModel" := ⟨sd_goodV q592 q594 q595 q459 q593, ⟨_, rfl⟩, ⟨rfl, rfl, rfl, rfl⟩, ⟨rfl, by decide, by decide, by decide +kernel⟩, ⟨by decide, by decide⟩⟩
section
variable {l : Launch} {D : va_G} {dA : Nat → ClassId} {b n : Nat} {ad : Nat → Nat} {L : Nat → sdL} {sc : Option (Nat × Nat × (Nat → Int32))}
def k_O_diff_95 (Q : Int32 → sdM → Prop) (M : sdM) (s0 : Int32) : Prop := Q s0 M
set_option maxHeartbeats 1000000 in
theorem t_O_diff_95 (hA : sd_ad b n ad) (hT : l.stackTraces = false) (hO : isO n L dA) {Q : Int32 → sdM → Prop} (M : sdM) (s0 : Int32) (hw : k_O_diff_95 Q M s0) : sdW l (sdE0 sc) Y_O_diff D (sd_tys dA) b n ad L ad (sd_H D (sdE0 sc).1 n ad L) (sd_qi Q) sd_xf 95 [] [.int s0] M 0 0 := by
  unfold k_O_diff_95 at hw
  exact x_iret d_O_diff_95 rfl (fun _ h => h) ⟨_, rfl, hw⟩
def k_O_diff_42 (Q : Int32 → sdM → Prop) (M : sdM) (x3 : Int32) (s1 : Int32) : Prop := ∀ M9 : sdM, M9 = sd_s M 116 0 s1 → ((M9 116 0) ≤ 0 → (¬ x3 = 0 → (¬ x3 = (1 : Int32) → (¬ x3 = (2 : Int32) → k_O_diff_95 Q M9 (M9 116 34)) ∧ (x3 = (2 : Int32) → k_O_diff_95 Q M9 (M9 116 33))) ∧ (x3 = (1 : Int32) → k_O_diff_95 Q M9 (M9 116 32))) ∧ (x3 = 0 → k_O_diff_95 Q M9 (M9 116 31))) ∧ (¬ (M9 116 0) ≤ 0 → k_O_diff_95 Q M9 (0 : Int32))
set_option maxHeartbeats 1000000 in
theorem t_O_diff_42 (hA : sd_ad b n ad) (hT : l.stackTraces = false) (hO : isO n L dA) {Q : Int32 → sdM → Prop} (M : sdM) (x3 : Int32) (s1 : Int32) (hw : k_O_diff_42 Q M x3 s1) : sdW l (sdE0 sc) Y_O_diff D (sd_tys dA) b n ad L ad (sd_H D (sdE0 sc).1 n ad L) (sd_qi Q) sd_xf 42 [(0, .ref 116), (3, .int x3)] [.int s1, .ref 116] M 0 0 := by
  unfold k_O_diff_42 at hw
  refine x_puti 0 (ty := .int) hA d_O_diff_42 hO.1 hO.2.1 rfl rfl (by decide) lay_O (List.mem_cons_of_mem _ q446) rfl ty_O ty_O_ok nm_O rfl (by decide +kernel) rfl rfl (fun M9 e10 => ?_)
  have hw := hw M9 e10
  clear e10
  refine x_aload_n 0 0 d_O_diff_45 rfl rfl ?_
  refine x_geti 0 d_O_diff_46 hO.1 hO.2.1 rfl rfl (by decide) lay_O (List.mem_cons_of_mem _ q446) rfl ?_
  refine x_if_le 56 d_O_diff_49 rfl (fun hc => ?_) (fun hc => ?_)
  · have hw := hw.1 hc
    refine x_iload_n 3 1 d_O_diff_56 rfl rfl ?_
    refine x_if_ne 67 d_O_diff_57 rfl (fun hc => ?_) (fun hc => ?_)
    · have hw := hw.1 hc
      refine x_iload_n 3 1 d_O_diff_67 rfl rfl ?_
      refine x_iconst (v := 1) d_O_diff_68 (by decide) ?_
      refine x_icmp_ne 79 d_O_diff_69 rfl (fun hc => ?_) (fun hc => ?_)
      · have hw := hw.1 hc
        refine x_iload_n 3 1 d_O_diff_79 rfl rfl ?_
        refine x_iconst (v := 2) d_O_diff_80 (by decide) ?_
        refine x_icmp_ne 91 d_O_diff_81 rfl (fun hc => ?_) (fun hc => ?_)
        · have hw := hw.1 hc
          refine x_aload_n 0 0 d_O_diff_91 rfl rfl ?_
          refine x_geti 34 d_O_diff_92 hO.1 hO.2.1 rfl rfl (by decide) lay_O (List.mem_cons_of_mem _ q587) rfl ?_
          refine x_sub [] [] rfl ?_
          exact t_O_diff_95 hA hT hO M9 (M9 116 34) hw
        · have hw := hw.2 hc
          refine x_aload_n 0 0 d_O_diff_84 rfl rfl ?_
          refine x_geti 33 d_O_diff_85 hO.1 hO.2.1 rfl rfl (by decide) lay_O (List.mem_cons_of_mem _ q496) rfl ?_
          refine x_goto 95 d_O_diff_88 rfl ?_
          refine x_sub [] [] rfl ?_
          exact t_O_diff_95 hA hT hO M9 (M9 116 33) hw
      · have hw := hw.2 hc
        refine x_aload_n 0 0 d_O_diff_72 rfl rfl ?_
        refine x_geti 32 d_O_diff_73 hO.1 hO.2.1 rfl rfl (by decide) lay_O (List.mem_cons_of_mem _ q506) rfl ?_
        refine x_goto 95 d_O_diff_76 rfl ?_
        refine x_sub [] [] rfl ?_
        exact t_O_diff_95 hA hT hO M9 (M9 116 32) hw
    · have hw := hw.2 hc
      refine x_aload_n 0 0 d_O_diff_60 rfl rfl ?_
      refine x_geti 31 d_O_diff_61 hO.1 hO.2.1 rfl rfl (by decide) lay_O (List.mem_cons_of_mem _ q505) rfl ?_
      refine x_goto 95 d_O_diff_64 rfl ?_
      refine x_sub [] [] rfl ?_
      exact t_O_diff_95 hA hT hO M9 (M9 116 31) hw
  · have hw := hw.2 hc
    refine x_iconst (v := 0) d_O_diff_52 (by decide) ?_
    refine x_goto 95 d_O_diff_53 rfl ?_
    refine x_sub [] [] rfl ?_
    exact t_O_diff_95 hA hT hO M9 (0 : Int32) hw
def k_O_diff_37 (Q : Int32 → sdM → Prop) (M : sdM) (x3 : Int32) : Prop := k_O_diff_42 Q M x3 (2 : Int32)
set_option maxHeartbeats 1000000 in
theorem t_O_diff_37 (hA : sd_ad b n ad) (hT : l.stackTraces = false) (hO : isO n L dA) {Q : Int32 → sdM → Prop} (M : sdM) (x3 : Int32) (hw : k_O_diff_37 Q M x3) : sdW l (sdE0 sc) Y_O_diff D (sd_tys dA) b n ad L ad (sd_H D (sdE0 sc).1 n ad L) (sd_qi Q) sd_xf 37 [(0, .ref 116), (3, .int x3)] [.ref 116] M 0 0 := by
  unfold k_O_diff_37 at hw
  refine x_iconst (v := 2) d_O_diff_37 (by decide) ?_
  refine x_goto 42 d_O_diff_38 rfl ?_
  exact t_O_diff_42 hA hT hO M x3 (2 : Int32) hw
def w_O_diff (M : sdM) (a1 : Int32) (a2 : Int32) (a3 : Int32) (Q : Int32 → sdM → Prop) : Prop := w_O_needs M a1 (fun r12 M11 => ∀ M13 : sdM, M13 = sd_s M11 116 0 r12 → ((M13 116 0) ≤ 0 → (a3 < 0 → k_O_diff_37 Q M13 a3) ∧ (¬ a3 < 0 → ((3 : Int32) < a3 → k_O_diff_37 Q M13 a3) ∧ (¬ (3 : Int32) < a3 → w_O_isDifference M13 a1 a2 (fun r16 M15 => (¬ r16 = 0 → k_O_diff_42 Q M15 a3 (0 : Int32)) ∧ (r16 = 0 → k_O_diff_37 Q M15 a3))))) ∧ (¬ (M13 116 0) ≤ 0 → Q (0 : Int32) M13))
set_option maxHeartbeats 1000000 in
theorem c_O_diff {a1 : Int32} {a2 : Int32} {a3 : Int32} (hA : sd_ad b n ad) (hT : l.stackTraces = false) (hO : isO n L dA) {Q : Int32 → sdM → Prop} {M : sdM} (hw : w_O_diff M a1 a2 a3 Q) : sd_Cn l (sdE0 sc) y_O_diff Y_O_diff.2.2.2.2.1 Y_O_diff.2.2.2.2.2.1 0 0 D (sd_tys dA) b n ad L M [.ref 116, .int a1, .int a2, .int a3] (sd_qi Q) sd_xf := by
  refine sd_enter (Y := Y_O_diff) rfl rfl rfl rfl (Nat.le_of_ble_eq_true rfl) ?_
  show sdW l (sdE0 sc) Y_O_diff D (sd_tys dA) b n ad L ad (sd_H D (sdE0 sc).1 n ad L) (sd_qi Q) sd_xf 0 [(0, .ref 116), (1, .int a1), (2, .int a2), (3, .int a3)] [] M 0 0
  unfold w_O_diff at hw
  refine x_aload_n 0 0 d_O_diff_0 rfl rfl ?_
  refine x_aload_n 0 0 d_O_diff_1 rfl rfl ?_
  refine x_iload_n 1 1 d_O_diff_2 rfl rfl ?_
  refine x_callVi (As := [.int a1]) (t := 116) (rest := [.ref 116]) (rc := 0) (rs := 0) (c_O_needs hA hT hO hw) cw_O_diff_O_needs_171 hO.1 hO.2.1 rfl d_O_diff_3 rfl rfl (Nat.le_of_ble_eq_true rfl) rfl (fun _ _ h => h.elim) (fun _ _ h => h) (fun r12 M11 hw => ?_)
  refine x_puti 0 (ty := .int) hA d_O_diff_6 hO.1 hO.2.1 rfl rfl (by decide) lay_O (List.mem_cons_of_mem _ q446) rfl ty_O ty_O_ok nm_O rfl (by decide +kernel) rfl rfl (fun M13 e14 => ?_)
  have hw := hw M13 e14
  clear e14
  refine x_aload_n 0 0 d_O_diff_9 rfl rfl ?_
  refine x_geti 0 d_O_diff_10 hO.1 hO.2.1 rfl rfl (by decide) lay_O (List.mem_cons_of_mem _ q446) rfl ?_
  refine x_if_le 18 d_O_diff_13 rfl (fun hc => ?_) (fun hc => ?_)
  · have hw := hw.1 hc
    refine x_aload_n 0 0 d_O_diff_18 rfl rfl ?_
    refine x_iload_n 3 3 d_O_diff_19 rfl rfl ?_
    refine x_if_lt 37 d_O_diff_20 rfl (fun hc => ?_) (fun hc => ?_)
    · have hw := hw.1 hc
      refine x_sub [0, 3] [(0, .ref 116), (3, .int a3)] rfl ?_
      exact t_O_diff_37 hA hT hO M13 a3 hw
    · have hw := hw.2 hc
      refine x_iload_n 3 3 d_O_diff_23 rfl rfl ?_
      refine x_iconst (v := 3) d_O_diff_24 (by decide) ?_
      refine x_icmp_gt 37 d_O_diff_25 rfl (fun hc => ?_) (fun hc => ?_)
      · have hw := hw.1 hc
        refine x_sub [0, 3] [(0, .ref 116), (3, .int a3)] rfl ?_
        exact t_O_diff_37 hA hT hO M13 a3 hw
      · have hw := hw.2 hc
        refine x_aload_n 0 0 d_O_diff_28 rfl rfl ?_
        refine x_iload_n 1 1 d_O_diff_29 rfl rfl ?_
        refine x_iload_n 2 2 d_O_diff_30 rfl rfl ?_
        refine x_callVi (As := [.int a1, .int a2]) (t := 116) (rest := [.ref 116]) (rc := 0) (rs := 0) (c_O_isDifference hA hT hO hw) cw_O_diff_O_isDifference_211 hO.1 hO.2.1 rfl d_O_diff_31 rfl rfl (Nat.le_of_ble_eq_true rfl) rfl (fun _ _ h => h.elim) (fun _ _ h => h) (fun r16 M15 hw => ?_)
        refine x_if_ne 41 d_O_diff_34 rfl (fun hc => ?_) (fun hc => ?_)
        · have hw := hw.1 hc
          refine x_iconst (v := 0) d_O_diff_41 (by decide) ?_
          refine x_sub [0, 3] [(0, .ref 116), (3, .int a3)] rfl ?_
          exact t_O_diff_42 hA hT hO M15 a3 (0 : Int32) hw
        · have hw := hw.2 hc
          refine x_sub [0, 3] [(0, .ref 116), (3, .int a3)] rfl ?_
          exact t_O_diff_37 hA hT hO M15 a3 hw
  · have hw := hw.2 hc
    refine x_iconst (v := 0) d_O_diff_16 (by decide) ?_
    exact x_iret d_O_diff_17 rfl (fun _ h => h) ⟨_, rfl, hw⟩
end
theorem q596 : (.fieldLink "SettingsDeskModel" 214 "SettingsDeskModel" "failing" "I" : Cond) ∈ sdB0 := sd_tb4 185 rfl rfl
abbrev y_O_save : MethodName := ⟨"SettingsDeskModel", "save", "()I"⟩
theorem d_O_save_0 : decode prog_12_method_48_code 0 = .ok (.aload_n 0, 1) := by decide +kernel
theorem d_O_save_1 : decode prog_12_method_48_code 1 = .ok (.aload_n 0, 1) := by decide +kernel
theorem d_O_save_2 : decode prog_12_method_48_code 2 = .ok (.invokevirtual 153, 3) := by decide +kernel
theorem d_O_save_5 : decode prog_12_method_48_code 5 = .ok (.ifCond .eq (7), 3) := by decide +kernel
theorem d_O_save_8 : decode prog_12_method_48_code 8 = .ok (.iconst 1, 1) := by decide +kernel
theorem d_O_save_9 : decode prog_12_method_48_code 9 = .ok (.goto (4), 3) := by decide +kernel
theorem d_O_save_12 : decode prog_12_method_48_code 12 = .ok (.iconst 0, 1) := by decide +kernel
theorem d_O_save_13 : decode prog_12_method_48_code 13 = .ok (.putfield 69, 3) := by decide +kernel
theorem d_O_save_16 : decode prog_12_method_48_code 16 = .ok (.aload_n 0, 1) := by decide +kernel
theorem d_O_save_17 : decode prog_12_method_48_code 17 = .ok (.getfield 69, 3) := by decide +kernel
theorem d_O_save_20 : decode prog_12_method_48_code 20 = .ok (.ifCond .le (5), 3) := by decide +kernel
theorem d_O_save_23 : decode prog_12_method_48_code 23 = .ok (.iconst 0, 1) := by decide +kernel
theorem d_O_save_24 : decode prog_12_method_48_code 24 = .ok (.ireturn, 1) := by decide +kernel
theorem d_O_save_25 : decode prog_12_method_48_code 25 = .ok (.iconst 1, 1) := by decide +kernel
theorem d_O_save_26 : decode prog_12_method_48_code 26 = .ok (.aload_n 0, 1) := by decide +kernel
theorem d_O_save_27 : decode prog_12_method_48_code 27 = .ok (.getfield 51, 3) := by decide +kernel
theorem d_O_save_30 : decode prog_12_method_48_code 30 = .ok (.iconst 0, 1) := by decide +kernel
theorem d_O_save_31 : decode prog_12_method_48_code 31 = .ok (.iaload, 1) := by decide +kernel
theorem d_O_save_32 : decode prog_12_method_48_code 32 = .ok (.iadd, 1) := by decide +kernel
theorem d_O_save_33 : decode prog_12_method_48_code 33 = .ok (.aload_n 0, 1) := by decide +kernel
theorem d_O_save_34 : decode prog_12_method_48_code 34 = .ok (.getfield 51, 3) := by decide +kernel
theorem d_O_save_37 : decode prog_12_method_48_code 37 = .ok (.iconst 1, 1) := by decide +kernel
theorem d_O_save_38 : decode prog_12_method_48_code 38 = .ok (.iaload, 1) := by decide +kernel
theorem d_O_save_39 : decode prog_12_method_48_code 39 = .ok (.iadd, 1) := by decide +kernel
theorem d_O_save_40 : decode prog_12_method_48_code 40 = .ok (.aload_n 0, 1) := by decide +kernel
theorem d_O_save_41 : decode prog_12_method_48_code 41 = .ok (.getfield 51, 3) := by decide +kernel
theorem d_O_save_44 : decode prog_12_method_48_code 44 = .ok (.iconst 2, 1) := by decide +kernel
theorem d_O_save_45 : decode prog_12_method_48_code 45 = .ok (.iaload, 1) := by decide +kernel
theorem d_O_save_46 : decode prog_12_method_48_code 46 = .ok (.iadd, 1) := by decide +kernel
theorem d_O_save_47 : decode prog_12_method_48_code 47 = .ok (.aload_n 0, 1) := by decide +kernel
theorem d_O_save_48 : decode prog_12_method_48_code 48 = .ok (.getfield 51, 3) := by decide +kernel
theorem d_O_save_51 : decode prog_12_method_48_code 51 = .ok (.iconst 3, 1) := by decide +kernel
theorem d_O_save_52 : decode prog_12_method_48_code 52 = .ok (.iaload, 1) := by decide +kernel
theorem d_O_save_53 : decode prog_12_method_48_code 53 = .ok (.iadd, 1) := by decide +kernel
theorem d_O_save_54 : decode prog_12_method_48_code 54 = .ok (.istore_n 1, 1) := by decide +kernel
theorem d_O_save_55 : decode prog_12_method_48_code 55 = .ok (.aload_n 0, 1) := by decide +kernel
theorem d_O_save_56 : decode prog_12_method_48_code 56 = .ok (.aload_n 0, 1) := by decide +kernel
theorem d_O_save_57 : decode prog_12_method_48_code 57 = .ok (.getfield 214, 3) := by decide +kernel
theorem d_O_save_60 : decode prog_12_method_48_code 60 = .ok (.ifCond .le (15), 3) := by decide +kernel
theorem d_O_save_63 : decode prog_12_method_48_code 63 = .ok (.aload_n 0, 1) := by decide +kernel
theorem d_O_save_64 : decode prog_12_method_48_code 64 = .ok (.getfield 214, 3) := by decide +kernel
theorem d_O_save_67 : decode prog_12_method_48_code 67 = .ok (.iload_n 1, 1) := by decide +kernel
theorem d_O_save_68 : decode prog_12_method_48_code 68 = .ok (.if_icmp .gt (7), 3) := by decide +kernel
theorem d_O_save_71 : decode prog_12_method_48_code 71 = .ok (.iconst 1, 1) := by decide +kernel
theorem d_O_save_72 : decode prog_12_method_48_code 72 = .ok (.goto (4), 3) := by decide +kernel
theorem d_O_save_75 : decode prog_12_method_48_code 75 = .ok (.iconst 0, 1) := by decide +kernel
theorem d_O_save_76 : decode prog_12_method_48_code 76 = .ok (.putfield 76, 3) := by decide +kernel
theorem d_O_save_79 : decode prog_12_method_48_code 79 = .ok (.aload_n 0, 1) := by decide +kernel
theorem d_O_save_80 : decode prog_12_method_48_code 80 = .ok (.getfield 214, 3) := by decide +kernel
theorem d_O_save_83 : decode prog_12_method_48_code 83 = .ok (.ifCond .eq (11), 3) := by decide +kernel
theorem d_O_save_86 : decode prog_12_method_48_code 86 = .ok (.aload_n 0, 1) := by decide +kernel
theorem d_O_save_87 : decode prog_12_method_48_code 87 = .ok (.getfield 214, 3) := by decide +kernel
theorem d_O_save_90 : decode prog_12_method_48_code 90 = .ok (.iload_n 1, 1) := by decide +kernel
theorem d_O_save_91 : decode prog_12_method_48_code 91 = .ok (.if_icmp .lt (7), 3) := by decide +kernel
theorem d_O_save_94 : decode prog_12_method_48_code 94 = .ok (.iconst 1, 1) := by decide +kernel
theorem d_O_save_95 : decode prog_12_method_48_code 95 = .ok (.goto (4), 3) := by decide +kernel
theorem d_O_save_98 : decode prog_12_method_48_code 98 = .ok (.iconst 0, 1) := by decide +kernel
theorem d_O_save_99 : decode prog_12_method_48_code 99 = .ok (.istore_n 2, 1) := by decide +kernel
theorem d_O_save_100 : decode prog_12_method_48_code 100 = .ok (.aload_n 0, 1) := by decide +kernel
theorem d_O_save_101 : decode prog_12_method_48_code 101 = .ok (.aload_n 0, 1) := by decide +kernel
theorem d_O_save_102 : decode prog_12_method_48_code 102 = .ok (.getfield 214, 3) := by decide +kernel
theorem d_O_save_105 : decode prog_12_method_48_code 105 = .ok (.iload_n 1, 1) := by decide +kernel
theorem d_O_save_106 : decode prog_12_method_48_code 106 = .ok (.if_icmp .le (12), 3) := by decide +kernel
theorem d_O_save_109 : decode prog_12_method_48_code 109 = .ok (.aload_n 0, 1) := by decide +kernel
theorem d_O_save_110 : decode prog_12_method_48_code 110 = .ok (.getfield 214, 3) := by decide +kernel
theorem d_O_save_113 : decode prog_12_method_48_code 113 = .ok (.iload_n 1, 1) := by decide +kernel
theorem d_O_save_114 : decode prog_12_method_48_code 114 = .ok (.isub, 1) := by decide +kernel
theorem d_O_save_115 : decode prog_12_method_48_code 115 = .ok (.goto (4), 3) := by decide +kernel
theorem d_O_save_118 : decode prog_12_method_48_code 118 = .ok (.iconst 0, 1) := by decide +kernel
theorem d_O_save_119 : decode prog_12_method_48_code 119 = .ok (.putfield 214, 3) := by decide +kernel
theorem d_O_save_122 : decode prog_12_method_48_code 122 = .ok (.iload_n 2, 1) := by decide +kernel
theorem d_O_save_123 : decode prog_12_method_48_code 123 = .ok (.ifCond .ne (5), 3) := by decide +kernel
theorem d_O_save_126 : decode prog_12_method_48_code 126 = .ok (.iconst (-1), 1) := by decide +kernel
theorem d_O_save_127 : decode prog_12_method_48_code 127 = .ok (.ireturn, 1) := by decide +kernel
theorem d_O_save_128 : decode prog_12_method_48_code 128 = .ok (.aload_n 0, 1) := by decide +kernel
theorem d_O_save_129 : decode prog_12_method_48_code 129 = .ok (.iconst 0, 1) := by decide +kernel
theorem d_O_save_130 : decode prog_12_method_48_code 130 = .ok (.iconst 1, 1) := by decide +kernel
theorem d_O_save_131 : decode prog_12_method_48_code 131 = .ok (.invokevirtual 144, 3) := by decide +kernel
theorem d_O_save_134 : decode prog_12_method_48_code 134 = .ok (.iload_n 1, 1) := by decide +kernel
theorem d_O_save_135 : decode prog_12_method_48_code 135 = .ok (.ireturn, 1) := by decide +kernel
def Y_O_save : sdY := ("SettingsDeskModel", prog_12_method_48_code, 3, (some .int), .code y_O_save prog_12_method_48_code 3 (some .int) :: sdB0, { frames := 2, cells := 0, slots := 0, locals := 46 }, 0, 0, [])
theorem cw_O_save_O_isDown_153 : sd_cwV Y_O_save Y_O_isDown y_O_isDown 153 0 "SettingsDeskModel" := ⟨sd_goodV q520 q522 q523 q459 q521, ⟨_, rfl⟩, ⟨rfl, rfl, rfl, rfl⟩, ⟨rfl, by decide, by decide, by decide +kernel⟩, ⟨by decide, by decide⟩⟩
theorem cw_O_save_O_copy_144 : sd_cwV Y_O_save Y_O_copy y_O_copy 144 2 "SettingsDeskModel" := ⟨sd_goodV q527 q529 q530 q459 q528, ⟨_, rfl⟩, ⟨rfl, rfl, rfl, rfl⟩, ⟨rfl, by decide, by decide, by decide +kernel⟩, ⟨by decide, by decide⟩⟩
section
variable {l : Launch} {D : va_G} {dA : Nat → ClassId} {b n : Nat} {ad : Nat → Nat} {L : Nat → sdL} {sc : Option (Nat × Nat × (Nat → Int32))}
def k_O_save_119 (Q : Int32 → sdM → Prop) (M : sdM) (x1 : Int32) (x2 : Int32) (s1 : Int32) : Prop := ∀ M15 : sdM, M15 = sd_s M 116 26 s1 → (¬ x2 = 0 → w_O_copy M15 (0 : Int32) (1 : Int32) (fun M17 => Q x1 M17)) ∧ (x2 = 0 → Q (-1 : Int32) M15)
set_option maxHeartbeats 1000000 in
theorem t_O_save_119 (hA : sd_ad b n ad) (hT : l.stackTraces = false) (hO : isO n L dA) {Q : Int32 → sdM → Prop} (M : sdM) (x1 : Int32) (x2 : Int32) (s1 : Int32) (hw : k_O_save_119 Q M x1 x2 s1) : sdW l (sdE0 sc) Y_O_save D (sd_tys dA) b n ad L ad (sd_H D (sdE0 sc).1 n ad L) (sd_qi Q) sd_xf 119 [(0, .ref 116), (1, .int x1), (2, .int x2)] [.int s1, .ref 116] M 0 0 := by
  unfold k_O_save_119 at hw
  refine x_puti 26 (ty := .int) hA d_O_save_119 hO.1 hO.2.1 rfl rfl (by decide) lay_O (List.mem_cons_of_mem _ q596) rfl ty_O ty_O_ok nm_O rfl (by decide +kernel) rfl rfl (fun M15 e16 => ?_)
  have hw := hw M15 e16
  clear e16
  refine x_iload_n 2 2 d_O_save_122 rfl rfl ?_
  refine x_if_ne 128 d_O_save_123 rfl (fun hc => ?_) (fun hc => ?_)
  · have hw := hw.1 hc
    refine x_aload_n 0 0 d_O_save_128 rfl rfl ?_
    refine x_iconst (v := 0) d_O_save_129 (by decide) ?_
    refine x_iconst (v := 1) d_O_save_130 (by decide) ?_
    refine x_callVv (As := [.int (0 : Int32), .int (1 : Int32)]) (t := 116) (rest := []) (rc := 0) (rs := 0) (c_O_copy hA hT hO hw) cw_O_save_O_copy_144 hO.1 hO.2.1 rfl d_O_save_131 rfl rfl (Nat.le_of_ble_eq_true rfl) rfl (fun _ _ h => h.elim) (fun _ _ h => h) (fun M17 hw => ?_)
    refine x_iload_n 1 1 d_O_save_134 rfl rfl ?_
    exact x_iret d_O_save_135 rfl (fun _ h => h) ⟨_, rfl, hw⟩
  · have hw := hw.2 hc
    refine x_iconst (v := (-1)) d_O_save_126 (by decide) ?_
    exact x_iret d_O_save_127 rfl (fun _ h => h) ⟨_, rfl, hw⟩
def k_O_save_99 (Q : Int32 → sdM → Prop) (M : sdM) (x1 : Int32) (s0 : Int32) : Prop := ((M 116 26) ≤ x1 → k_O_save_119 Q M x1 s0 (0 : Int32)) ∧ (¬ (M 116 26) ≤ x1 → k_O_save_119 Q M x1 s0 ((M 116 26) - x1))
set_option maxHeartbeats 1000000 in
theorem t_O_save_99 (hA : sd_ad b n ad) (hT : l.stackTraces = false) (hO : isO n L dA) {Q : Int32 → sdM → Prop} (M : sdM) (x1 : Int32) (s0 : Int32) (hw : k_O_save_99 Q M x1 s0) : sdW l (sdE0 sc) Y_O_save D (sd_tys dA) b n ad L ad (sd_H D (sdE0 sc).1 n ad L) (sd_qi Q) sd_xf 99 [(0, .ref 116), (1, .int x1)] [.int s0] M 0 0 := by
  unfold k_O_save_99 at hw
  refine x_istore_n 2 [(2, .int s0), (0, .ref 116), (1, .int x1)] d_O_save_99 rfl (by decide) rfl ?_
  refine x_aload_n 0 1 d_O_save_100 rfl rfl ?_
  refine x_aload_n 0 1 d_O_save_101 rfl rfl ?_
  refine x_geti 26 d_O_save_102 hO.1 hO.2.1 rfl rfl (by decide) lay_O (List.mem_cons_of_mem _ q596) rfl ?_
  refine x_iload_n 1 2 d_O_save_105 rfl rfl ?_
  refine x_icmp_le 118 d_O_save_106 rfl (fun hc => ?_) (fun hc => ?_)
  · have hw := hw.1 hc
    refine x_iconst (v := 0) d_O_save_118 (by decide) ?_
    refine x_sub [1, 2, 0] [(0, .ref 116), (1, .int x1), (2, .int s0)] rfl ?_
    exact t_O_save_119 hA hT hO M x1 s0 (0 : Int32) hw
  · have hw := hw.2 hc
    refine x_aload_n 0 1 d_O_save_109 rfl rfl ?_
    refine x_geti 26 d_O_save_110 hO.1 hO.2.1 rfl rfl (by decide) lay_O (List.mem_cons_of_mem _ q596) rfl ?_
    refine x_iload_n 1 2 d_O_save_113 rfl rfl ?_
    refine x_isub d_O_save_114 ?_
    refine x_goto 119 d_O_save_115 rfl ?_
    refine x_sub [1, 2, 0] [(0, .ref 116), (1, .int x1), (2, .int s0)] rfl ?_
    exact t_O_save_119 hA hT hO M x1 s0 ((M 116 26) - x1) hw
def k_O_save_94 (Q : Int32 → sdM → Prop) (M : sdM) (x1 : Int32) : Prop := k_O_save_99 Q M x1 (1 : Int32)
set_option maxHeartbeats 1000000 in
theorem t_O_save_94 (hA : sd_ad b n ad) (hT : l.stackTraces = false) (hO : isO n L dA) {Q : Int32 → sdM → Prop} (M : sdM) (x1 : Int32) (hw : k_O_save_94 Q M x1) : sdW l (sdE0 sc) Y_O_save D (sd_tys dA) b n ad L ad (sd_H D (sdE0 sc).1 n ad L) (sd_qi Q) sd_xf 94 [(0, .ref 116), (1, .int x1)] [] M 0 0 := by
  unfold k_O_save_94 at hw
  refine x_iconst (v := 1) d_O_save_94 (by decide) ?_
  refine x_goto 99 d_O_save_95 rfl ?_
  exact t_O_save_99 hA hT hO M x1 (1 : Int32) hw
def k_O_save_76 (Q : Int32 → sdM → Prop) (M : sdM) (x1 : Int32) (s1 : Int32) : Prop := sdB s1 ∧ ∀ M18 : sdM, M18 = sd_s M 116 25 s1 → ((M18 116 26) = 0 → k_O_save_94 Q M18 x1) ∧ (¬ (M18 116 26) = 0 → ((M18 116 26) < x1 → k_O_save_99 Q M18 x1 (0 : Int32)) ∧ (¬ (M18 116 26) < x1 → k_O_save_94 Q M18 x1))
set_option maxHeartbeats 1000000 in
theorem t_O_save_76 (hA : sd_ad b n ad) (hT : l.stackTraces = false) (hO : isO n L dA) {Q : Int32 → sdM → Prop} (M : sdM) (x1 : Int32) (s1 : Int32) (hw : k_O_save_76 Q M x1 s1) : sdW l (sdE0 sc) Y_O_save D (sd_tys dA) b n ad L ad (sd_H D (sdE0 sc).1 n ad L) (sd_qi Q) sd_xf 76 [(0, .ref 116), (1, .int x1)] [.int s1, .ref 116] M 0 0 := by
  unfold k_O_save_76 at hw
  obtain ⟨hb20, hw⟩ := hw
  refine x_puti 25 (ty := .boolean) hA d_O_save_76 hO.1 hO.2.1 rfl rfl (by decide) lay_O (List.mem_cons_of_mem _ q447) rfl ty_O ty_O_ok nm_O rfl (by decide +kernel) (sdB_n hb20) (sdB_f hb20) (fun M18 e19 => ?_)
  have hw := hw M18 e19
  clear e19
  refine x_aload_n 0 0 d_O_save_79 rfl rfl ?_
  refine x_geti 26 d_O_save_80 hO.1 hO.2.1 rfl rfl (by decide) lay_O (List.mem_cons_of_mem _ q596) rfl ?_
  refine x_if_eq 94 d_O_save_83 rfl (fun hc => ?_) (fun hc => ?_)
  · have hw := hw.1 hc
    exact t_O_save_94 hA hT hO M18 x1 hw
  · have hw := hw.2 hc
    refine x_aload_n 0 0 d_O_save_86 rfl rfl ?_
    refine x_geti 26 d_O_save_87 hO.1 hO.2.1 rfl rfl (by decide) lay_O (List.mem_cons_of_mem _ q596) rfl ?_
    refine x_iload_n 1 1 d_O_save_90 rfl rfl ?_
    refine x_icmp_lt 98 d_O_save_91 rfl (fun hc => ?_) (fun hc => ?_)
    · have hw := hw.1 hc
      refine x_iconst (v := 0) d_O_save_98 (by decide) ?_
      exact t_O_save_99 hA hT hO M18 x1 (0 : Int32) hw
    · have hw := hw.2 hc
      exact t_O_save_94 hA hT hO M18 x1 hw
def k_O_save_75 (Q : Int32 → sdM → Prop) (M : sdM) (x1 : Int32) : Prop := k_O_save_76 Q M x1 (0 : Int32)
set_option maxHeartbeats 1000000 in
theorem t_O_save_75 (hA : sd_ad b n ad) (hT : l.stackTraces = false) (hO : isO n L dA) {Q : Int32 → sdM → Prop} (M : sdM) (x1 : Int32) (hw : k_O_save_75 Q M x1) : sdW l (sdE0 sc) Y_O_save D (sd_tys dA) b n ad L ad (sd_H D (sdE0 sc).1 n ad L) (sd_qi Q) sd_xf 75 [(0, .ref 116), (1, .int x1)] [.ref 116] M 0 0 := by
  unfold k_O_save_75 at hw
  refine x_iconst (v := 0) d_O_save_75 (by decide) ?_
  exact t_O_save_76 hA hT hO M x1 (0 : Int32) hw
def k_O_save_13 (Q : Int32 → sdM → Prop) (M : sdM) (s1 : Int32) : Prop := ∀ M21 : sdM, M21 = sd_s M 116 0 s1 → ((M21 116 0) ≤ 0 → vp_in (0 : Int32) 68 ∧ vp_in (1 : Int32) 68 ∧ vp_in (2 : Int32) 68 ∧ vp_in (3 : Int32) 68 ∧ ((M21 116 26) ≤ 0 → k_O_save_75 Q M21 (((((1 : Int32) + (M21 129 (0 : Int32).toNatClampNeg)) + (M21 129 (1 : Int32).toNatClampNeg)) + (M21 129 (2 : Int32).toNatClampNeg)) + (M21 129 (3 : Int32).toNatClampNeg))) ∧ (¬ (M21 116 26) ≤ 0 → ((((((1 : Int32) + (M21 129 (0 : Int32).toNatClampNeg)) + (M21 129 (1 : Int32).toNatClampNeg)) + (M21 129 (2 : Int32).toNatClampNeg)) + (M21 129 (3 : Int32).toNatClampNeg)) < (M21 116 26) → k_O_save_75 Q M21 (((((1 : Int32) + (M21 129 (0 : Int32).toNatClampNeg)) + (M21 129 (1 : Int32).toNatClampNeg)) + (M21 129 (2 : Int32).toNatClampNeg)) + (M21 129 (3 : Int32).toNatClampNeg))) ∧ (¬ (((((1 : Int32) + (M21 129 (0 : Int32).toNatClampNeg)) + (M21 129 (1 : Int32).toNatClampNeg)) + (M21 129 (2 : Int32).toNatClampNeg)) + (M21 129 (3 : Int32).toNatClampNeg)) < (M21 116 26) → k_O_save_76 Q M21 (((((1 : Int32) + (M21 129 (0 : Int32).toNatClampNeg)) + (M21 129 (1 : Int32).toNatClampNeg)) + (M21 129 (2 : Int32).toNatClampNeg)) + (M21 129 (3 : Int32).toNatClampNeg)) (1 : Int32)))) ∧ (¬ (M21 116 0) ≤ 0 → Q (0 : Int32) M21)
set_option maxHeartbeats 1000000 in
theorem t_O_save_13 (hA : sd_ad b n ad) (hT : l.stackTraces = false) (hO : isO n L dA) {Q : Int32 → sdM → Prop} (M : sdM) (s1 : Int32) (hw : k_O_save_13 Q M s1) : sdW l (sdE0 sc) Y_O_save D (sd_tys dA) b n ad L ad (sd_H D (sdE0 sc).1 n ad L) (sd_qi Q) sd_xf 13 [(0, .ref 116)] [.int s1, .ref 116] M 0 0 := by
  unfold k_O_save_13 at hw
  refine x_puti 0 (ty := .int) hA d_O_save_13 hO.1 hO.2.1 rfl rfl (by decide) lay_O (List.mem_cons_of_mem _ q446) rfl ty_O ty_O_ok nm_O rfl (by decide +kernel) rfl rfl (fun M21 e22 => ?_)
  have hw := hw M21 e22
  clear e22
  refine x_aload_n 0 0 d_O_save_16 rfl rfl ?_
  refine x_geti 0 d_O_save_17 hO.1 hO.2.1 rfl rfl (by decide) lay_O (List.mem_cons_of_mem _ q446) rfl ?_
  refine x_if_le 25 d_O_save_20 rfl (fun hc => ?_) (fun hc => ?_)
  · have hw := hw.1 hc
    refine x_iconst (v := 1) d_O_save_25 (by decide) ?_
    refine x_aload_n 0 0 d_O_save_26 rfl rfl ?_
    refine x_getr 16 129 d_O_save_27 hO.1 hO.2.1 rfl rfl (by decide) lay_O (List.mem_cons_of_mem _ q478) rfl ?_
    refine x_iconst (v := 0) d_O_save_30 (by decide) ?_
    obtain ⟨hi23, hw⟩ := hw
    refine x_iald d_O_save_31 hO.sizes.1 hO.sizes.2 rfl hi23 ?_
    refine x_iadd d_O_save_32 ?_
    refine x_aload_n 0 0 d_O_save_33 rfl rfl ?_
    refine x_getr 16 129 d_O_save_34 hO.1 hO.2.1 rfl rfl (by decide) lay_O (List.mem_cons_of_mem _ q478) rfl ?_
    refine x_iconst (v := 1) d_O_save_37 (by decide) ?_
    obtain ⟨hi24, hw⟩ := hw
    refine x_iald d_O_save_38 hO.sizes.1 hO.sizes.2 rfl hi24 ?_
    refine x_iadd d_O_save_39 ?_
    refine x_aload_n 0 0 d_O_save_40 rfl rfl ?_
    refine x_getr 16 129 d_O_save_41 hO.1 hO.2.1 rfl rfl (by decide) lay_O (List.mem_cons_of_mem _ q478) rfl ?_
    refine x_iconst (v := 2) d_O_save_44 (by decide) ?_
    obtain ⟨hi25, hw⟩ := hw
    refine x_iald d_O_save_45 hO.sizes.1 hO.sizes.2 rfl hi25 ?_
    refine x_iadd d_O_save_46 ?_
    refine x_aload_n 0 0 d_O_save_47 rfl rfl ?_
    refine x_getr 16 129 d_O_save_48 hO.1 hO.2.1 rfl rfl (by decide) lay_O (List.mem_cons_of_mem _ q478) rfl ?_
    refine x_iconst (v := 3) d_O_save_51 (by decide) ?_
    obtain ⟨hi26, hw⟩ := hw
    refine x_iald d_O_save_52 hO.sizes.1 hO.sizes.2 rfl hi26 ?_
    refine x_iadd d_O_save_53 ?_
    refine x_istore_n 1 [(1, .int (((((1 : Int32) + (M21 129 (0 : Int32).toNatClampNeg)) + (M21 129 (1 : Int32).toNatClampNeg)) + (M21 129 (2 : Int32).toNatClampNeg)) + (M21 129 (3 : Int32).toNatClampNeg))), (0, .ref 116)] d_O_save_54 rfl (by decide) rfl ?_
    refine x_aload_n 0 1 d_O_save_55 rfl rfl ?_
    refine x_aload_n 0 1 d_O_save_56 rfl rfl ?_
    refine x_geti 26 d_O_save_57 hO.1 hO.2.1 rfl rfl (by decide) lay_O (List.mem_cons_of_mem _ q596) rfl ?_
    refine x_if_le 75 d_O_save_60 rfl (fun hc => ?_) (fun hc => ?_)
    · have hw := hw.1 hc
      refine x_sub [1, 0] [(0, .ref 116), (1, .int (((((1 : Int32) + (M21 129 (0 : Int32).toNatClampNeg)) + (M21 129 (1 : Int32).toNatClampNeg)) + (M21 129 (2 : Int32).toNatClampNeg)) + (M21 129 (3 : Int32).toNatClampNeg)))] rfl ?_
      exact t_O_save_75 hA hT hO M21 (((((1 : Int32) + (M21 129 (0 : Int32).toNatClampNeg)) + (M21 129 (1 : Int32).toNatClampNeg)) + (M21 129 (2 : Int32).toNatClampNeg)) + (M21 129 (3 : Int32).toNatClampNeg)) hw
    · have hw := hw.2 hc
      refine x_aload_n 0 1 d_O_save_63 rfl rfl ?_
      refine x_geti 26 d_O_save_64 hO.1 hO.2.1 rfl rfl (by decide) lay_O (List.mem_cons_of_mem _ q596) rfl ?_
      refine x_iload_n 1 0 d_O_save_67 rfl rfl ?_
      refine x_icmp_gt 75 d_O_save_68 rfl (fun hc => ?_) (fun hc => ?_)
      · have hw := hw.1 hc
        refine x_sub [1, 0] [(0, .ref 116), (1, .int (((((1 : Int32) + (M21 129 (0 : Int32).toNatClampNeg)) + (M21 129 (1 : Int32).toNatClampNeg)) + (M21 129 (2 : Int32).toNatClampNeg)) + (M21 129 (3 : Int32).toNatClampNeg)))] rfl ?_
        exact t_O_save_75 hA hT hO M21 (((((1 : Int32) + (M21 129 (0 : Int32).toNatClampNeg)) + (M21 129 (1 : Int32).toNatClampNeg)) + (M21 129 (2 : Int32).toNatClampNeg)) + (M21 129 (3 : Int32).toNatClampNeg)) hw
      · have hw := hw.2 hc
        refine x_iconst (v := 1) d_O_save_71 (by decide) ?_
        refine x_goto 76 d_O_save_72 rfl ?_
        refine x_sub [1, 0] [(0, .ref 116), (1, .int (((((1 : Int32) + (M21 129 (0 : Int32).toNatClampNeg)) + (M21 129 (1 : Int32).toNatClampNeg)) + (M21 129 (2 : Int32).toNatClampNeg)) + (M21 129 (3 : Int32).toNatClampNeg)))] rfl ?_
        exact t_O_save_76 hA hT hO M21 (((((1 : Int32) + (M21 129 (0 : Int32).toNatClampNeg)) + (M21 129 (1 : Int32).toNatClampNeg)) + (M21 129 (2 : Int32).toNatClampNeg)) + (M21 129 (3 : Int32).toNatClampNeg)) (1 : Int32) hw
  · have hw := hw.2 hc
    refine x_iconst (v := 0) d_O_save_23 (by decide) ?_
    exact x_iret d_O_save_24 rfl (fun _ h => h) ⟨_, rfl, hw⟩
def w_O_save (M : sdM) (Q : Int32 → sdM → Prop) : Prop := w_O_isDown M (fun r28 M27 => (r28 = 0 → k_O_save_13 Q M27 (0 : Int32)) ∧ (¬ r28 = 0 → k_O_save_13 Q M27 (1 : Int32)))
set_option maxHeartbeats 1000000 in
theorem c_O_save (hA : sd_ad b n ad) (hT : l.stackTraces = false) (hO : isO n L dA) {Q : Int32 → sdM → Prop} {M : sdM} (hw : w_O_save M Q) : sd_Cn l (sdE0 sc) y_O_save Y_O_save.2.2.2.2.1 Y_O_save.2.2.2.2.2.1 0 0 D (sd_tys dA) b n ad L M [.ref 116] (sd_qi Q) sd_xf := by
  refine sd_enter (Y := Y_O_save) rfl rfl rfl rfl (Nat.le_of_ble_eq_true rfl) ?_
  show sdW l (sdE0 sc) Y_O_save D (sd_tys dA) b n ad L ad (sd_H D (sdE0 sc).1 n ad L) (sd_qi Q) sd_xf 0 [(0, .ref 116)] [] M 0 0
  unfold w_O_save at hw
  refine x_aload_n 0 0 d_O_save_0 rfl rfl ?_
  refine x_aload_n 0 0 d_O_save_1 rfl rfl ?_
  refine x_callVi (As := []) (t := 116) (rest := [.ref 116]) (rc := 0) (rs := 0) (c_O_isDown hA hT hO hw) cw_O_save_O_isDown_153 hO.1 hO.2.1 rfl d_O_save_2 rfl rfl (Nat.le_of_ble_eq_true rfl) rfl (fun _ _ h => h.elim) (fun _ _ h => h) (fun r28 M27 hw => ?_)
  refine x_if_eq 12 d_O_save_5 rfl (fun hc => ?_) (fun hc => ?_)
  · have hw := hw.1 hc
    refine x_iconst (v := 0) d_O_save_12 (by decide) ?_
    exact t_O_save_13 hA hT hO M27 (0 : Int32) hw
  · have hw := hw.2 hc
    refine x_iconst (v := 1) d_O_save_8 (by decide) ?_
    refine x_goto 13 d_O_save_9 rfl ?_
    exact t_O_save_13 hA hT hO M27 (1 : Int32) hw
end
abbrev y_O_cut : MethodName := ⟨"SettingsDeskModel", "cut", "(I)Z"⟩
theorem d_O_cut_0 : decode prog_12_method_49_code 0 = .ok (.aload_n 0, 1) := by decide +kernel
theorem d_O_cut_1 : decode prog_12_method_49_code 1 = .ok (.iload_n 1, 1) := by decide +kernel
theorem d_O_cut_2 : decode prog_12_method_49_code 2 = .ok (.iconst (-1), 1) := by decide +kernel
theorem d_O_cut_3 : decode prog_12_method_49_code 3 = .ok (.if_icmp .lt (10), 3) := by decide +kernel
theorem d_O_cut_6 : decode prog_12_method_49_code 6 = .ok (.iload_n 1, 1) := by decide +kernel
theorem d_O_cut_7 : decode prog_12_method_49_code 7 = .ok (.sipush (1000), 3) := by decide +kernel
theorem d_O_cut_10 : decode prog_12_method_49_code 10 = .ok (.if_icmp .le (7), 3) := by decide +kernel
theorem d_O_cut_13 : decode prog_12_method_49_code 13 = .ok (.iconst 1, 1) := by decide +kernel
theorem d_O_cut_14 : decode prog_12_method_49_code 14 = .ok (.goto (4), 3) := by decide +kernel
theorem d_O_cut_17 : decode prog_12_method_49_code 17 = .ok (.iconst 0, 1) := by decide +kernel
theorem d_O_cut_18 : decode prog_12_method_49_code 18 = .ok (.putfield 69, 3) := by decide +kernel
theorem d_O_cut_21 : decode prog_12_method_49_code 21 = .ok (.aload_n 0, 1) := by decide +kernel
theorem d_O_cut_22 : decode prog_12_method_49_code 22 = .ok (.getfield 69, 3) := by decide +kernel
theorem d_O_cut_25 : decode prog_12_method_49_code 25 = .ok (.ifCond .le (5), 3) := by decide +kernel
theorem d_O_cut_28 : decode prog_12_method_49_code 28 = .ok (.iconst 0, 1) := by decide +kernel
theorem d_O_cut_29 : decode prog_12_method_49_code 29 = .ok (.ireturn, 1) := by decide +kernel
theorem d_O_cut_30 : decode prog_12_method_49_code 30 = .ok (.aload_n 0, 1) := by decide +kernel
theorem d_O_cut_31 : decode prog_12_method_49_code 31 = .ok (.getfield 76, 3) := by decide +kernel
theorem d_O_cut_34 : decode prog_12_method_49_code 34 = .ok (.ifCond .ne (29), 3) := by decide +kernel
theorem d_O_cut_37 : decode prog_12_method_49_code 37 = .ok (.aload_n 0, 1) := by decide +kernel
theorem d_O_cut_38 : decode prog_12_method_49_code 38 = .ok (.iload_n 1, 1) := by decide +kernel
theorem d_O_cut_39 : decode prog_12_method_49_code 39 = .ok (.ifCond .ne (7), 3) := by decide +kernel
theorem d_O_cut_42 : decode prog_12_method_49_code 42 = .ok (.iconst 1, 1) := by decide +kernel
theorem d_O_cut_43 : decode prog_12_method_49_code 43 = .ok (.goto (4), 3) := by decide +kernel
theorem d_O_cut_46 : decode prog_12_method_49_code 46 = .ok (.iconst 0, 1) := by decide +kernel
theorem d_O_cut_47 : decode prog_12_method_49_code 47 = .ok (.putfield 76, 3) := by decide +kernel
theorem d_O_cut_50 : decode prog_12_method_49_code 50 = .ok (.aload_n 0, 1) := by decide +kernel
theorem d_O_cut_51 : decode prog_12_method_49_code 51 = .ok (.iload_n 1, 1) := by decide +kernel
theorem d_O_cut_52 : decode prog_12_method_49_code 52 = .ok (.ifCond .le (7), 3) := by decide +kernel
theorem d_O_cut_55 : decode prog_12_method_49_code 55 = .ok (.iload_n 1, 1) := by decide +kernel
theorem d_O_cut_56 : decode prog_12_method_49_code 56 = .ok (.goto (4), 3) := by decide +kernel
theorem d_O_cut_59 : decode prog_12_method_49_code 59 = .ok (.iconst 0, 1) := by decide +kernel
theorem d_O_cut_60 : decode prog_12_method_49_code 60 = .ok (.putfield 214, 3) := by decide +kernel
theorem d_O_cut_63 : decode prog_12_method_49_code 63 = .ok (.aload_n 0, 1) := by decide +kernel
theorem d_O_cut_64 : decode prog_12_method_49_code 64 = .ok (.getfield 76, 3) := by decide +kernel
theorem d_O_cut_67 : decode prog_12_method_49_code 67 = .ok (.ireturn, 1) := by decide +kernel
def Y_O_cut : sdY := ("SettingsDeskModel", prog_12_method_49_code, 2, (some .boolean), .code y_O_cut prog_12_method_49_code 2 (some .boolean) :: sdB0, { frames := 0, cells := 0, slots := 0, locals := 0 }, 0, 0, [])
section
variable {l : Launch} {D : va_G} {dA : Nat → ClassId} {b n : Nat} {ad : Nat → Nat} {L : Nat → sdL} {sc : Option (Nat × Nat × (Nat → Int32))}
def k_O_cut_63 (Q : Int32 → sdM → Prop) (M : sdM) : Prop := sdB (M 116 25) ∧ Q (M 116 25) M
set_option maxHeartbeats 1000000 in
theorem t_O_cut_63 (hA : sd_ad b n ad) (hT : l.stackTraces = false) (hO : isO n L dA) {Q : Int32 → sdM → Prop} (M : sdM) (hw : k_O_cut_63 Q M ) : sdW l (sdE0 sc) Y_O_cut D (sd_tys dA) b n ad L ad (sd_H D (sdE0 sc).1 n ad L) (sd_qi Q) sd_xf 63 [(0, .ref 116)] [] M 0 0 := by
  unfold k_O_cut_63 at hw
  refine x_aload_n 0 0 d_O_cut_63 rfl rfl ?_
  refine x_geti 25 d_O_cut_64 hO.1 hO.2.1 rfl rfl (by decide) lay_O (List.mem_cons_of_mem _ q447) rfl ?_
  exact x_zret d_O_cut_67 rfl (sdB_n hw.1) (fun _ h => h) ⟨_, rfl, hw.2⟩
def k_O_cut_60 (Q : Int32 → sdM → Prop) (M : sdM) (s1 : Int32) : Prop := ∀ M8 : sdM, M8 = sd_s M 116 26 s1 → k_O_cut_63 Q M8
set_option maxHeartbeats 1000000 in
theorem t_O_cut_60 (hA : sd_ad b n ad) (hT : l.stackTraces = false) (hO : isO n L dA) {Q : Int32 → sdM → Prop} (M : sdM) (s1 : Int32) (hw : k_O_cut_60 Q M s1) : sdW l (sdE0 sc) Y_O_cut D (sd_tys dA) b n ad L ad (sd_H D (sdE0 sc).1 n ad L) (sd_qi Q) sd_xf 60 [(0, .ref 116)] [.int s1, .ref 116] M 0 0 := by
  unfold k_O_cut_60 at hw
  refine x_puti 26 (ty := .int) hA d_O_cut_60 hO.1 hO.2.1 rfl rfl (by decide) lay_O (List.mem_cons_of_mem _ q596) rfl ty_O ty_O_ok nm_O rfl (by decide +kernel) rfl rfl (fun M8 e9 => ?_)
  have hw := hw M8 e9
  clear e9
  exact t_O_cut_63 hA hT hO M8 hw
def k_O_cut_47 (Q : Int32 → sdM → Prop) (M : sdM) (x1 : Int32) (s1 : Int32) : Prop := sdB s1 ∧ ∀ M10 : sdM, M10 = sd_s M 116 25 s1 → (x1 ≤ 0 → k_O_cut_60 Q M10 (0 : Int32)) ∧ (¬ x1 ≤ 0 → k_O_cut_60 Q M10 x1)
set_option maxHeartbeats 1000000 in
theorem t_O_cut_47 (hA : sd_ad b n ad) (hT : l.stackTraces = false) (hO : isO n L dA) {Q : Int32 → sdM → Prop} (M : sdM) (x1 : Int32) (s1 : Int32) (hw : k_O_cut_47 Q M x1 s1) : sdW l (sdE0 sc) Y_O_cut D (sd_tys dA) b n ad L ad (sd_H D (sdE0 sc).1 n ad L) (sd_qi Q) sd_xf 47 [(0, .ref 116), (1, .int x1)] [.int s1, .ref 116] M 0 0 := by
  unfold k_O_cut_47 at hw
  obtain ⟨hb12, hw⟩ := hw
  refine x_puti 25 (ty := .boolean) hA d_O_cut_47 hO.1 hO.2.1 rfl rfl (by decide) lay_O (List.mem_cons_of_mem _ q447) rfl ty_O ty_O_ok nm_O rfl (by decide +kernel) (sdB_n hb12) (sdB_f hb12) (fun M10 e11 => ?_)
  have hw := hw M10 e11
  clear e11
  refine x_aload_n 0 0 d_O_cut_50 rfl rfl ?_
  refine x_iload_n 1 1 d_O_cut_51 rfl rfl ?_
  refine x_if_le 59 d_O_cut_52 rfl (fun hc => ?_) (fun hc => ?_)
  · have hw := hw.1 hc
    refine x_iconst (v := 0) d_O_cut_59 (by decide) ?_
    refine x_sub [0] [(0, .ref 116)] rfl ?_
    exact t_O_cut_60 hA hT hO M10 (0 : Int32) hw
  · have hw := hw.2 hc
    refine x_iload_n 1 1 d_O_cut_55 rfl rfl ?_
    refine x_goto 60 d_O_cut_56 rfl ?_
    refine x_sub [0] [(0, .ref 116)] rfl ?_
    exact t_O_cut_60 hA hT hO M10 x1 hw
def k_O_cut_18 (Q : Int32 → sdM → Prop) (M : sdM) (x1 : Int32) (s1 : Int32) : Prop := ∀ M13 : sdM, M13 = sd_s M 116 0 s1 → ((M13 116 0) ≤ 0 → (¬ (M13 116 25) = 0 → k_O_cut_63 Q M13) ∧ ((M13 116 25) = 0 → (¬ x1 = 0 → k_O_cut_47 Q M13 x1 (0 : Int32)) ∧ (x1 = 0 → k_O_cut_47 Q M13 x1 (1 : Int32)))) ∧ (¬ (M13 116 0) ≤ 0 → sdB (0 : Int32) ∧ Q (0 : Int32) M13)
set_option maxHeartbeats 1000000 in
theorem t_O_cut_18 (hA : sd_ad b n ad) (hT : l.stackTraces = false) (hO : isO n L dA) {Q : Int32 → sdM → Prop} (M : sdM) (x1 : Int32) (s1 : Int32) (hw : k_O_cut_18 Q M x1 s1) : sdW l (sdE0 sc) Y_O_cut D (sd_tys dA) b n ad L ad (sd_H D (sdE0 sc).1 n ad L) (sd_qi Q) sd_xf 18 [(0, .ref 116), (1, .int x1)] [.int s1, .ref 116] M 0 0 := by
  unfold k_O_cut_18 at hw
  refine x_puti 0 (ty := .int) hA d_O_cut_18 hO.1 hO.2.1 rfl rfl (by decide) lay_O (List.mem_cons_of_mem _ q446) rfl ty_O ty_O_ok nm_O rfl (by decide +kernel) rfl rfl (fun M13 e14 => ?_)
  have hw := hw M13 e14
  clear e14
  refine x_aload_n 0 0 d_O_cut_21 rfl rfl ?_
  refine x_geti 0 d_O_cut_22 hO.1 hO.2.1 rfl rfl (by decide) lay_O (List.mem_cons_of_mem _ q446) rfl ?_
  refine x_if_le 30 d_O_cut_25 rfl (fun hc => ?_) (fun hc => ?_)
  · have hw := hw.1 hc
    refine x_aload_n 0 0 d_O_cut_30 rfl rfl ?_
    refine x_geti 25 d_O_cut_31 hO.1 hO.2.1 rfl rfl (by decide) lay_O (List.mem_cons_of_mem _ q447) rfl ?_
    refine x_if_ne 63 d_O_cut_34 rfl (fun hc => ?_) (fun hc => ?_)
    · have hw := hw.1 hc
      refine x_sub [0] [(0, .ref 116)] rfl ?_
      exact t_O_cut_63 hA hT hO M13 hw
    · have hw := hw.2 hc
      refine x_aload_n 0 0 d_O_cut_37 rfl rfl ?_
      refine x_iload_n 1 1 d_O_cut_38 rfl rfl ?_
      refine x_if_ne 46 d_O_cut_39 rfl (fun hc => ?_) (fun hc => ?_)
      · have hw := hw.1 hc
        refine x_iconst (v := 0) d_O_cut_46 (by decide) ?_
        exact t_O_cut_47 hA hT hO M13 x1 (0 : Int32) hw
      · have hw := hw.2 hc
        refine x_iconst (v := 1) d_O_cut_42 (by decide) ?_
        refine x_goto 47 d_O_cut_43 rfl ?_
        exact t_O_cut_47 hA hT hO M13 x1 (1 : Int32) hw
  · have hw := hw.2 hc
    refine x_iconst (v := 0) d_O_cut_28 (by decide) ?_
    exact x_zret d_O_cut_29 rfl (sdB_n hw.1) (fun _ h => h) ⟨_, rfl, hw.2⟩
def k_O_cut_13 (Q : Int32 → sdM → Prop) (M : sdM) (x1 : Int32) : Prop := k_O_cut_18 Q M x1 (1 : Int32)
set_option maxHeartbeats 1000000 in
theorem t_O_cut_13 (hA : sd_ad b n ad) (hT : l.stackTraces = false) (hO : isO n L dA) {Q : Int32 → sdM → Prop} (M : sdM) (x1 : Int32) (hw : k_O_cut_13 Q M x1) : sdW l (sdE0 sc) Y_O_cut D (sd_tys dA) b n ad L ad (sd_H D (sdE0 sc).1 n ad L) (sd_qi Q) sd_xf 13 [(0, .ref 116), (1, .int x1)] [.ref 116] M 0 0 := by
  unfold k_O_cut_13 at hw
  refine x_iconst (v := 1) d_O_cut_13 (by decide) ?_
  refine x_goto 18 d_O_cut_14 rfl ?_
  exact t_O_cut_18 hA hT hO M x1 (1 : Int32) hw
def w_O_cut (M : sdM) (a1 : Int32) (Q : Int32 → sdM → Prop) : Prop := (a1 < (-1 : Int32) → k_O_cut_13 Q M a1) ∧ (¬ a1 < (-1 : Int32) → (a1 ≤ (1000 : Int32) → k_O_cut_18 Q M a1 (0 : Int32)) ∧ (¬ a1 ≤ (1000 : Int32) → k_O_cut_13 Q M a1))
set_option maxHeartbeats 1000000 in
theorem c_O_cut {a1 : Int32} (hA : sd_ad b n ad) (hT : l.stackTraces = false) (hO : isO n L dA) {Q : Int32 → sdM → Prop} {M : sdM} (hw : w_O_cut M a1 Q) : sd_Cn l (sdE0 sc) y_O_cut Y_O_cut.2.2.2.2.1 Y_O_cut.2.2.2.2.2.1 0 0 D (sd_tys dA) b n ad L M [.ref 116, .int a1] (sd_qi Q) sd_xf := by
  refine sd_enter (Y := Y_O_cut) rfl rfl rfl rfl (Nat.le_of_ble_eq_true rfl) ?_
  show sdW l (sdE0 sc) Y_O_cut D (sd_tys dA) b n ad L ad (sd_H D (sdE0 sc).1 n ad L) (sd_qi Q) sd_xf 0 [(0, .ref 116), (1, .int a1)] [] M 0 0
  unfold w_O_cut at hw
  refine x_aload_n 0 0 d_O_cut_0 rfl rfl ?_
  refine x_iload_n 1 1 d_O_cut_1 rfl rfl ?_
  refine x_iconst (v := (-1)) d_O_cut_2 (by decide) ?_
  refine x_icmp_lt 13 d_O_cut_3 rfl (fun hc => ?_) (fun hc => ?_)
  · have hw := hw.1 hc
    exact t_O_cut_13 hA hT hO M a1 hw
  · have hw := hw.2 hc
    refine x_iload_n 1 1 d_O_cut_6 rfl rfl ?_
    refine x_sipush (v := 1000) d_O_cut_7 (by decide) ?_
    refine x_icmp_le 17 d_O_cut_10 rfl (fun hc => ?_) (fun hc => ?_)
    · have hw := hw.1 hc
      refine x_iconst (v := 0) d_O_cut_17 (by decide) ?_
      exact t_O_cut_18 hA hT hO M a1 (0 : Int32) hw
    · have hw := hw.2 hc
      exact t_O_cut_13 hA hT hO M a1 hw
end
abbrev y_O_reboot : MethodName := ⟨"SettingsDeskModel", "reboot", "()Z"⟩
theorem d_O_reboot_0 : decode prog_12_method_50_code 0 = .ok (.aload_n 0, 1) := by decide +kernel
theorem d_O_reboot_1 : decode prog_12_method_50_code 1 = .ok (.iconst 0, 1) := by decide +kernel
theorem d_O_reboot_2 : decode prog_12_method_50_code 2 = .ok (.putfield 69, 3) := by decide +kernel
theorem d_O_reboot_5 : decode prog_12_method_50_code 5 = .ok (.aload_n 0, 1) := by decide +kernel
theorem d_O_reboot_6 : decode prog_12_method_50_code 6 = .ok (.getfield 76, 3) := by decide +kernel
theorem d_O_reboot_9 : decode prog_12_method_50_code 9 = .ok (.ifCond .ne (5), 3) := by decide +kernel
theorem d_O_reboot_12 : decode prog_12_method_50_code 12 = .ok (.iconst 0, 1) := by decide +kernel
theorem d_O_reboot_13 : decode prog_12_method_50_code 13 = .ok (.ireturn, 1) := by decide +kernel
theorem d_O_reboot_14 : decode prog_12_method_50_code 14 = .ok (.aload_n 0, 1) := by decide +kernel
theorem d_O_reboot_15 : decode prog_12_method_50_code 15 = .ok (.iconst 0, 1) := by decide +kernel
theorem d_O_reboot_16 : decode prog_12_method_50_code 16 = .ok (.putfield 76, 3) := by decide +kernel
theorem d_O_reboot_19 : decode prog_12_method_50_code 19 = .ok (.aload_n 0, 1) := by decide +kernel
theorem d_O_reboot_20 : decode prog_12_method_50_code 20 = .ok (.iconst 1, 1) := by decide +kernel
theorem d_O_reboot_21 : decode prog_12_method_50_code 21 = .ok (.invokevirtual 202, 3) := by decide +kernel
theorem d_O_reboot_24 : decode prog_12_method_50_code 24 = .ok (.istore_n 1, 1) := by decide +kernel
theorem d_O_reboot_25 : decode prog_12_method_50_code 25 = .ok (.iconst 0, 1) := by decide +kernel
theorem d_O_reboot_26 : decode prog_12_method_50_code 26 = .ok (.istore_n 2, 1) := by decide +kernel
theorem d_O_reboot_27 : decode prog_12_method_50_code 27 = .ok (.iload_n 2, 1) := by decide +kernel
theorem d_O_reboot_28 : decode prog_12_method_50_code 28 = .ok (.iconst 3, 1) := by decide +kernel
theorem d_O_reboot_29 : decode prog_12_method_50_code 29 = .ok (.if_icmp .ge (16), 3) := by decide +kernel
theorem d_O_reboot_32 : decode prog_12_method_50_code 32 = .ok (.aload_n 0, 1) := by decide +kernel
theorem d_O_reboot_33 : decode prog_12_method_50_code 33 = .ok (.getfield 63, 3) := by decide +kernel
theorem d_O_reboot_36 : decode prog_12_method_50_code 36 = .ok (.iload_n 2, 1) := by decide +kernel
theorem d_O_reboot_37 : decode prog_12_method_50_code 37 = .ok (.iconst 0, 1) := by decide +kernel
theorem d_O_reboot_38 : decode prog_12_method_50_code 38 = .ok (.bastore, 1) := by decide +kernel
theorem d_O_reboot_39 : decode prog_12_method_50_code 39 = .ok (.iinc 2 (1), 3) := by decide +kernel
theorem d_O_reboot_42 : decode prog_12_method_50_code 42 = .ok (.goto (-15), 3) := by decide +kernel
theorem d_O_reboot_45 : decode prog_12_method_50_code 45 = .ok (.aload_n 0, 1) := by decide +kernel
theorem d_O_reboot_46 : decode prog_12_method_50_code 46 = .ok (.iconst (-1), 1) := by decide +kernel
theorem d_O_reboot_47 : decode prog_12_method_50_code 47 = .ok (.putfield 66, 3) := by decide +kernel
theorem d_O_reboot_50 : decode prog_12_method_50_code 50 = .ok (.aload_n 0, 1) := by decide +kernel
theorem d_O_reboot_51 : decode prog_12_method_50_code 51 = .ok (.iconst 0, 1) := by decide +kernel
theorem d_O_reboot_52 : decode prog_12_method_50_code 52 = .ok (.putfield 192, 3) := by decide +kernel
theorem d_O_reboot_55 : decode prog_12_method_50_code 55 = .ok (.iconst 1, 1) := by decide +kernel
theorem d_O_reboot_56 : decode prog_12_method_50_code 56 = .ok (.ireturn, 1) := by decide +kernel
def Y_O_reboot : sdY := ("SettingsDeskModel", prog_12_method_50_code, 3, (some .boolean), .code y_O_reboot prog_12_method_50_code 3 (some .boolean) :: sdB0, { frames := 5, cells := 0, slots := 0, locals := 116 }, 0, 0, [])
theorem cw_O_reboot_O_become_202 : sd_cwV Y_O_reboot Y_O_become y_O_become 202 1 "SettingsDeskModel" := ⟨sd_goodV q579 q581 q582 q459 q580, ⟨_, rfl⟩, ⟨rfl, rfl, rfl, rfl⟩, ⟨rfl, by decide, by decide, by decide +kernel⟩, ⟨by decide, by decide⟩⟩
section
variable {l : Launch} {D : va_G} {dA : Nat → ClassId} {b n : Nat} {ad : Nat → Nat} {L : Nat → sdL} {sc : Option (Nat × Nat × (Nat → Int32))}
def h_O_reboot_27 (Q : Int32 → sdM → Prop) : Nat → sdM → Int32 → Prop
  | 0, _, _ => False
  | N + 1, M, x2 => ((3 : Int32) ≤ x2 → ∀ M16 : sdM, M16 = sd_s M 116 23 (-1 : Int32) → ∀ M18 : sdM, M18 = sd_s M16 116 24 (0 : Int32) → sdB (1 : Int32) ∧ Q (1 : Int32) M18) ∧ (¬ (3 : Int32) ≤ x2 → vp_in x2 3 ∧ sdB (0 : Int32) ∧ ∀ M22 : sdM, M22 = sd_s M 133 x2.toNatClampNeg (0 : Int32) → h_O_reboot_27 Q N M22 (x2 + 1))
set_option maxHeartbeats 1000000 in
theorem t_O_reboot_27 (hA : sd_ad b n ad) (hT : l.stackTraces = false) (hO : isO n L dA) {Q : Int32 → sdM → Prop} (N : Nat) : ∀ (M : sdM) (x2 : Int32), h_O_reboot_27 Q N M x2 → sdW l (sdE0 sc) Y_O_reboot D (sd_tys dA) b n ad L ad (sd_H D (sdE0 sc).1 n ad L) (sd_qi Q) sd_xf 27 [(0, .ref 116), (2, .int x2)] [] M 0 0 := by
  induction N with
  | zero => intro M x2 hw; exact hw.elim
  | succ N ih =>
    intro M x2 hw
    rw [h_O_reboot_27] at hw
    refine x_iload_n 2 1 d_O_reboot_27 rfl rfl ?_
    refine x_iconst (v := 3) d_O_reboot_28 (by decide) ?_
    refine x_icmp_ge 45 d_O_reboot_29 rfl (fun hc => ?_) (fun hc => ?_)
    · have hw := hw.1 hc
      refine x_aload_n 0 0 d_O_reboot_45 rfl rfl ?_
      refine x_iconst (v := (-1)) d_O_reboot_46 (by decide) ?_
      refine x_puti 23 (ty := .int) hA d_O_reboot_47 hO.1 hO.2.1 rfl rfl (by decide) lay_O (List.mem_cons_of_mem _ q561) rfl ty_O ty_O_ok nm_O rfl (by decide +kernel) rfl rfl (fun M16 e17 => ?_)
      have hw := hw M16 e17
      clear e17
      refine x_aload_n 0 0 d_O_reboot_50 rfl rfl ?_
      refine x_iconst (v := 0) d_O_reboot_51 (by decide) ?_
      refine x_puti 24 (ty := .int) hA d_O_reboot_52 hO.1 hO.2.1 rfl rfl (by decide) lay_O (List.mem_cons_of_mem _ q574) rfl ty_O ty_O_ok nm_O rfl (by decide +kernel) rfl rfl (fun M18 e19 => ?_)
      have hw := hw M18 e19
      clear e19
      refine x_iconst (v := 1) d_O_reboot_55 (by decide) ?_
      exact x_zret d_O_reboot_56 rfl (sdB_n hw.1) (fun _ h => h) ⟨_, rfl, hw.2⟩
    · have hw := hw.2 hc
      refine x_aload_n 0 0 d_O_reboot_32 rfl rfl ?_
      refine x_getr 22 133 d_O_reboot_33 hO.1 hO.2.1 rfl rfl (by decide) lay_O (List.mem_cons_of_mem _ q519) rfl ?_
      refine x_iload_n 2 1 d_O_reboot_36 rfl rfl ?_
      refine x_iconst (v := 0) d_O_reboot_37 (by decide) ?_
      obtain ⟨hi20, hw⟩ := hw
      obtain ⟨hb21, hw⟩ := hw
      refine x_zast hA d_O_reboot_38 hO.begun.1 hO.begun.2 rfl hi20 (sdB_v hb21) (fun M22 e23 => ?_)
      have hw := hw M22 e23
      clear e23
      refine x_iinc 2 1 [(2, .int (x2 + 1)), (0, .ref 116)] d_O_reboot_39 rfl (congrArg (HAdd.hAdd x2) (show Int32.ofInt 1 = 1 by decide)) (by decide) rfl ?_
      refine x_goto 27 d_O_reboot_42 rfl ?_
      refine x_sub [1, 0] [(0, .ref 116), (2, .int (x2 + 1))] rfl ?_
      exact ih M22 (x2 + 1) hw
def w_O_reboot (M : sdM) (Q : Int32 → sdM → Prop) : Prop := ∀ M24 : sdM, M24 = sd_s M 116 0 (0 : Int32) → (¬ (M24 116 25) = 0 → sdB (0 : Int32) ∧ ∀ M26 : sdM, M26 = sd_s M24 116 25 (0 : Int32) → w_O_become M26 (1 : Int32) (fun r30 M29 => ∃ N9 : Nat, h_O_reboot_27 Q N9 M29 (0 : Int32))) ∧ ((M24 116 25) = 0 → sdB (0 : Int32) ∧ Q (0 : Int32) M24)
set_option maxHeartbeats 1000000 in
theorem c_O_reboot (hA : sd_ad b n ad) (hT : l.stackTraces = false) (hO : isO n L dA) {Q : Int32 → sdM → Prop} {M : sdM} (hw : w_O_reboot M Q) : sd_Cn l (sdE0 sc) y_O_reboot Y_O_reboot.2.2.2.2.1 Y_O_reboot.2.2.2.2.2.1 0 0 D (sd_tys dA) b n ad L M [.ref 116] (sd_qi Q) sd_xf := by
  refine sd_enter (Y := Y_O_reboot) rfl rfl rfl rfl (Nat.le_of_ble_eq_true rfl) ?_
  show sdW l (sdE0 sc) Y_O_reboot D (sd_tys dA) b n ad L ad (sd_H D (sdE0 sc).1 n ad L) (sd_qi Q) sd_xf 0 [(0, .ref 116)] [] M 0 0
  unfold w_O_reboot at hw
  refine x_aload_n 0 0 d_O_reboot_0 rfl rfl ?_
  refine x_iconst (v := 0) d_O_reboot_1 (by decide) ?_
  refine x_puti 0 (ty := .int) hA d_O_reboot_2 hO.1 hO.2.1 rfl rfl (by decide) lay_O (List.mem_cons_of_mem _ q446) rfl ty_O ty_O_ok nm_O rfl (by decide +kernel) rfl rfl (fun M24 e25 => ?_)
  have hw := hw M24 e25
  clear e25
  refine x_aload_n 0 0 d_O_reboot_5 rfl rfl ?_
  refine x_geti 25 d_O_reboot_6 hO.1 hO.2.1 rfl rfl (by decide) lay_O (List.mem_cons_of_mem _ q447) rfl ?_
  refine x_if_ne 14 d_O_reboot_9 rfl (fun hc => ?_) (fun hc => ?_)
  · have hw := hw.1 hc
    refine x_aload_n 0 0 d_O_reboot_14 rfl rfl ?_
    refine x_iconst (v := 0) d_O_reboot_15 (by decide) ?_
    obtain ⟨hb28, hw⟩ := hw
    refine x_puti 25 (ty := .boolean) hA d_O_reboot_16 hO.1 hO.2.1 rfl rfl (by decide) lay_O (List.mem_cons_of_mem _ q447) rfl ty_O ty_O_ok nm_O rfl (by decide +kernel) (sdB_n hb28) (sdB_f hb28) (fun M26 e27 => ?_)
    have hw := hw M26 e27
    clear e27
    refine x_aload_n 0 0 d_O_reboot_19 rfl rfl ?_
    refine x_iconst (v := 1) d_O_reboot_20 (by decide) ?_
    refine x_callVi (As := [.int (1 : Int32)]) (t := 116) (rest := []) (rc := 0) (rs := 0) (c_O_become hA hT hO hw) cw_O_reboot_O_become_202 hO.1 hO.2.1 rfl d_O_reboot_21 rfl rfl (Nat.le_of_ble_eq_true rfl) rfl (fun _ _ h => h.elim) (fun _ _ h => h) (fun r30 M29 hw => ?_)
    refine x_istore_n 1 [(1, .int r30), (0, .ref 116)] d_O_reboot_24 rfl (by decide) rfl ?_
    refine x_iconst (v := 0) d_O_reboot_25 (by decide) ?_
    refine x_istore_n 2 [(2, .int (0 : Int32)), (1, .int r30), (0, .ref 116)] d_O_reboot_26 rfl (by decide) rfl ?_
    refine x_sub [2, 0] [(0, .ref 116), (2, .int (0 : Int32))] rfl ?_
    obtain ⟨N9, hw⟩ := hw
    exact t_O_reboot_27 hA hT hO N9 M29 (0 : Int32) hw
  · have hw := hw.2 hc
    refine x_iconst (v := 0) d_O_reboot_12 (by decide) ?_
    exact x_zret d_O_reboot_13 rfl (sdB_n hw.1) (fun _ h => h) ⟨_, rfl, hw.2⟩
end
abbrev y_O_figure : MethodName := ⟨"SettingsDeskModel", "figure", "(I)I"⟩
theorem d_O_figure_0 : decode prog_12_method_51_code 0 = .ok (.aload_n 0, 1) := by decide +kernel
theorem d_O_figure_1 : decode prog_12_method_51_code 1 = .ok (.iconst 0, 1) := by decide +kernel
theorem d_O_figure_2 : decode prog_12_method_51_code 2 = .ok (.putfield 69, 3) := by decide +kernel
theorem d_O_figure_5 : decode prog_12_method_51_code 5 = .ok (.iload_n 1, 1) := by decide +kernel
theorem d_O_figure_6 : decode prog_12_method_51_code 6 = .ok (.bipush (10), 2) := by decide +kernel
theorem d_O_figure_8 : decode prog_12_method_51_code 8 = .ok (.if_icmp .lt (24), 3) := by decide +kernel
theorem d_O_figure_11 : decode prog_12_method_51_code 11 = .ok (.aload_n 0, 1) := by decide +kernel
theorem d_O_figure_12 : decode prog_12_method_51_code 12 = .ok (.iload_n 1, 1) := by decide +kernel
theorem d_O_figure_13 : decode prog_12_method_51_code 13 = .ok (.bipush (10), 2) := by decide +kernel
theorem d_O_figure_15 : decode prog_12_method_51_code 15 = .ok (.isub, 1) := by decide +kernel
theorem d_O_figure_16 : decode prog_12_method_51_code 16 = .ok (.invokevirtual 72, 3) := by decide +kernel
theorem d_O_figure_19 : decode prog_12_method_51_code 19 = .ok (.ifCond .eq (13), 3) := by decide +kernel
theorem d_O_figure_22 : decode prog_12_method_51_code 22 = .ok (.aload_n 0, 1) := by decide +kernel
theorem d_O_figure_23 : decode prog_12_method_51_code 23 = .ok (.getfield 51, 3) := by decide +kernel
theorem d_O_figure_26 : decode prog_12_method_51_code 26 = .ok (.iload_n 1, 1) := by decide +kernel
theorem d_O_figure_27 : decode prog_12_method_51_code 27 = .ok (.bipush (10), 2) := by decide +kernel
theorem d_O_figure_29 : decode prog_12_method_51_code 29 = .ok (.isub, 1) := by decide +kernel
theorem d_O_figure_30 : decode prog_12_method_51_code 30 = .ok (.iaload, 1) := by decide +kernel
theorem d_O_figure_31 : decode prog_12_method_51_code 31 = .ok (.ireturn, 1) := by decide +kernel
theorem d_O_figure_32 : decode prog_12_method_51_code 32 = .ok (.iload_n 1, 1) := by decide +kernel
theorem d_O_figure_33 : decode prog_12_method_51_code 33 = .ok (.tableswitch (104) (0) (8) #[51, 56, 61, 66, 71, 84, 89, 94, 99], 51) := by decide +kernel
theorem d_O_figure_84 : decode prog_12_method_51_code 84 = .ok (.aload_n 0, 1) := by decide +kernel
theorem d_O_figure_85 : decode prog_12_method_51_code 85 = .ok (.getfield 150, 3) := by decide +kernel
theorem d_O_figure_88 : decode prog_12_method_51_code 88 = .ok (.ireturn, 1) := by decide +kernel
theorem d_O_figure_89 : decode prog_12_method_51_code 89 = .ok (.aload_n 0, 1) := by decide +kernel
theorem d_O_figure_90 : decode prog_12_method_51_code 90 = .ok (.getfield 147, 3) := by decide +kernel
theorem d_O_figure_93 : decode prog_12_method_51_code 93 = .ok (.ireturn, 1) := by decide +kernel
theorem d_O_figure_94 : decode prog_12_method_51_code 94 = .ok (.aload_n 0, 1) := by decide +kernel
theorem d_O_figure_95 : decode prog_12_method_51_code 95 = .ok (.getfield 192, 3) := by decide +kernel
theorem d_O_figure_98 : decode prog_12_method_51_code 98 = .ok (.ireturn, 1) := by decide +kernel
theorem d_O_figure_99 : decode prog_12_method_51_code 99 = .ok (.aload_n 0, 1) := by decide +kernel
theorem d_O_figure_100 : decode prog_12_method_51_code 100 = .ok (.getfield 66, 3) := by decide +kernel
theorem d_O_figure_103 : decode prog_12_method_51_code 103 = .ok (.ireturn, 1) := by decide +kernel
theorem d_O_figure_104 : decode prog_12_method_51_code 104 = .ok (.aload_n 0, 1) := by decide +kernel
theorem d_O_figure_105 : decode prog_12_method_51_code 105 = .ok (.getfield 76, 3) := by decide +kernel
theorem d_O_figure_108 : decode prog_12_method_51_code 108 = .ok (.ifCond .eq (7), 3) := by decide +kernel
theorem d_O_figure_111 : decode prog_12_method_51_code 111 = .ok (.iconst 1, 1) := by decide +kernel
theorem d_O_figure_112 : decode prog_12_method_51_code 112 = .ok (.goto (4), 3) := by decide +kernel
theorem d_O_figure_115 : decode prog_12_method_51_code 115 = .ok (.iconst 0, 1) := by decide +kernel
theorem d_O_figure_116 : decode prog_12_method_51_code 116 = .ok (.ireturn, 1) := by decide +kernel
theorem d_O_figure_117 : decode prog_12_method_51_code 117 = .ok (.aload_n 0, 1) := by decide +kernel
theorem d_O_figure_118 : decode prog_12_method_51_code 118 = .ok (.getfield 180, 3) := by decide +kernel
theorem d_O_figure_121 : decode prog_12_method_51_code 121 = .ok (.ireturn, 1) := by decide +kernel
theorem d_O_figure_122 : decode prog_12_method_51_code 122 = .ok (.aload_n 0, 1) := by decide +kernel
theorem d_O_figure_123 : decode prog_12_method_51_code 123 = .ok (.getfield 183, 3) := by decide +kernel
theorem d_O_figure_126 : decode prog_12_method_51_code 126 = .ok (.ireturn, 1) := by decide +kernel
theorem d_O_figure_127 : decode prog_12_method_51_code 127 = .ok (.aload_n 0, 1) := by decide +kernel
theorem d_O_figure_128 : decode prog_12_method_51_code 128 = .ok (.getfield 186, 3) := by decide +kernel
theorem d_O_figure_131 : decode prog_12_method_51_code 131 = .ok (.ireturn, 1) := by decide +kernel
theorem d_O_figure_132 : decode prog_12_method_51_code 132 = .ok (.aload_n 0, 1) := by decide +kernel
theorem d_O_figure_133 : decode prog_12_method_51_code 133 = .ok (.getfield 189, 3) := by decide +kernel
theorem d_O_figure_136 : decode prog_12_method_51_code 136 = .ok (.ireturn, 1) := by decide +kernel
theorem d_O_figure_137 : decode prog_12_method_51_code 137 = .ok (.iconst (-1), 1) := by decide +kernel
theorem d_O_figure_138 : decode prog_12_method_51_code 138 = .ok (.ireturn, 1) := by decide +kernel
def Y_O_figure : sdY := ("SettingsDeskModel", prog_12_method_51_code, 2, (some .int), .code y_O_figure prog_12_method_51_code 2 (some .int) :: sdB0, { frames := 1, cells := 0, slots := 0, locals := 21 }, 0, 0, [])
theorem cw_O_figure_O_isList_72 : sd_cwV Y_O_figure Y_O_isList y_O_isList 72 1 "SettingsDeskModel" := ⟨sd_goodV q455 q457 q458 q459 q456, ⟨_, rfl⟩, ⟨rfl, rfl, rfl, rfl⟩, ⟨rfl, by decide, by decide, by decide +kernel⟩, ⟨by decide, by decide⟩⟩
section
variable {l : Launch} {D : va_G} {dA : Nat → ClassId} {b n : Nat} {ad : Nat → Nat} {L : Nat → sdL} {sc : Option (Nat × Nat × (Nat → Int32))}
def k_O_figure_116 (Q : Int32 → sdM → Prop) (M : sdM) (s0 : Int32) : Prop := Q s0 M
set_option maxHeartbeats 1000000 in
theorem t_O_figure_116 (hA : sd_ad b n ad) (hT : l.stackTraces = false) (hO : isO n L dA) {Q : Int32 → sdM → Prop} (M : sdM) (s0 : Int32) (hw : k_O_figure_116 Q M s0) : sdW l (sdE0 sc) Y_O_figure D (sd_tys dA) b n ad L ad (sd_H D (sdE0 sc).1 n ad L) (sd_qi Q) sd_xf 116 [] [.int s0] M 0 0 := by
  unfold k_O_figure_116 at hw
  exact x_iret d_O_figure_116 rfl (fun _ h => h) ⟨_, rfl, hw⟩
def k_O_figure_32 (Q : Int32 → sdM → Prop) (M : sdM) (x1 : Int32) : Prop := (x1 = 0 → Q (M 116 21) M) ∧ (¬ x1 = 0 → (x1 = 1 → Q (M 116 20) M) ∧ (¬ x1 = 1 → (x1 = 2 → Q (M 116 24) M) ∧ (¬ x1 = 2 → (x1 = 3 → Q (M 116 23) M) ∧ (¬ x1 = 3 → (x1 = 4 → ((M 116 25) = 0 → k_O_figure_116 Q M (0 : Int32)) ∧ (¬ (M 116 25) = 0 → k_O_figure_116 Q M (1 : Int32))) ∧ (¬ x1 = 4 → (x1 = 5 → Q (M 116 27) M) ∧ (¬ x1 = 5 → (x1 = 6 → Q (M 116 28) M) ∧ (¬ x1 = 6 → (x1 = 7 → Q (M 116 29) M) ∧ (¬ x1 = 7 → (x1 = 8 → Q (M 116 30) M) ∧ (¬ x1 = 8 → Q (-1 : Int32) M)))))))))
set_option maxHeartbeats 1000000 in
theorem t_O_figure_32 (hA : sd_ad b n ad) (hT : l.stackTraces = false) (hO : isO n L dA) {Q : Int32 → sdM → Prop} (M : sdM) (x1 : Int32) (hw : k_O_figure_32 Q M x1) : sdW l (sdE0 sc) Y_O_figure D (sd_tys dA) b n ad L ad (sd_H D (sdE0 sc).1 n ad L) (sd_qi Q) sd_xf 32 [(0, .ref 116), (1, .int x1)] [] M 0 0 := by
  unfold k_O_figure_32 at hw
  refine x_iload_n 1 1 d_O_figure_32 rfl rfl ?_
  -- switch at 33
  by_cases hx33_0 : x1 = 0
  · have hw := hw.1 hx33_0
    refine x_tin 84 d_O_figure_33 (by rw [hx33_0]; decide) (by rw [hx33_0]; decide) (by rw [hx33_0]; rfl) rfl ?_
    refine x_aload_n 0 0 d_O_figure_84 rfl rfl ?_
    refine x_geti 21 d_O_figure_85 hO.1 hO.2.1 rfl rfl (by decide) lay_O (List.mem_cons_of_mem _ q544) rfl ?_
    exact x_iret d_O_figure_88 rfl (fun _ h => h) ⟨_, rfl, hw⟩
  · have hw := hw.2 hx33_0
    by_cases hx33_1 : x1 = 1
    · have hw := hw.1 hx33_1
      refine x_tin 89 d_O_figure_33 (by rw [hx33_1]; decide) (by rw [hx33_1]; decide) (by rw [hx33_1]; rfl) rfl ?_
      refine x_aload_n 0 0 d_O_figure_89 rfl rfl ?_
      refine x_geti 20 d_O_figure_90 hO.1 hO.2.1 rfl rfl (by decide) lay_O (List.mem_cons_of_mem _ q543) rfl ?_
      exact x_iret d_O_figure_93 rfl (fun _ h => h) ⟨_, rfl, hw⟩
    · have hw := hw.2 hx33_1
      by_cases hx33_2 : x1 = 2
      · have hw := hw.1 hx33_2
        refine x_tin 94 d_O_figure_33 (by rw [hx33_2]; decide) (by rw [hx33_2]; decide) (by rw [hx33_2]; rfl) rfl ?_
        refine x_aload_n 0 0 d_O_figure_94 rfl rfl ?_
        refine x_geti 24 d_O_figure_95 hO.1 hO.2.1 rfl rfl (by decide) lay_O (List.mem_cons_of_mem _ q574) rfl ?_
        exact x_iret d_O_figure_98 rfl (fun _ h => h) ⟨_, rfl, hw⟩
      · have hw := hw.2 hx33_2
        by_cases hx33_3 : x1 = 3
        · have hw := hw.1 hx33_3
          refine x_tin 99 d_O_figure_33 (by rw [hx33_3]; decide) (by rw [hx33_3]; decide) (by rw [hx33_3]; rfl) rfl ?_
          refine x_aload_n 0 0 d_O_figure_99 rfl rfl ?_
          refine x_geti 23 d_O_figure_100 hO.1 hO.2.1 rfl rfl (by decide) lay_O (List.mem_cons_of_mem _ q561) rfl ?_
          exact x_iret d_O_figure_103 rfl (fun _ h => h) ⟨_, rfl, hw⟩
        · have hw := hw.2 hx33_3
          by_cases hx33_4 : x1 = 4
          · have hw := hw.1 hx33_4
            refine x_tin 104 d_O_figure_33 (by rw [hx33_4]; decide) (by rw [hx33_4]; decide) (by rw [hx33_4]; rfl) rfl ?_
            refine x_aload_n 0 0 d_O_figure_104 rfl rfl ?_
            refine x_geti 25 d_O_figure_105 hO.1 hO.2.1 rfl rfl (by decide) lay_O (List.mem_cons_of_mem _ q447) rfl ?_
            refine x_if_eq 115 d_O_figure_108 rfl (fun hc => ?_) (fun hc => ?_)
            · have hw := hw.1 hc
              refine x_iconst (v := 0) d_O_figure_115 (by decide) ?_
              refine x_sub [] [] rfl ?_
              exact t_O_figure_116 hA hT hO M (0 : Int32) hw
            · have hw := hw.2 hc
              refine x_iconst (v := 1) d_O_figure_111 (by decide) ?_
              refine x_goto 116 d_O_figure_112 rfl ?_
              refine x_sub [] [] rfl ?_
              exact t_O_figure_116 hA hT hO M (1 : Int32) hw
          · have hw := hw.2 hx33_4
            by_cases hx33_5 : x1 = 5
            · have hw := hw.1 hx33_5
              refine x_tin 117 d_O_figure_33 (by rw [hx33_5]; decide) (by rw [hx33_5]; decide) (by rw [hx33_5]; rfl) rfl ?_
              refine x_aload_n 0 0 d_O_figure_117 rfl rfl ?_
              refine x_geti 27 d_O_figure_118 hO.1 hO.2.1 rfl rfl (by decide) lay_O (List.mem_cons_of_mem _ q539) rfl ?_
              exact x_iret d_O_figure_121 rfl (fun _ h => h) ⟨_, rfl, hw⟩
            · have hw := hw.2 hx33_5
              by_cases hx33_6 : x1 = 6
              · have hw := hw.1 hx33_6
                refine x_tin 122 d_O_figure_33 (by rw [hx33_6]; decide) (by rw [hx33_6]; decide) (by rw [hx33_6]; rfl) rfl ?_
                refine x_aload_n 0 0 d_O_figure_122 rfl rfl ?_
                refine x_geti 28 d_O_figure_123 hO.1 hO.2.1 rfl rfl (by decide) lay_O (List.mem_cons_of_mem _ q540) rfl ?_
                exact x_iret d_O_figure_126 rfl (fun _ h => h) ⟨_, rfl, hw⟩
              · have hw := hw.2 hx33_6
                by_cases hx33_7 : x1 = 7
                · have hw := hw.1 hx33_7
                  refine x_tin 127 d_O_figure_33 (by rw [hx33_7]; decide) (by rw [hx33_7]; decide) (by rw [hx33_7]; rfl) rfl ?_
                  refine x_aload_n 0 0 d_O_figure_127 rfl rfl ?_
                  refine x_geti 29 d_O_figure_128 hO.1 hO.2.1 rfl rfl (by decide) lay_O (List.mem_cons_of_mem _ q541) rfl ?_
                  exact x_iret d_O_figure_131 rfl (fun _ h => h) ⟨_, rfl, hw⟩
                · have hw := hw.2 hx33_7
                  by_cases hx33_8 : x1 = 8
                  · have hw := hw.1 hx33_8
                    refine x_tin 132 d_O_figure_33 (by rw [hx33_8]; decide) (by rw [hx33_8]; decide) (by rw [hx33_8]; rfl) rfl ?_
                    refine x_aload_n 0 0 d_O_figure_132 rfl rfl ?_
                    refine x_geti 30 d_O_figure_133 hO.1 hO.2.1 rfl rfl (by decide) lay_O (List.mem_cons_of_mem _ q542) rfl ?_
                    exact x_iret d_O_figure_136 rfl (fun _ h => h) ⟨_, rfl, hw⟩
                  · have hw := hw.2 hx33_8
                    refine x_tout 137 d_O_figure_33 (by have g0 := lv_neT hx33_0 (show (0 : Int32).toInt = 0 from rfl); have g1 := lv_neT hx33_1 (show (1 : Int32).toInt = 1 from rfl); have g2 := lv_neT hx33_2 (show (2 : Int32).toInt = 2 from rfl); have g3 := lv_neT hx33_3 (show (3 : Int32).toInt = 3 from rfl); have g4 := lv_neT hx33_4 (show (4 : Int32).toInt = 4 from rfl); have g5 := lv_neT hx33_5 (show (5 : Int32).toInt = 5 from rfl); have g6 := lv_neT hx33_6 (show (6 : Int32).toInt = 6 from rfl); have g7 := lv_neT hx33_7 (show (7 : Int32).toInt = 7 from rfl); have g8 := lv_neT hx33_8 (show (8 : Int32).toInt = 8 from rfl); omega) rfl ?_
                    refine x_iconst (v := (-1)) d_O_figure_137 (by decide) ?_
                    exact x_iret d_O_figure_138 rfl (fun _ h => h) ⟨_, rfl, hw⟩
def w_O_figure (M : sdM) (a1 : Int32) (Q : Int32 → sdM → Prop) : Prop := ∀ M6 : sdM, M6 = sd_s M 116 0 (0 : Int32) → (a1 < (10 : Int32) → k_O_figure_32 Q M6 a1) ∧ (¬ a1 < (10 : Int32) → w_O_isList M6 (a1 - (10 : Int32)) (fun r9 M8 => (r9 = 0 → k_O_figure_32 Q M8 a1) ∧ (¬ r9 = 0 → vp_in (a1 - (10 : Int32)) 68 ∧ Q (M8 129 (a1 - (10 : Int32)).toNatClampNeg) M8)))
set_option maxHeartbeats 1000000 in
theorem c_O_figure {a1 : Int32} (hA : sd_ad b n ad) (hT : l.stackTraces = false) (hO : isO n L dA) {Q : Int32 → sdM → Prop} {M : sdM} (hw : w_O_figure M a1 Q) : sd_Cn l (sdE0 sc) y_O_figure Y_O_figure.2.2.2.2.1 Y_O_figure.2.2.2.2.2.1 0 0 D (sd_tys dA) b n ad L M [.ref 116, .int a1] (sd_qi Q) sd_xf := by
  refine sd_enter (Y := Y_O_figure) rfl rfl rfl rfl (Nat.le_of_ble_eq_true rfl) ?_
  show sdW l (sdE0 sc) Y_O_figure D (sd_tys dA) b n ad L ad (sd_H D (sdE0 sc).1 n ad L) (sd_qi Q) sd_xf 0 [(0, .ref 116), (1, .int a1)] [] M 0 0
  unfold w_O_figure at hw
  refine x_aload_n 0 0 d_O_figure_0 rfl rfl ?_
  refine x_iconst (v := 0) d_O_figure_1 (by decide) ?_
  refine x_puti 0 (ty := .int) hA d_O_figure_2 hO.1 hO.2.1 rfl rfl (by decide) lay_O (List.mem_cons_of_mem _ q446) rfl ty_O ty_O_ok nm_O rfl (by decide +kernel) rfl rfl (fun M6 e7 => ?_)
  have hw := hw M6 e7
  clear e7
  refine x_iload_n 1 1 d_O_figure_5 rfl rfl ?_
  refine x_bipush (v := 10) d_O_figure_6 (by decide) ?_
  refine x_icmp_lt 32 d_O_figure_8 rfl (fun hc => ?_) (fun hc => ?_)
  · have hw := hw.1 hc
    exact t_O_figure_32 hA hT hO M6 a1 hw
  · have hw := hw.2 hc
    refine x_aload_n 0 0 d_O_figure_11 rfl rfl ?_
    refine x_iload_n 1 1 d_O_figure_12 rfl rfl ?_
    refine x_bipush (v := 10) d_O_figure_13 (by decide) ?_
    refine x_isub d_O_figure_15 ?_
    refine x_callVi (As := [.int (a1 - (10 : Int32))]) (t := 116) (rest := []) (rc := 0) (rs := 0) (c_O_isList hA hT hO hw) cw_O_figure_O_isList_72 hO.1 hO.2.1 rfl d_O_figure_16 rfl rfl (Nat.le_of_ble_eq_true rfl) rfl (fun _ _ h => h.elim) (fun _ _ h => h) (fun r9 M8 hw => ?_)
    refine x_if_eq 32 d_O_figure_19 rfl (fun hc => ?_) (fun hc => ?_)
    · have hw := hw.1 hc
      exact t_O_figure_32 hA hT hO M8 a1 hw
    · have hw := hw.2 hc
      refine x_aload_n 0 0 d_O_figure_22 rfl rfl ?_
      refine x_getr 16 129 d_O_figure_23 hO.1 hO.2.1 rfl rfl (by decide) lay_O (List.mem_cons_of_mem _ q478) rfl ?_
      refine x_iload_n 1 1 d_O_figure_26 rfl rfl ?_
      refine x_bipush (v := 10) d_O_figure_27 (by decide) ?_
      refine x_isub d_O_figure_29 ?_
      obtain ⟨hi10, hw⟩ := hw
      refine x_iald d_O_figure_30 hO.sizes.1 hO.sizes.2 rfl hi10 ?_
      exact x_iret d_O_figure_31 rfl (fun _ h => h) ⟨_, rfl, hw⟩
end
