section
variable {l : Launch} {D : va_G} {dA : Nat → ClassId} {b : Nat} {ad : Nat → Nat} {L : Nat → sdL} {aF : Nat → Nat} {sa N : Nat} {xs : Nat → Int32}
-- case 0
set_option maxHeartbeats 1000000 in
theorem lk_0 (hA : sd_ad b 135 ad) (hT : l.stackTraces = false) (hD : isD 135 L dA) (hO : isO 135 L dA) (hJ : isJ 135 L dA) (hloc : sd_loc 135 L) {j rc rs : Nat} (hj9 : j ≤ 1000) (hv1 : vp_in (zN (6 * j) + 1) N) (hv2 : vp_in (zN (6 * j) + 2) N) (hv3 : vp_in (zN (6 * j) + 3) N) (hv4 : vp_in (zN (6 * j) + 4) N) (hv5 : vp_in (zN (6 * j) + 5) N) {M : sdM} (hI : INV j M) (k : ∀ M9, INV (j + 1) M9 → sdW l (sdE0 (some (sa, N, xs))) Y_law D (sd_tys dA) b 135 ad L aF (fun _ _ => True) (fun v _ => v = some (.int 1)) sd_xf 1515 [(4, .int (zN (6 * j))), (3, .ref 134), (2, .ref 116), (1, .ref 0), (0, .retAddr sa)] [] M9 rc rs) : sdW l (sdE0 (some (sa, N, xs))) Y_law D (sd_tys dA) b 135 ad L aF (fun _ _ => True) (fun v _ => v = some (.int 1)) sd_xf 136 [(4, .int (zN (6 * j))), (3, .ref 134), (2, .ref 116), (1, .ref 0), (0, .retAddr sa)] [] M (rc + 6) (rs + 36) := by
  refine x_aload_n 1 3 dW_136 rfl rfl ?_
  refine x_aload_n 3 1 dW_137 rfl rfl ?_
  refine x_wide (rc + 2) (rs + 12) (by omega) (by omega) ?_
  refine x_callSHi (As := [.ref 0, .ref 134]) (rest := []) (rc := rc) (rs := rs) (c_L_list hA hT hD hJ (J_list hI)) cw_law_L_list dW_138 rfl rfl (Nat.le_of_ble_eq_true rfl) rfl (fun _ _ h => h.elim) (fun _ _ _ => trivial) (fun k5 M1 hq => ?_)
  refine x_istore 5 [(5, .int k5), (4, .int (zN (6 * j))), (3, .ref 134), (2, .ref 116), (1, .ref 0), (0, .retAddr sa)] dW_141 (by decide) rfl ?_
  refine x_aload_n 2 3 dW_143 rfl rfl ?_
  refine x_callVi (As := []) (t := 116) (rest := []) (rc := rc) (rs := rs) (c_O_list hA hT hO hq) cw_law_O_list hO.1 hO.2.1 rfl dW_144 rfl rfl (Nat.le_of_ble_eq_true rfl) rfl (fun _ _ h => h.elim) (fun _ _ _ => trivial) (fun b6 M2 hg => ?_)
  refine x_istore 6 [(6, .int b6), (5, .int k5), (4, .int (zN (6 * j))), (3, .ref 134), (2, .ref 116), (1, .ref 0), (0, .retAddr sa)] dW_147 (by decide) rfl ?_
  refine x_aload_n 2 4 dW_149 rfl rfl ?_
  refine x_callVi (As := []) (t := 116) (rest := []) (rc := rc) (rs := rs) (c_O_thrown hA hT hO (Q := fun r M9 => r = M2 116 0 ∧ M9 = M2) ⟨rfl, rfl⟩) cw_law_O_thrown hO.1 hO.2.1 rfl dW_150 rfl rfl (Nat.le_of_ble_eq_true rfl) rfl (fun _ _ h => h.elim) (fun _ _ _ => trivial) (fun r9 M9 h9 => ?_)
  obtain ⟨e9, f9⟩ := h9
  subst e9
  subst f9
  refine x_iload 5 1 dW_153 rfl ?_
  refine x_icmp_eq 160 dW_155 rfl (fun _ => ?_) (fun h => (h hg.1).elim)
  refine x_iload 5 1 dW_160 rfl ?_
  have hend : sdW l (sdE0 (some (sa, N, xs))) Y_law D (sd_tys dA) b 135 ad L aF (fun _ _ => True) (fun v _ => v = some (.int 1)) sd_xf 177 [(6, .int b6), (5, .int k5), (4, .int (zN (6 * j))), (3, .ref 134), (2, .ref 116), (1, .ref 0), (0, .retAddr sa)] [] M9 rc rs := x_sub [2, 3, 4, 5, 6] [(4, .int (zN (6 * j))), (3, .ref 134), (2, .ref 116), (1, .ref 0), (0, .retAddr sa)] rfl (x_goto 1515 dW_177 rfl (k M9 hg.2.2))
  refine x_if_ne 177 dW_162 rfl (fun _ => hend) (fun h0 => ?_)
  refine x_aload_n 3 3 dW_165 rfl rfl ?_
  refine x_iconst (v := 0) dW_166 (by decide) ?_
  refine x_lald dW_167 hJ.1 hJ.2 rfl rfl sd_in01 ?_
  have eo : M9 134 (0 : Int32).toNatClampNeg = b6 := hg.2.1 h0
  rw [eo]
  refine x_iload 6 0 dW_168 rfl ?_
  refine x_i2l dW_170 ?_
  refine x_lcmp0 dW_171 ?_
  exact x_if_eq 177 dW_172 rfl (fun _ => hend) (fun h => absurd rfl h)
-- case 1
set_option maxHeartbeats 1000000 in
theorem lk_1 (hA : sd_ad b 135 ad) (hT : l.stackTraces = false) (hD : isD 135 L dA) (hO : isO 135 L dA) (hJ : isJ 135 L dA) (hloc : sd_loc 135 L) {j rc rs : Nat} (hj9 : j ≤ 1000) (hv1 : vp_in (zN (6 * j) + 1) N) (hv2 : vp_in (zN (6 * j) + 2) N) (hv3 : vp_in (zN (6 * j) + 3) N) (hv4 : vp_in (zN (6 * j) + 4) N) (hv5 : vp_in (zN (6 * j) + 5) N) {M : sdM} (hI : INV j M) (k : ∀ M9, INV (j + 1) M9 → sdW l (sdE0 (some (sa, N, xs))) Y_law D (sd_tys dA) b 135 ad L aF (fun _ _ => True) (fun v _ => v = some (.int 1)) sd_xf 1515 [(4, .int (zN (6 * j))), (3, .ref 134), (2, .ref 116), (1, .ref 0), (0, .retAddr sa)] [] M9 rc rs) : sdW l (sdE0 (some (sa, N, xs))) Y_law D (sd_tys dA) b 135 ad L aF (fun _ _ => True) (fun v _ => v = some (.int 1)) sd_xf 180 [(4, .int (zN (6 * j))), (3, .ref 134), (2, .ref 116), (1, .ref 0), (0, .retAddr sa)] [] M (rc + 6) (rs + 36) := by
  refine x_aload_n 1 3 dW_180 rfl rfl ?_
  refine x_aload_s 0 4 dW_181 rfl rfl ?_
  refine x_iload 4 0 dW_182 rfl ?_
  refine x_iconst (v := 1) dW_184 (by decide) ?_
  refine x_iadd dW_185 ?_
  refine x_sld (q := (sa, N, xs)) rfl dW_186 hv1 ?_
  refine x_aload_s 0 4 dW_187 rfl rfl ?_
  refine x_iload 4 0 dW_188 rfl ?_
  refine x_iconst (v := 2) dW_190 (by decide) ?_
  refine x_iadd dW_191 ?_
  refine x_sld (q := (sa, N, xs)) rfl dW_192 hv2 ?_
  refine x_aload_s 0 4 dW_193 rfl rfl ?_
  refine x_iload 4 0 dW_194 rfl ?_
  refine x_iconst (v := 3) dW_196 (by decide) ?_
  refine x_iadd dW_197 ?_
  refine x_sld (q := (sa, N, xs)) rfl dW_198 hv3 ?_
  refine x_aload_s 0 4 dW_199 rfl rfl ?_
  refine x_iload 4 0 dW_200 rfl ?_
  refine x_iconst (v := 4) dW_202 (by decide) ?_
  refine x_iadd dW_203 ?_
  refine x_sld (q := (sa, N, xs)) rfl dW_204 hv4 ?_
  refine x_aload_s 0 4 dW_205 rfl rfl ?_
  refine x_iload 4 0 dW_206 rfl ?_
  refine x_iconst (v := 5) dW_208 (by decide) ?_
  refine x_iadd dW_209 ?_
  refine x_sld (q := (sa, N, xs)) rfl dW_210 hv5 ?_
  refine x_aload_n 3 1 dW_211 rfl rfl ?_
  refine x_wide (rc + 3) (rs + 18) (by omega) (by omega) ?_
  refine x_callSHi (As := [.ref 0, .int (xs ((zN (6 * j)) + 1).toNatClampNeg), .int (xs ((zN (6 * j)) + 2).toNatClampNeg), .int (xs ((zN (6 * j)) + 3).toNatClampNeg), .int (xs ((zN (6 * j)) + 4).toNatClampNeg), .int (xs ((zN (6 * j)) + 5).toNatClampNeg), .ref 134]) (rest := []) (rc := rc) (rs := rs) (c_L_leaf hA hT hD hJ (J_leaf hI)) cw_law_L_leaf dW_212 rfl rfl (Nat.le_of_ble_eq_true rfl) rfl (fun _ _ h => h.elim) (fun _ _ _ => trivial) (fun k5 M1 hq => ?_)
  refine x_istore 5 [(5, .int k5), (4, .int (zN (6 * j))), (3, .ref 134), (2, .ref 116), (1, .ref 0), (0, .retAddr sa)] dW_215 (by decide) rfl ?_
  refine x_aload_n 2 3 dW_217 rfl rfl ?_
  refine x_aload_s 0 5 dW_218 rfl rfl ?_
  refine x_iload 4 1 dW_219 rfl ?_
  refine x_iconst (v := 1) dW_221 (by decide) ?_
  refine x_iadd dW_222 ?_
  refine x_sld (q := (sa, N, xs)) rfl dW_223 hv1 ?_
  refine x_aload_s 0 5 dW_224 rfl rfl ?_
  refine x_iload 4 1 dW_225 rfl ?_
  refine x_iconst (v := 2) dW_227 (by decide) ?_
  refine x_iadd dW_228 ?_
  refine x_sld (q := (sa, N, xs)) rfl dW_229 hv2 ?_
  refine x_aload_s 0 5 dW_230 rfl rfl ?_
  refine x_iload 4 1 dW_231 rfl ?_
  refine x_iconst (v := 3) dW_233 (by decide) ?_
  refine x_iadd dW_234 ?_
  refine x_sld (q := (sa, N, xs)) rfl dW_235 hv3 ?_
  refine x_aload_s 0 5 dW_236 rfl rfl ?_
  refine x_iload 4 1 dW_237 rfl ?_
  refine x_iconst (v := 4) dW_239 (by decide) ?_
  refine x_iadd dW_240 ?_
  refine x_sld (q := (sa, N, xs)) rfl dW_241 hv4 ?_
  refine x_aload_s 0 5 dW_242 rfl rfl ?_
  refine x_iload 4 1 dW_243 rfl ?_
  refine x_iconst (v := 5) dW_245 (by decide) ?_
  refine x_iadd dW_246 ?_
  refine x_sld (q := (sa, N, xs)) rfl dW_247 hv5 ?_
  refine x_callVi (As := [.int (xs ((zN (6 * j)) + 1).toNatClampNeg), .int (xs ((zN (6 * j)) + 2).toNatClampNeg), .int (xs ((zN (6 * j)) + 3).toNatClampNeg), .int (xs ((zN (6 * j)) + 4).toNatClampNeg), .int (xs ((zN (6 * j)) + 5).toNatClampNeg)]) (t := 116) (rest := []) (rc := rc) (rs := rs) (c_O_leaf hA hT hO hq) cw_law_O_leaf hO.1 hO.2.1 rfl dW_248 rfl rfl (Nat.le_of_ble_eq_true rfl) rfl (fun _ _ h => h.elim) (fun _ _ _ => trivial) (fun b6 M2 hg => ?_)
  refine x_istore 6 [(6, .int b6), (5, .int k5), (4, .int (zN (6 * j))), (3, .ref 134), (2, .ref 116), (1, .ref 0), (0, .retAddr sa)] dW_251 (by decide) rfl ?_
  refine x_aload_n 2 4 dW_253 rfl rfl ?_
  refine x_callVi (As := []) (t := 116) (rest := []) (rc := rc) (rs := rs) (c_O_thrown hA hT hO (Q := fun r M9 => r = M2 116 0 ∧ M9 = M2) ⟨rfl, rfl⟩) cw_law_O_thrown hO.1 hO.2.1 rfl dW_254 rfl rfl (Nat.le_of_ble_eq_true rfl) rfl (fun _ _ h => h.elim) (fun _ _ _ => trivial) (fun r9 M9 h9 => ?_)
  obtain ⟨e9, f9⟩ := h9
  subst e9
  subst f9
  refine x_iload 5 1 dW_257 rfl ?_
  refine x_icmp_eq 264 dW_259 rfl (fun _ => ?_) (fun h => (h hg.1).elim)
  refine x_iload 5 1 dW_264 rfl ?_
  have hend : sdW l (sdE0 (some (sa, N, xs))) Y_law D (sd_tys dA) b 135 ad L aF (fun _ _ => True) (fun v _ => v = some (.int 1)) sd_xf 281 [(6, .int b6), (5, .int k5), (4, .int (zN (6 * j))), (3, .ref 134), (2, .ref 116), (1, .ref 0), (0, .retAddr sa)] [] M9 rc rs := x_sub [2, 3, 4, 5, 6] [(4, .int (zN (6 * j))), (3, .ref 134), (2, .ref 116), (1, .ref 0), (0, .retAddr sa)] rfl (x_goto 1515 dW_281 rfl (k M9 hg.2.2))
  refine x_if_ne 281 dW_266 rfl (fun _ => hend) (fun h0 => ?_)
  refine x_aload_n 3 3 dW_269 rfl rfl ?_
  refine x_iconst (v := 0) dW_270 (by decide) ?_
  refine x_lald dW_271 hJ.1 hJ.2 rfl rfl sd_in01 ?_
  have eo : M9 134 (0 : Int32).toNatClampNeg = b6 := hg.2.1 h0
  rw [eo]
  refine x_iload 6 0 dW_272 rfl ?_
  refine x_i2l dW_274 ?_
  refine x_lcmp0 dW_275 ?_
  exact x_if_eq 281 dW_276 rfl (fun _ => hend) (fun h => absurd rfl h)
-- case 2
set_option maxHeartbeats 1000000 in
theorem lk_2 (hA : sd_ad b 135 ad) (hT : l.stackTraces = false) (hD : isD 135 L dA) (hO : isO 135 L dA) (hJ : isJ 135 L dA) (hloc : sd_loc 135 L) {j rc rs : Nat} (hj9 : j ≤ 1000) (hv1 : vp_in (zN (6 * j) + 1) N) (hv2 : vp_in (zN (6 * j) + 2) N) (hv3 : vp_in (zN (6 * j) + 3) N) (hv4 : vp_in (zN (6 * j) + 4) N) (hv5 : vp_in (zN (6 * j) + 5) N) {M : sdM} (hI : INV j M) (k : ∀ M9, INV (j + 1) M9 → sdW l (sdE0 (some (sa, N, xs))) Y_law D (sd_tys dA) b 135 ad L aF (fun _ _ => True) (fun v _ => v = some (.int 1)) sd_xf 1515 [(4, .int (zN (6 * j))), (3, .ref 134), (2, .ref 116), (1, .ref 0), (0, .retAddr sa)] [] M9 rc rs) : sdW l (sdE0 (some (sa, N, xs))) Y_law D (sd_tys dA) b 135 ad L aF (fun _ _ => True) (fun v _ => v = some (.int 1)) sd_xf 284 [(4, .int (zN (6 * j))), (3, .ref 134), (2, .ref 116), (1, .ref 0), (0, .retAddr sa)] [] M (rc + 6) (rs + 36) := by
  refine x_aload_n 1 3 dW_284 rfl rfl ?_
  refine x_aload_s 0 4 dW_285 rfl rfl ?_
  refine x_iload 4 0 dW_286 rfl ?_
  refine x_iconst (v := 1) dW_288 (by decide) ?_
  refine x_iadd dW_289 ?_
  refine x_sld (q := (sa, N, xs)) rfl dW_290 hv1 ?_
  refine x_aload_s 0 4 dW_291 rfl rfl ?_
  refine x_iload 4 0 dW_292 rfl ?_
  refine x_iconst (v := 2) dW_294 (by decide) ?_
  refine x_iadd dW_295 ?_
  refine x_sld (q := (sa, N, xs)) rfl dW_296 hv2 ?_
  refine x_aload_s 0 4 dW_297 rfl rfl ?_
  refine x_iload 4 0 dW_298 rfl ?_
  refine x_iconst (v := 3) dW_300 (by decide) ?_
  refine x_iadd dW_301 ?_
  refine x_sld (q := (sa, N, xs)) rfl dW_302 hv3 ?_
  refine x_wide (rc + 3) (rs + 18) (by omega) (by omega) ?_
  refine x_callSHi (As := [.ref 0, .int (xs ((zN (6 * j)) + 1).toNatClampNeg), .int (xs ((zN (6 * j)) + 2).toNatClampNeg), .int (xs ((zN (6 * j)) + 3).toNatClampNeg)]) (rest := []) (rc := rc) (rs := rs) (c_L_standard hA hT hD (J_standard hI)) cw_law_L_standard dW_303 rfl rfl (Nat.le_of_ble_eq_true rfl) rfl (fun _ _ h => h.elim) (fun _ _ _ => trivial) (fun k5 M1 hq => ?_)
  refine x_istore 5 [(5, .int k5), (4, .int (zN (6 * j))), (3, .ref 134), (2, .ref 116), (1, .ref 0), (0, .retAddr sa)] dW_306 (by decide) rfl ?_
  refine x_aload_n 2 3 dW_308 rfl rfl ?_
  refine x_aload_s 0 5 dW_309 rfl rfl ?_
  refine x_iload 4 1 dW_310 rfl ?_
  refine x_iconst (v := 1) dW_312 (by decide) ?_
  refine x_iadd dW_313 ?_
  refine x_sld (q := (sa, N, xs)) rfl dW_314 hv1 ?_
  refine x_aload_s 0 5 dW_315 rfl rfl ?_
  refine x_iload 4 1 dW_316 rfl ?_
  refine x_iconst (v := 2) dW_318 (by decide) ?_
  refine x_iadd dW_319 ?_
  refine x_sld (q := (sa, N, xs)) rfl dW_320 hv2 ?_
  refine x_aload_s 0 5 dW_321 rfl rfl ?_
  refine x_iload 4 1 dW_322 rfl ?_
  refine x_iconst (v := 3) dW_324 (by decide) ?_
  refine x_iadd dW_325 ?_
  refine x_sld (q := (sa, N, xs)) rfl dW_326 hv3 ?_
  refine x_callVv (As := [.int (xs ((zN (6 * j)) + 1).toNatClampNeg), .int (xs ((zN (6 * j)) + 2).toNatClampNeg), .int (xs ((zN (6 * j)) + 3).toNatClampNeg)]) (t := 116) (rest := []) (rc := rc) (rs := rs) (c_O_standard hA hT hO hq) cw_law_O_standard hO.1 hO.2.1 rfl dW_327 rfl rfl (Nat.le_of_ble_eq_true rfl) rfl (fun _ _ h => h.elim) (fun _ _ _ => trivial) (fun M2 hg => ?_)
  refine x_aload_n 2 3 dW_330 rfl rfl ?_
  refine x_callVi (As := []) (t := 116) (rest := []) (rc := rc) (rs := rs) (c_O_thrown hA hT hO (Q := fun r M9 => r = M2 116 0 ∧ M9 = M2) ⟨rfl, rfl⟩) cw_law_O_thrown hO.1 hO.2.1 rfl dW_331 rfl rfl (Nat.le_of_ble_eq_true rfl) rfl (fun _ _ h => h.elim) (fun _ _ _ => trivial) (fun r9 M9 h9 => ?_)
  obtain ⟨e9, f9⟩ := h9
  subst e9
  subst f9
  refine x_iload 5 0 dW_334 rfl ?_
  refine x_icmp_eq 341 dW_336 rfl (fun _ => ?_) (fun h => (h hg.1).elim)
  exact x_sub [1, 2, 3, 4, 5] [(4, .int (zN (6 * j))), (3, .ref 134), (2, .ref 116), (1, .ref 0), (0, .retAddr sa)] rfl (x_goto 1515 dW_341 rfl (k M9 hg.2))
-- case 3
set_option maxHeartbeats 1000000 in
theorem lk_3 (hA : sd_ad b 135 ad) (hT : l.stackTraces = false) (hD : isD 135 L dA) (hO : isO 135 L dA) (hJ : isJ 135 L dA) (hloc : sd_loc 135 L) {j rc rs : Nat} (hj9 : j ≤ 1000) (hv1 : vp_in (zN (6 * j) + 1) N) (hv2 : vp_in (zN (6 * j) + 2) N) (hv3 : vp_in (zN (6 * j) + 3) N) (hv4 : vp_in (zN (6 * j) + 4) N) (hv5 : vp_in (zN (6 * j) + 5) N) {M : sdM} (hI : INV j M) (k : ∀ M9, INV (j + 1) M9 → sdW l (sdE0 (some (sa, N, xs))) Y_law D (sd_tys dA) b 135 ad L aF (fun _ _ => True) (fun v _ => v = some (.int 1)) sd_xf 1515 [(4, .int (zN (6 * j))), (3, .ref 134), (2, .ref 116), (1, .ref 0), (0, .retAddr sa)] [] M9 rc rs) : sdW l (sdE0 (some (sa, N, xs))) Y_law D (sd_tys dA) b 135 ad L aF (fun _ _ => True) (fun v _ => v = some (.int 1)) sd_xf 344 [(4, .int (zN (6 * j))), (3, .ref 134), (2, .ref 116), (1, .ref 0), (0, .retAddr sa)] [] M (rc + 6) (rs + 36) := by
  refine x_aload_n 1 3 dW_344 rfl rfl ?_
  refine x_aload_s 0 4 dW_345 rfl rfl ?_
  refine x_iload 4 0 dW_346 rfl ?_
  refine x_iconst (v := 1) dW_348 (by decide) ?_
  refine x_iadd dW_349 ?_
  refine x_sld (q := (sa, N, xs)) rfl dW_350 hv1 ?_
  refine x_aload_s 0 4 dW_351 rfl rfl ?_
  refine x_iload 4 0 dW_352 rfl ?_
  refine x_iconst (v := 2) dW_354 (by decide) ?_
  refine x_iadd dW_355 ?_
  refine x_sld (q := (sa, N, xs)) rfl dW_356 hv2 ?_
  refine x_aload_s 0 4 dW_357 rfl rfl ?_
  refine x_iload 4 0 dW_358 rfl ?_
  refine x_iconst (v := 3) dW_360 (by decide) ?_
  refine x_iadd dW_361 ?_
  refine x_sld (q := (sa, N, xs)) rfl dW_362 hv3 ?_
  refine x_aload_s 0 4 dW_363 rfl rfl ?_
  refine x_iload 4 0 dW_364 rfl ?_
  refine x_iconst (v := 4) dW_366 (by decide) ?_
  refine x_iadd dW_367 ?_
  refine x_sld (q := (sa, N, xs)) rfl dW_368 hv4 ?_
  refine x_aload_s 0 4 dW_369 rfl rfl ?_
  refine x_iload 4 0 dW_370 rfl ?_
  refine x_iconst (v := 5) dW_372 (by decide) ?_
  refine x_iadd dW_373 ?_
  refine x_sld (q := (sa, N, xs)) rfl dW_374 hv5 ?_
  have jn1 : ∀ v : Int32, v = bI (decide (¬ (xs ((zN (6 * j)) + 5).toNatClampNeg) = 0)) → sdW l (sdE0 (some (sa, N, xs))) Y_law D (sd_tys dA) b 135 ad L aF (fun _ _ => True) (fun v _ => v = some (.int 1)) sd_xf 383 [(4, .int (zN (6 * j))), (3, .ref 134), (2, .ref 116), (1, .ref 0), (0, .retAddr sa)] [.int v, .int (xs ((zN (6 * j)) + 4).toNatClampNeg), .int (xs ((zN (6 * j)) + 3).toNatClampNeg), .int (xs ((zN (6 * j)) + 2).toNatClampNeg), .int (xs ((zN (6 * j)) + 1).toNatClampNeg), .ref 0] M (rc + 6) (rs + 36) := by
    intro v ev
    subst ev
    refine x_aload_n 3 1 dW_383 rfl rfl ?_
    refine x_wide (rc + 3) (rs + 18) (by omega) (by omega) ?_
    refine x_callSHi (As := [.ref 0, .int (xs ((zN (6 * j)) + 1).toNatClampNeg), .int (xs ((zN (6 * j)) + 2).toNatClampNeg), .int (xs ((zN (6 * j)) + 3).toNatClampNeg), .int (xs ((zN (6 * j)) + 4).toNatClampNeg), .int (bI (decide (¬ (xs ((zN (6 * j)) + 5).toNatClampNeg) = 0))), .ref 134]) (rest := []) (rc := rc) (rs := rs) (c_L_rule hA hT hD hJ (J_rule hI)) cw_law_L_rule dW_384 rfl rfl (Nat.le_of_ble_eq_true rfl) rfl (fun _ _ h => h.elim) (fun _ _ _ => trivial) (fun k5 M1 hq => ?_)
    refine x_istore 5 [(5, .int k5), (4, .int (zN (6 * j))), (3, .ref 134), (2, .ref 116), (1, .ref 0), (0, .retAddr sa)] dW_387 (by decide) rfl ?_
    refine x_aload_n 2 3 dW_389 rfl rfl ?_
    refine x_aload_s 0 5 dW_390 rfl rfl ?_
    refine x_iload 4 1 dW_391 rfl ?_
    refine x_iconst (v := 1) dW_393 (by decide) ?_
    refine x_iadd dW_394 ?_
    refine x_sld (q := (sa, N, xs)) rfl dW_395 hv1 ?_
    refine x_aload_s 0 5 dW_396 rfl rfl ?_
    refine x_iload 4 1 dW_397 rfl ?_
    refine x_iconst (v := 2) dW_399 (by decide) ?_
    refine x_iadd dW_400 ?_
    refine x_sld (q := (sa, N, xs)) rfl dW_401 hv2 ?_
    refine x_aload_s 0 5 dW_402 rfl rfl ?_
    refine x_iload 4 1 dW_403 rfl ?_
    refine x_iconst (v := 3) dW_405 (by decide) ?_
    refine x_iadd dW_406 ?_
    refine x_sld (q := (sa, N, xs)) rfl dW_407 hv3 ?_
    refine x_aload_s 0 5 dW_408 rfl rfl ?_
    refine x_iload 4 1 dW_409 rfl ?_
    refine x_iconst (v := 4) dW_411 (by decide) ?_
    refine x_iadd dW_412 ?_
    refine x_sld (q := (sa, N, xs)) rfl dW_413 hv4 ?_
    refine x_aload_s 0 5 dW_414 rfl rfl ?_
    refine x_iload 4 1 dW_415 rfl ?_
    refine x_iconst (v := 5) dW_417 (by decide) ?_
    refine x_iadd dW_418 ?_
    refine x_sld (q := (sa, N, xs)) rfl dW_419 hv5 ?_
    have jn2 : ∀ v : Int32, v = bI (decide (¬ (xs ((zN (6 * j)) + 5).toNatClampNeg) = 0)) → sdW l (sdE0 (some (sa, N, xs))) Y_law D (sd_tys dA) b 135 ad L aF (fun _ _ => True) (fun v _ => v = some (.int 1)) sd_xf 428 [(5, .int k5), (4, .int (zN (6 * j))), (3, .ref 134), (2, .ref 116), (1, .ref 0), (0, .retAddr sa)] [.int v, .int (xs ((zN (6 * j)) + 4).toNatClampNeg), .int (xs ((zN (6 * j)) + 3).toNatClampNeg), .int (xs ((zN (6 * j)) + 2).toNatClampNeg), .int (xs ((zN (6 * j)) + 1).toNatClampNeg), .ref 116] M1 rc rs := by
      intro v ev
      subst ev
      refine x_callVi (As := [.int (xs ((zN (6 * j)) + 1).toNatClampNeg), .int (xs ((zN (6 * j)) + 2).toNatClampNeg), .int (xs ((zN (6 * j)) + 3).toNatClampNeg), .int (xs ((zN (6 * j)) + 4).toNatClampNeg), .int (bI (decide (¬ (xs ((zN (6 * j)) + 5).toNatClampNeg) = 0)))]) (t := 116) (rest := []) (rc := rc) (rs := rs) (c_O_rule hA hT hO hq) cw_law_O_rule hO.1 hO.2.1 rfl dW_428 rfl rfl (Nat.le_of_ble_eq_true rfl) rfl (fun _ _ h => h.elim) (fun _ _ _ => trivial) (fun b6 M2 hg => ?_)
      refine x_istore 6 [(6, .int b6), (5, .int k5), (4, .int (zN (6 * j))), (3, .ref 134), (2, .ref 116), (1, .ref 0), (0, .retAddr sa)] dW_431 (by decide) rfl ?_
      refine x_aload_n 2 4 dW_433 rfl rfl ?_
      refine x_callVi (As := []) (t := 116) (rest := []) (rc := rc) (rs := rs) (c_O_thrown hA hT hO (Q := fun r M9 => r = M2 116 0 ∧ M9 = M2) ⟨rfl, rfl⟩) cw_law_O_thrown hO.1 hO.2.1 rfl dW_434 rfl rfl (Nat.le_of_ble_eq_true rfl) rfl (fun _ _ h => h.elim) (fun _ _ _ => trivial) (fun r9 M9 h9 => ?_)
      obtain ⟨e9, f9⟩ := h9
      subst e9
      subst f9
      refine x_iload 5 1 dW_437 rfl ?_
      refine x_icmp_eq 444 dW_439 rfl (fun _ => ?_) (fun h => (h hg.1).elim)
      refine x_iload 5 1 dW_444 rfl ?_
      have hend : sdW l (sdE0 (some (sa, N, xs))) Y_law D (sd_tys dA) b 135 ad L aF (fun _ _ => True) (fun v _ => v = some (.int 1)) sd_xf 461 [(6, .int b6), (5, .int k5), (4, .int (zN (6 * j))), (3, .ref 134), (2, .ref 116), (1, .ref 0), (0, .retAddr sa)] [] M9 rc rs := x_sub [2, 3, 4, 5, 6] [(4, .int (zN (6 * j))), (3, .ref 134), (2, .ref 116), (1, .ref 0), (0, .retAddr sa)] rfl (x_goto 1515 dW_461 rfl (k M9 hg.2.2))
      refine x_if_ne 461 dW_446 rfl (fun _ => hend) (fun h0 => ?_)
      refine x_aload_n 3 3 dW_449 rfl rfl ?_
      refine x_iconst (v := 0) dW_450 (by decide) ?_
      refine x_lald dW_451 hJ.1 hJ.2 rfl rfl sd_in01 ?_
      have eo : M9 134 (0 : Int32).toNatClampNeg = b6 := hg.2.1 h0
      rw [eo]
      refine x_iload 6 0 dW_452 rfl ?_
      refine x_i2l dW_454 ?_
      refine x_lcmp0 dW_455 ?_
      exact x_if_eq 461 dW_456 rfl (fun _ => hend) (fun h => absurd rfl h)
    exact x_if_eq 427 dW_420 rfl (fun h => x_iconst (v := 0) dW_427 (by decide) (jn2 0 (by rw [decide_eq_false (fun q => q h)]; rfl))) (fun h => x_iconst (v := 1) dW_423 (by decide) (x_goto 428 dW_424 rfl (jn2 1 (by rw [decide_eq_true h]; rfl))))
  exact x_if_eq 382 dW_375 rfl (fun h => x_iconst (v := 0) dW_382 (by decide) (jn1 0 (by rw [decide_eq_false (fun q => q h)]; rfl))) (fun h => x_iconst (v := 1) dW_378 (by decide) (x_goto 383 dW_379 rfl (jn1 1 (by rw [decide_eq_true h]; rfl))))
-- case 4
set_option maxHeartbeats 1000000 in
theorem lk_4 (hA : sd_ad b 135 ad) (hT : l.stackTraces = false) (hD : isD 135 L dA) (hO : isO 135 L dA) (hJ : isJ 135 L dA) (hloc : sd_loc 135 L) {j rc rs : Nat} (hj9 : j ≤ 1000) (hv1 : vp_in (zN (6 * j) + 1) N) (hv2 : vp_in (zN (6 * j) + 2) N) (hv3 : vp_in (zN (6 * j) + 3) N) (hv4 : vp_in (zN (6 * j) + 4) N) (hv5 : vp_in (zN (6 * j) + 5) N) {M : sdM} (hI : INV j M) (k : ∀ M9, INV (j + 1) M9 → sdW l (sdE0 (some (sa, N, xs))) Y_law D (sd_tys dA) b 135 ad L aF (fun _ _ => True) (fun v _ => v = some (.int 1)) sd_xf 1515 [(4, .int (zN (6 * j))), (3, .ref 134), (2, .ref 116), (1, .ref 0), (0, .retAddr sa)] [] M9 rc rs) : sdW l (sdE0 (some (sa, N, xs))) Y_law D (sd_tys dA) b 135 ad L aF (fun _ _ => True) (fun v _ => v = some (.int 1)) sd_xf 464 [(4, .int (zN (6 * j))), (3, .ref 134), (2, .ref 116), (1, .ref 0), (0, .retAddr sa)] [] M (rc + 6) (rs + 36) := by
  refine x_aload_n 1 3 dW_464 rfl rfl ?_
  refine x_aload_n 3 1 dW_465 rfl rfl ?_
  refine x_wide (rc + 3) (rs + 13) (by omega) (by omega) ?_
  refine x_callSHi (As := [.ref 0, .ref 134]) (rest := []) (rc := rc) (rs := rs) (c_L_ready hA hT hD hJ hloc (J_ready (n := 135) (by omega) hI)) cw_law_L_ready dW_466 rfl rfl (Nat.le_of_ble_eq_true rfl) rfl (fun _ _ h => h.elim) (fun _ _ _ => trivial) (fun k5 M1 hq => ?_)
  refine x_istore 5 [(5, .int k5), (4, .int (zN (6 * j))), (3, .ref 134), (2, .ref 116), (1, .ref 0), (0, .retAddr sa)] dW_469 (by decide) rfl ?_
  refine x_aload_n 2 3 dW_471 rfl rfl ?_
  refine x_callVi (As := []) (t := 116) (rest := []) (rc := rc) (rs := rs) (c_O_ready hA hT hO hq) cw_law_O_ready hO.1 hO.2.1 rfl dW_472 rfl rfl (Nat.le_of_ble_eq_true rfl) rfl (fun _ _ h => h.elim) (fun _ _ _ => trivial) (fun b6 M2 hg => ?_)
  refine x_istore 6 [(6, .int b6), (5, .int k5), (4, .int (zN (6 * j))), (3, .ref 134), (2, .ref 116), (1, .ref 0), (0, .retAddr sa)] dW_475 (by decide) rfl ?_
  refine x_aload_n 2 4 dW_477 rfl rfl ?_
  refine x_callVi (As := []) (t := 116) (rest := []) (rc := rc) (rs := rs) (c_O_thrown hA hT hO (Q := fun r M9 => r = M2 116 0 ∧ M9 = M2) ⟨rfl, rfl⟩) cw_law_O_thrown hO.1 hO.2.1 rfl dW_478 rfl rfl (Nat.le_of_ble_eq_true rfl) rfl (fun _ _ h => h.elim) (fun _ _ _ => trivial) (fun r9 M9 h9 => ?_)
  obtain ⟨e9, f9⟩ := h9
  subst e9
  subst f9
  refine x_iload 5 1 dW_481 rfl ?_
  refine x_icmp_eq 488 dW_483 rfl (fun _ => ?_) (fun h => (h hg.1.1).elim)
  refine x_iload 5 1 dW_488 rfl ?_
  have hend : sdW l (sdE0 (some (sa, N, xs))) Y_law D (sd_tys dA) b 135 ad L aF (fun _ _ => True) (fun v _ => v = some (.int 1)) sd_xf 512 [(6, .int b6), (5, .int k5), (4, .int (zN (6 * j))), (3, .ref 134), (2, .ref 116), (1, .ref 0), (0, .retAddr sa)] [] M9 rc rs := x_sub [2, 3, 4, 5, 6] [(4, .int (zN (6 * j))), (3, .ref 134), (2, .ref 116), (1, .ref 0), (0, .retAddr sa)] rfl (x_goto 1515 dW_512 rfl (k M9 hg.1.2.2))
  refine x_if_ne 512 dW_490 rfl (fun _ => hend) (fun h0 => ?_)
  refine x_aload_n 3 3 dW_493 rfl rfl ?_
  refine x_iconst (v := 0) dW_494 (by decide) ?_
  refine x_lald dW_495 hJ.1 hJ.2 rfl rfl sd_in01 ?_
  have eo : M9 134 (0 : Int32).toNatClampNeg = b6 := hg.1.2.1 h0
  rw [eo]
  refine x_iload 6 0 dW_496 rfl ?_
  rcases hg.2 h0 with hb | hb
  · subst hb
    refine x_if_eq 505 dW_498 rfl (fun _ => ?_) (fun h => absurd rfl h)
    refine x_lconst (v := 0) dW_505 (by decide) ?_
    refine x_lcmp0 dW_506 ?_
    exact x_if_eq 512 dW_507 rfl (fun _ => hend) (fun h => absurd rfl h)
  · subst hb
    refine x_if_eq 505 dW_498 rfl (fun h => absurd h (by decide)) (fun _ => ?_)
    refine x_lconst (v := 1) dW_501 (by decide) ?_
    refine x_goto 506 dW_502 rfl ?_
    refine x_lcmp0 dW_506 ?_
    exact x_if_eq 512 dW_507 rfl (fun _ => hend) (fun h => absurd rfl h)
-- case 5
set_option maxHeartbeats 1000000 in
theorem lk_5 (hA : sd_ad b 135 ad) (hT : l.stackTraces = false) (hD : isD 135 L dA) (hO : isO 135 L dA) (hJ : isJ 135 L dA) (hloc : sd_loc 135 L) {j rc rs : Nat} (hj9 : j ≤ 1000) (hv1 : vp_in (zN (6 * j) + 1) N) (hv2 : vp_in (zN (6 * j) + 2) N) (hv3 : vp_in (zN (6 * j) + 3) N) (hv4 : vp_in (zN (6 * j) + 4) N) (hv5 : vp_in (zN (6 * j) + 5) N) {M : sdM} (hI : INV j M) (k : ∀ M9, INV (j + 1) M9 → sdW l (sdE0 (some (sa, N, xs))) Y_law D (sd_tys dA) b 135 ad L aF (fun _ _ => True) (fun v _ => v = some (.int 1)) sd_xf 1515 [(4, .int (zN (6 * j))), (3, .ref 134), (2, .ref 116), (1, .ref 0), (0, .retAddr sa)] [] M9 rc rs) : sdW l (sdE0 (some (sa, N, xs))) Y_law D (sd_tys dA) b 135 ad L aF (fun _ _ => True) (fun v _ => v = some (.int 1)) sd_xf 515 [(4, .int (zN (6 * j))), (3, .ref 134), (2, .ref 116), (1, .ref 0), (0, .retAddr sa)] [] M (rc + 6) (rs + 36) := by
  refine x_aload_n 1 3 dW_515 rfl rfl ?_
  refine x_aload_s 0 4 dW_516 rfl rfl ?_
  refine x_iload 4 0 dW_517 rfl ?_
  refine x_iconst (v := 1) dW_519 (by decide) ?_
  refine x_iadd dW_520 ?_
  refine x_sld (q := (sa, N, xs)) rfl dW_521 hv1 ?_
  refine x_aload_n 3 1 dW_522 rfl rfl ?_
  refine x_wide (rc + 2) (rs + 12) (by omega) (by omega) ?_
  refine x_callSHi (As := [.ref 0, .int (xs ((zN (6 * j)) + 1).toNatClampNeg), .ref 134]) (rest := []) (rc := rc) (rs := rs) (c_L_begin hA hT hD hJ (J_begin hI)) cw_law_L_begin dW_523 rfl rfl (Nat.le_of_ble_eq_true rfl) rfl (fun _ _ h => h.elim) (fun _ _ _ => trivial) (fun k5 M1 hq => ?_)
  refine x_istore 5 [(5, .int k5), (4, .int (zN (6 * j))), (3, .ref 134), (2, .ref 116), (1, .ref 0), (0, .retAddr sa)] dW_526 (by decide) rfl ?_
  refine x_aload_n 2 3 dW_528 rfl rfl ?_
  refine x_aload_s 0 5 dW_529 rfl rfl ?_
  refine x_iload 4 1 dW_530 rfl ?_
  refine x_iconst (v := 1) dW_532 (by decide) ?_
  refine x_iadd dW_533 ?_
  refine x_sld (q := (sa, N, xs)) rfl dW_534 hv1 ?_
  refine x_callVi (As := [.int (xs ((zN (6 * j)) + 1).toNatClampNeg)]) (t := 116) (rest := []) (rc := rc) (rs := rs) (c_O_begin hA hT hO hq) cw_law_O_begin hO.1 hO.2.1 rfl dW_535 rfl rfl (Nat.le_of_ble_eq_true rfl) rfl (fun _ _ h => h.elim) (fun _ _ _ => trivial) (fun b6 M2 hg => ?_)
  refine x_istore 6 [(6, .int b6), (5, .int k5), (4, .int (zN (6 * j))), (3, .ref 134), (2, .ref 116), (1, .ref 0), (0, .retAddr sa)] dW_538 (by decide) rfl ?_
  refine x_aload_n 2 4 dW_540 rfl rfl ?_
  refine x_callVi (As := []) (t := 116) (rest := []) (rc := rc) (rs := rs) (c_O_thrown hA hT hO (Q := fun r M9 => r = M2 116 0 ∧ M9 = M2) ⟨rfl, rfl⟩) cw_law_O_thrown hO.1 hO.2.1 rfl dW_541 rfl rfl (Nat.le_of_ble_eq_true rfl) rfl (fun _ _ h => h.elim) (fun _ _ _ => trivial) (fun r9 M9 h9 => ?_)
  obtain ⟨e9, f9⟩ := h9
  subst e9
  subst f9
  refine x_iload 5 1 dW_544 rfl ?_
  refine x_icmp_eq 551 dW_546 rfl (fun _ => ?_) (fun h => (h hg.1).elim)
  refine x_iload 5 1 dW_551 rfl ?_
  have hend : sdW l (sdE0 (some (sa, N, xs))) Y_law D (sd_tys dA) b 135 ad L aF (fun _ _ => True) (fun v _ => v = some (.int 1)) sd_xf 568 [(6, .int b6), (5, .int k5), (4, .int (zN (6 * j))), (3, .ref 134), (2, .ref 116), (1, .ref 0), (0, .retAddr sa)] [] M9 rc rs := x_sub [2, 3, 4, 5, 6] [(4, .int (zN (6 * j))), (3, .ref 134), (2, .ref 116), (1, .ref 0), (0, .retAddr sa)] rfl (x_goto 1515 dW_568 rfl (k M9 hg.2.2))
  refine x_if_ne 568 dW_553 rfl (fun _ => hend) (fun h0 => ?_)
  refine x_aload_n 3 3 dW_556 rfl rfl ?_
  refine x_iconst (v := 0) dW_557 (by decide) ?_
  refine x_lald dW_558 hJ.1 hJ.2 rfl rfl sd_in01 ?_
  have eo : M9 134 (0 : Int32).toNatClampNeg = b6 := hg.2.1 h0
  rw [eo]
  refine x_iload 6 0 dW_559 rfl ?_
  refine x_i2l dW_561 ?_
  refine x_lcmp0 dW_562 ?_
  exact x_if_eq 568 dW_563 rfl (fun _ => hend) (fun h => absurd rfl h)
-- case 6
set_option maxHeartbeats 1000000 in
theorem lk_6 (hA : sd_ad b 135 ad) (hT : l.stackTraces = false) (hD : isD 135 L dA) (hO : isO 135 L dA) (hJ : isJ 135 L dA) (hloc : sd_loc 135 L) {j rc rs : Nat} (hj9 : j ≤ 1000) (hv1 : vp_in (zN (6 * j) + 1) N) (hv2 : vp_in (zN (6 * j) + 2) N) (hv3 : vp_in (zN (6 * j) + 3) N) (hv4 : vp_in (zN (6 * j) + 4) N) (hv5 : vp_in (zN (6 * j) + 5) N) {M : sdM} (hI : INV j M) (k : ∀ M9, INV (j + 1) M9 → sdW l (sdE0 (some (sa, N, xs))) Y_law D (sd_tys dA) b 135 ad L aF (fun _ _ => True) (fun v _ => v = some (.int 1)) sd_xf 1515 [(4, .int (zN (6 * j))), (3, .ref 134), (2, .ref 116), (1, .ref 0), (0, .retAddr sa)] [] M9 rc rs) : sdW l (sdE0 (some (sa, N, xs))) Y_law D (sd_tys dA) b 135 ad L aF (fun _ _ => True) (fun v _ => v = some (.int 1)) sd_xf 571 [(4, .int (zN (6 * j))), (3, .ref 134), (2, .ref 116), (1, .ref 0), (0, .retAddr sa)] [] M (rc + 6) (rs + 36) := by
  refine x_aload_n 1 3 dW_571 rfl rfl ?_
  refine x_aload_s 0 4 dW_572 rfl rfl ?_
  refine x_iload 4 0 dW_573 rfl ?_
  refine x_iconst (v := 1) dW_575 (by decide) ?_
  refine x_iadd dW_576 ?_
  refine x_sld (q := (sa, N, xs)) rfl dW_577 hv1 ?_
  refine x_aload_s 0 4 dW_578 rfl rfl ?_
  refine x_iload 4 0 dW_579 rfl ?_
  refine x_iconst (v := 2) dW_581 (by decide) ?_
  refine x_iadd dW_582 ?_
  refine x_sld (q := (sa, N, xs)) rfl dW_583 hv2 ?_
  refine x_aload_s 0 4 dW_584 rfl rfl ?_
  refine x_iload 4 0 dW_585 rfl ?_
  refine x_iconst (v := 3) dW_587 (by decide) ?_
  refine x_iadd dW_588 ?_
  refine x_sld (q := (sa, N, xs)) rfl dW_589 hv3 ?_
  refine x_aload_s 0 4 dW_590 rfl rfl ?_
  refine x_iload 4 0 dW_591 rfl ?_
  refine x_iconst (v := 4) dW_593 (by decide) ?_
  refine x_iadd dW_594 ?_
  refine x_sld (q := (sa, N, xs)) rfl dW_595 hv4 ?_
  have jn1 : ∀ v : Int32, v = bI (decide (¬ (xs ((zN (6 * j)) + 4).toNatClampNeg) = 0)) → sdW l (sdE0 (some (sa, N, xs))) Y_law D (sd_tys dA) b 135 ad L aF (fun _ _ => True) (fun v _ => v = some (.int 1)) sd_xf 604 [(4, .int (zN (6 * j))), (3, .ref 134), (2, .ref 116), (1, .ref 0), (0, .retAddr sa)] [.int v, .int (xs ((zN (6 * j)) + 3).toNatClampNeg), .int (xs ((zN (6 * j)) + 2).toNatClampNeg), .int (xs ((zN (6 * j)) + 1).toNatClampNeg), .ref 0] M (rc + 6) (rs + 36) := by
    intro v ev
    subst ev
    refine x_aload_n 3 1 dW_604 rfl rfl ?_
    refine x_wide (rc + 5) (rs + 30) (by omega) (by omega) ?_
    refine x_callSHi (As := [.ref 0, .int (xs ((zN (6 * j)) + 1).toNatClampNeg), .int (xs ((zN (6 * j)) + 2).toNatClampNeg), .int (xs ((zN (6 * j)) + 3).toNatClampNeg), .int (bI (decide (¬ (xs ((zN (6 * j)) + 4).toNatClampNeg) = 0))), .ref 134]) (rest := []) (rc := rc) (rs := rs) (c_L_entry hA hT hD hJ (J_entry hI)) cw_law_L_entry dW_605 rfl rfl (Nat.le_of_ble_eq_true rfl) rfl (fun _ _ h => h.elim) (fun _ _ _ => trivial) (fun k5 M1 hq => ?_)
    refine x_istore 5 [(5, .int k5), (4, .int (zN (6 * j))), (3, .ref 134), (2, .ref 116), (1, .ref 0), (0, .retAddr sa)] dW_608 (by decide) rfl ?_
    refine x_aload_n 2 3 dW_610 rfl rfl ?_
    refine x_aload_s 0 5 dW_611 rfl rfl ?_
    refine x_iload 4 1 dW_612 rfl ?_
    refine x_iconst (v := 1) dW_614 (by decide) ?_
    refine x_iadd dW_615 ?_
    refine x_sld (q := (sa, N, xs)) rfl dW_616 hv1 ?_
    refine x_aload_s 0 5 dW_617 rfl rfl ?_
    refine x_iload 4 1 dW_618 rfl ?_
    refine x_iconst (v := 2) dW_620 (by decide) ?_
    refine x_iadd dW_621 ?_
    refine x_sld (q := (sa, N, xs)) rfl dW_622 hv2 ?_
    refine x_aload_s 0 5 dW_623 rfl rfl ?_
    refine x_iload 4 1 dW_624 rfl ?_
    refine x_iconst (v := 3) dW_626 (by decide) ?_
    refine x_iadd dW_627 ?_
    refine x_sld (q := (sa, N, xs)) rfl dW_628 hv3 ?_
    refine x_aload_s 0 5 dW_629 rfl rfl ?_
    refine x_iload 4 1 dW_630 rfl ?_
    refine x_iconst (v := 4) dW_632 (by decide) ?_
    refine x_iadd dW_633 ?_
    refine x_sld (q := (sa, N, xs)) rfl dW_634 hv4 ?_
    have jn2 : ∀ v : Int32, v = bI (decide (¬ (xs ((zN (6 * j)) + 4).toNatClampNeg) = 0)) → sdW l (sdE0 (some (sa, N, xs))) Y_law D (sd_tys dA) b 135 ad L aF (fun _ _ => True) (fun v _ => v = some (.int 1)) sd_xf 643 [(5, .int k5), (4, .int (zN (6 * j))), (3, .ref 134), (2, .ref 116), (1, .ref 0), (0, .retAddr sa)] [.int v, .int (xs ((zN (6 * j)) + 3).toNatClampNeg), .int (xs ((zN (6 * j)) + 2).toNatClampNeg), .int (xs ((zN (6 * j)) + 1).toNatClampNeg), .ref 116] M1 rc rs := by
      intro v ev
      subst ev
      refine x_callVi (As := [.int (xs ((zN (6 * j)) + 1).toNatClampNeg), .int (xs ((zN (6 * j)) + 2).toNatClampNeg), .int (xs ((zN (6 * j)) + 3).toNatClampNeg), .int (bI (decide (¬ (xs ((zN (6 * j)) + 4).toNatClampNeg) = 0)))]) (t := 116) (rest := []) (rc := rc) (rs := rs) (c_O_entry hA hT hO hq) cw_law_O_entry hO.1 hO.2.1 rfl dW_643 rfl rfl (Nat.le_of_ble_eq_true rfl) rfl (fun _ _ h => h.elim) (fun _ _ _ => trivial) (fun b6 M2 hg => ?_)
      refine x_istore 6 [(6, .int b6), (5, .int k5), (4, .int (zN (6 * j))), (3, .ref 134), (2, .ref 116), (1, .ref 0), (0, .retAddr sa)] dW_646 (by decide) rfl ?_
      refine x_aload_n 2 4 dW_648 rfl rfl ?_
      refine x_callVi (As := []) (t := 116) (rest := []) (rc := rc) (rs := rs) (c_O_thrown hA hT hO (Q := fun r M9 => r = M2 116 0 ∧ M9 = M2) ⟨rfl, rfl⟩) cw_law_O_thrown hO.1 hO.2.1 rfl dW_649 rfl rfl (Nat.le_of_ble_eq_true rfl) rfl (fun _ _ h => h.elim) (fun _ _ _ => trivial) (fun r9 M9 h9 => ?_)
      obtain ⟨e9, f9⟩ := h9
      subst e9
      subst f9
      refine x_iload 5 1 dW_652 rfl ?_
      refine x_icmp_eq 659 dW_654 rfl (fun _ => ?_) (fun h => (h hg.1.1).elim)
      refine x_iload 5 1 dW_659 rfl ?_
      have hend : sdW l (sdE0 (some (sa, N, xs))) Y_law D (sd_tys dA) b 135 ad L aF (fun _ _ => True) (fun v _ => v = some (.int 1)) sd_xf 683 [(6, .int b6), (5, .int k5), (4, .int (zN (6 * j))), (3, .ref 134), (2, .ref 116), (1, .ref 0), (0, .retAddr sa)] [] M9 rc rs := x_sub [2, 3, 4, 5, 6] [(4, .int (zN (6 * j))), (3, .ref 134), (2, .ref 116), (1, .ref 0), (0, .retAddr sa)] rfl (x_goto 1515 dW_683 rfl (k M9 hg.1.2.2))
      refine x_if_ne 683 dW_661 rfl (fun _ => hend) (fun h0 => ?_)
      refine x_aload_n 3 3 dW_664 rfl rfl ?_
      refine x_iconst (v := 0) dW_665 (by decide) ?_
      refine x_lald dW_666 hJ.1 hJ.2 rfl rfl sd_in01 ?_
      have eo : M9 134 (0 : Int32).toNatClampNeg = b6 := hg.1.2.1 h0
      rw [eo]
      refine x_iload 6 0 dW_667 rfl ?_
      rcases hg.2 h0 with hb | hb
      · subst hb
        refine x_if_eq 676 dW_669 rfl (fun _ => ?_) (fun h => absurd rfl h)
        refine x_lconst (v := 0) dW_676 (by decide) ?_
        refine x_lcmp0 dW_677 ?_
        exact x_if_eq 683 dW_678 rfl (fun _ => hend) (fun h => absurd rfl h)
      · subst hb
        refine x_if_eq 676 dW_669 rfl (fun h => absurd h (by decide)) (fun _ => ?_)
        refine x_lconst (v := 1) dW_672 (by decide) ?_
        refine x_goto 677 dW_673 rfl ?_
        refine x_lcmp0 dW_677 ?_
        exact x_if_eq 683 dW_678 rfl (fun _ => hend) (fun h => absurd rfl h)
    exact x_if_eq 642 dW_635 rfl (fun h => x_iconst (v := 0) dW_642 (by decide) (jn2 0 (by rw [decide_eq_false (fun q => q h)]; rfl))) (fun h => x_iconst (v := 1) dW_638 (by decide) (x_goto 643 dW_639 rfl (jn2 1 (by rw [decide_eq_true h]; rfl))))
  exact x_if_eq 603 dW_596 rfl (fun h => x_iconst (v := 0) dW_603 (by decide) (jn1 0 (by rw [decide_eq_false (fun q => q h)]; rfl))) (fun h => x_iconst (v := 1) dW_599 (by decide) (x_goto 604 dW_600 rfl (jn1 1 (by rw [decide_eq_true h]; rfl))))
-- case 7
set_option maxHeartbeats 1000000 in
theorem lk_7 (hA : sd_ad b 135 ad) (hT : l.stackTraces = false) (hD : isD 135 L dA) (hO : isO 135 L dA) (hJ : isJ 135 L dA) (hloc : sd_loc 135 L) {j rc rs : Nat} (hj9 : j ≤ 1000) (hv1 : vp_in (zN (6 * j) + 1) N) (hv2 : vp_in (zN (6 * j) + 2) N) (hv3 : vp_in (zN (6 * j) + 3) N) (hv4 : vp_in (zN (6 * j) + 4) N) (hv5 : vp_in (zN (6 * j) + 5) N) {M : sdM} (hI : INV j M) (k : ∀ M9, INV (j + 1) M9 → sdW l (sdE0 (some (sa, N, xs))) Y_law D (sd_tys dA) b 135 ad L aF (fun _ _ => True) (fun v _ => v = some (.int 1)) sd_xf 1515 [(4, .int (zN (6 * j))), (3, .ref 134), (2, .ref 116), (1, .ref 0), (0, .retAddr sa)] [] M9 rc rs) : sdW l (sdE0 (some (sa, N, xs))) Y_law D (sd_tys dA) b 135 ad L aF (fun _ _ => True) (fun v _ => v = some (.int 1)) sd_xf 686 [(4, .int (zN (6 * j))), (3, .ref 134), (2, .ref 116), (1, .ref 0), (0, .retAddr sa)] [] M (rc + 6) (rs + 36) := by
  refine x_aload_n 1 3 dW_686 rfl rfl ?_
  refine x_aload_s 0 4 dW_687 rfl rfl ?_
  refine x_iload 4 0 dW_688 rfl ?_
  refine x_iconst (v := 1) dW_690 (by decide) ?_
  refine x_iadd dW_691 ?_
  refine x_sld (q := (sa, N, xs)) rfl dW_692 hv1 ?_
  refine x_aload_s 0 4 dW_693 rfl rfl ?_
  refine x_iload 4 0 dW_694 rfl ?_
  refine x_iconst (v := 2) dW_696 (by decide) ?_
  refine x_iadd dW_697 ?_
  refine x_sld (q := (sa, N, xs)) rfl dW_698 hv2 ?_
  refine x_aload_s 0 4 dW_699 rfl rfl ?_
  refine x_iload 4 0 dW_700 rfl ?_
  refine x_iconst (v := 3) dW_702 (by decide) ?_
  refine x_iadd dW_703 ?_
  refine x_sld (q := (sa, N, xs)) rfl dW_704 hv3 ?_
  refine x_aload_s 0 4 dW_705 rfl rfl ?_
  refine x_iload 4 0 dW_706 rfl ?_
  refine x_iconst (v := 4) dW_708 (by decide) ?_
  refine x_iadd dW_709 ?_
  refine x_sld (q := (sa, N, xs)) rfl dW_710 hv4 ?_
  refine x_aload_s 0 4 dW_711 rfl rfl ?_
  refine x_iload 4 0 dW_712 rfl ?_
  refine x_iconst (v := 5) dW_714 (by decide) ?_
  refine x_iadd dW_715 ?_
  refine x_sld (q := (sa, N, xs)) rfl dW_716 hv5 ?_
  refine x_wide (rc + 6) (rs + 36) (by omega) (by omega) ?_
  refine x_callSHi (As := [.ref 0, .int (xs ((zN (6 * j)) + 1).toNatClampNeg), .int (xs ((zN (6 * j)) + 2).toNatClampNeg), .int (xs ((zN (6 * j)) + 3).toNatClampNeg), .int (xs ((zN (6 * j)) + 4).toNatClampNeg), .int (xs ((zN (6 * j)) + 5).toNatClampNeg)]) (rest := []) (rc := rc) (rs := rs) (c_L_set hA hT hD (J_set hI)) cw_law_L_set dW_717 rfl rfl (Nat.le_of_ble_eq_true rfl) rfl (fun _ _ h => h.elim) (fun _ _ _ => trivial) (fun k5 M1 hq => ?_)
  refine x_istore 5 [(5, .int k5), (4, .int (zN (6 * j))), (3, .ref 134), (2, .ref 116), (1, .ref 0), (0, .retAddr sa)] dW_720 (by decide) rfl ?_
  refine x_aload_n 2 3 dW_722 rfl rfl ?_
  refine x_aload_s 0 5 dW_723 rfl rfl ?_
  refine x_iload 4 1 dW_724 rfl ?_
  refine x_iconst (v := 1) dW_726 (by decide) ?_
  refine x_iadd dW_727 ?_
  refine x_sld (q := (sa, N, xs)) rfl dW_728 hv1 ?_
  refine x_aload_s 0 5 dW_729 rfl rfl ?_
  refine x_iload 4 1 dW_730 rfl ?_
  refine x_iconst (v := 2) dW_732 (by decide) ?_
  refine x_iadd dW_733 ?_
  refine x_sld (q := (sa, N, xs)) rfl dW_734 hv2 ?_
  refine x_aload_s 0 5 dW_735 rfl rfl ?_
  refine x_iload 4 1 dW_736 rfl ?_
  refine x_iconst (v := 3) dW_738 (by decide) ?_
  refine x_iadd dW_739 ?_
  refine x_sld (q := (sa, N, xs)) rfl dW_740 hv3 ?_
  refine x_aload_s 0 5 dW_741 rfl rfl ?_
  refine x_iload 4 1 dW_742 rfl ?_
  refine x_iconst (v := 4) dW_744 (by decide) ?_
  refine x_iadd dW_745 ?_
  refine x_sld (q := (sa, N, xs)) rfl dW_746 hv4 ?_
  refine x_aload_s 0 5 dW_747 rfl rfl ?_
  refine x_iload 4 1 dW_748 rfl ?_
  refine x_iconst (v := 5) dW_750 (by decide) ?_
  refine x_iadd dW_751 ?_
  refine x_sld (q := (sa, N, xs)) rfl dW_752 hv5 ?_
  refine x_callVv (As := [.int (xs ((zN (6 * j)) + 1).toNatClampNeg), .int (xs ((zN (6 * j)) + 2).toNatClampNeg), .int (xs ((zN (6 * j)) + 3).toNatClampNeg), .int (xs ((zN (6 * j)) + 4).toNatClampNeg), .int (xs ((zN (6 * j)) + 5).toNatClampNeg)]) (t := 116) (rest := []) (rc := rc) (rs := rs) (c_O_set hA hT hO hq) cw_law_O_set hO.1 hO.2.1 rfl dW_753 rfl rfl (Nat.le_of_ble_eq_true rfl) rfl (fun _ _ h => h.elim) (fun _ _ _ => trivial) (fun M2 hg => ?_)
  refine x_aload_n 2 3 dW_756 rfl rfl ?_
  refine x_callVi (As := []) (t := 116) (rest := []) (rc := rc) (rs := rs) (c_O_thrown hA hT hO (Q := fun r M9 => r = M2 116 0 ∧ M9 = M2) ⟨rfl, rfl⟩) cw_law_O_thrown hO.1 hO.2.1 rfl dW_757 rfl rfl (Nat.le_of_ble_eq_true rfl) rfl (fun _ _ h => h.elim) (fun _ _ _ => trivial) (fun r9 M9 h9 => ?_)
  obtain ⟨e9, f9⟩ := h9
  subst e9
  subst f9
  refine x_iload 5 0 dW_760 rfl ?_
  refine x_icmp_eq 767 dW_762 rfl (fun _ => ?_) (fun h => (h hg.1).elim)
  exact x_sub [1, 2, 3, 4, 5] [(4, .int (zN (6 * j))), (3, .ref 134), (2, .ref 116), (1, .ref 0), (0, .retAddr sa)] rfl (x_goto 1515 dW_767 rfl (k M9 hg.2))
-- case 8
set_option maxHeartbeats 1000000 in
theorem lk_8 (hA : sd_ad b 135 ad) (hT : l.stackTraces = false) (hD : isD 135 L dA) (hO : isO 135 L dA) (hJ : isJ 135 L dA) (hloc : sd_loc 135 L) {j rc rs : Nat} (hj9 : j ≤ 1000) (hv1 : vp_in (zN (6 * j) + 1) N) (hv2 : vp_in (zN (6 * j) + 2) N) (hv3 : vp_in (zN (6 * j) + 3) N) (hv4 : vp_in (zN (6 * j) + 4) N) (hv5 : vp_in (zN (6 * j) + 5) N) {M : sdM} (hI : INV j M) (k : ∀ M9, INV (j + 1) M9 → sdW l (sdE0 (some (sa, N, xs))) Y_law D (sd_tys dA) b 135 ad L aF (fun _ _ => True) (fun v _ => v = some (.int 1)) sd_xf 1515 [(4, .int (zN (6 * j))), (3, .ref 134), (2, .ref 116), (1, .ref 0), (0, .retAddr sa)] [] M9 rc rs) : sdW l (sdE0 (some (sa, N, xs))) Y_law D (sd_tys dA) b 135 ad L aF (fun _ _ => True) (fun v _ => v = some (.int 1)) sd_xf 770 [(4, .int (zN (6 * j))), (3, .ref 134), (2, .ref 116), (1, .ref 0), (0, .retAddr sa)] [] M (rc + 6) (rs + 36) := by
  refine x_aload_n 1 3 dW_770 rfl rfl ?_
  refine x_aload_s 0 4 dW_771 rfl rfl ?_
  refine x_iload 4 0 dW_772 rfl ?_
  refine x_iconst (v := 1) dW_774 (by decide) ?_
  refine x_iadd dW_775 ?_
  refine x_sld (q := (sa, N, xs)) rfl dW_776 hv1 ?_
  refine x_aload_s 0 4 dW_777 rfl rfl ?_
  refine x_iload 4 0 dW_778 rfl ?_
  refine x_iconst (v := 2) dW_780 (by decide) ?_
  refine x_iadd dW_781 ?_
  refine x_sld (q := (sa, N, xs)) rfl dW_782 hv2 ?_
  refine x_aload_s 0 4 dW_783 rfl rfl ?_
  refine x_iload 4 0 dW_784 rfl ?_
  refine x_iconst (v := 3) dW_786 (by decide) ?_
  refine x_iadd dW_787 ?_
  refine x_sld (q := (sa, N, xs)) rfl dW_788 hv3 ?_
  refine x_aload_s 0 4 dW_789 rfl rfl ?_
  refine x_iload 4 0 dW_790 rfl ?_
  refine x_iconst (v := 4) dW_792 (by decide) ?_
  refine x_iadd dW_793 ?_
  refine x_sld (q := (sa, N, xs)) rfl dW_794 hv4 ?_
  refine x_aload_n 3 1 dW_795 rfl rfl ?_
  refine x_wide (rc + 5) (rs + 30) (by omega) (by omega) ?_
  refine x_callSHi (As := [.ref 0, .int (xs ((zN (6 * j)) + 1).toNatClampNeg), .int (xs ((zN (6 * j)) + 2).toNatClampNeg), .int (xs ((zN (6 * j)) + 3).toNatClampNeg), .int (xs ((zN (6 * j)) + 4).toNatClampNeg), .ref 134]) (rest := []) (rc := rc) (rs := rs) (c_L_unset hA hT hD hJ (J_unset hI)) cw_law_L_unset dW_796 rfl rfl (Nat.le_of_ble_eq_true rfl) rfl (fun _ _ h => h.elim) (fun _ _ _ => trivial) (fun k5 M1 hq => ?_)
  refine x_istore 5 [(5, .int k5), (4, .int (zN (6 * j))), (3, .ref 134), (2, .ref 116), (1, .ref 0), (0, .retAddr sa)] dW_799 (by decide) rfl ?_
  refine x_aload_n 2 3 dW_801 rfl rfl ?_
  refine x_aload_s 0 5 dW_802 rfl rfl ?_
  refine x_iload 4 1 dW_803 rfl ?_
  refine x_iconst (v := 1) dW_805 (by decide) ?_
  refine x_iadd dW_806 ?_
  refine x_sld (q := (sa, N, xs)) rfl dW_807 hv1 ?_
  refine x_aload_s 0 5 dW_808 rfl rfl ?_
  refine x_iload 4 1 dW_809 rfl ?_
  refine x_iconst (v := 2) dW_811 (by decide) ?_
  refine x_iadd dW_812 ?_
  refine x_sld (q := (sa, N, xs)) rfl dW_813 hv2 ?_
  refine x_aload_s 0 5 dW_814 rfl rfl ?_
  refine x_iload 4 1 dW_815 rfl ?_
  refine x_iconst (v := 3) dW_817 (by decide) ?_
  refine x_iadd dW_818 ?_
  refine x_sld (q := (sa, N, xs)) rfl dW_819 hv3 ?_
  refine x_aload_s 0 5 dW_820 rfl rfl ?_
  refine x_iload 4 1 dW_821 rfl ?_
  refine x_iconst (v := 4) dW_823 (by decide) ?_
  refine x_iadd dW_824 ?_
  refine x_sld (q := (sa, N, xs)) rfl dW_825 hv4 ?_
  refine x_callVi (As := [.int (xs ((zN (6 * j)) + 1).toNatClampNeg), .int (xs ((zN (6 * j)) + 2).toNatClampNeg), .int (xs ((zN (6 * j)) + 3).toNatClampNeg), .int (xs ((zN (6 * j)) + 4).toNatClampNeg)]) (t := 116) (rest := []) (rc := rc) (rs := rs) (c_O_unset hA hT hO hq) cw_law_O_unset hO.1 hO.2.1 rfl dW_826 rfl rfl (Nat.le_of_ble_eq_true rfl) rfl (fun _ _ h => h.elim) (fun _ _ _ => trivial) (fun b6 M2 hg => ?_)
  refine x_istore 6 [(6, .int b6), (5, .int k5), (4, .int (zN (6 * j))), (3, .ref 134), (2, .ref 116), (1, .ref 0), (0, .retAddr sa)] dW_829 (by decide) rfl ?_
  refine x_aload_n 2 4 dW_831 rfl rfl ?_
  refine x_callVi (As := []) (t := 116) (rest := []) (rc := rc) (rs := rs) (c_O_thrown hA hT hO (Q := fun r M9 => r = M2 116 0 ∧ M9 = M2) ⟨rfl, rfl⟩) cw_law_O_thrown hO.1 hO.2.1 rfl dW_832 rfl rfl (Nat.le_of_ble_eq_true rfl) rfl (fun _ _ h => h.elim) (fun _ _ _ => trivial) (fun r9 M9 h9 => ?_)
  obtain ⟨e9, f9⟩ := h9
  subst e9
  subst f9
  refine x_iload 5 1 dW_835 rfl ?_
  refine x_icmp_eq 842 dW_837 rfl (fun _ => ?_) (fun h => (h hg.1.1).elim)
  refine x_iload 5 1 dW_842 rfl ?_
  have hend : sdW l (sdE0 (some (sa, N, xs))) Y_law D (sd_tys dA) b 135 ad L aF (fun _ _ => True) (fun v _ => v = some (.int 1)) sd_xf 866 [(6, .int b6), (5, .int k5), (4, .int (zN (6 * j))), (3, .ref 134), (2, .ref 116), (1, .ref 0), (0, .retAddr sa)] [] M9 rc rs := x_sub [2, 3, 4, 5, 6] [(4, .int (zN (6 * j))), (3, .ref 134), (2, .ref 116), (1, .ref 0), (0, .retAddr sa)] rfl (x_goto 1515 dW_866 rfl (k M9 hg.1.2.2))
  refine x_if_ne 866 dW_844 rfl (fun _ => hend) (fun h0 => ?_)
  refine x_aload_n 3 3 dW_847 rfl rfl ?_
  refine x_iconst (v := 0) dW_848 (by decide) ?_
  refine x_lald dW_849 hJ.1 hJ.2 rfl rfl sd_in01 ?_
  have eo : M9 134 (0 : Int32).toNatClampNeg = b6 := hg.1.2.1 h0
  rw [eo]
  refine x_iload 6 0 dW_850 rfl ?_
  rcases hg.2 h0 with hb | hb
  · subst hb
    refine x_if_eq 859 dW_852 rfl (fun _ => ?_) (fun h => absurd rfl h)
    refine x_lconst (v := 0) dW_859 (by decide) ?_
    refine x_lcmp0 dW_860 ?_
    exact x_if_eq 866 dW_861 rfl (fun _ => hend) (fun h => absurd rfl h)
  · subst hb
    refine x_if_eq 859 dW_852 rfl (fun h => absurd h (by decide)) (fun _ => ?_)
    refine x_lconst (v := 1) dW_855 (by decide) ?_
    refine x_goto 860 dW_856 rfl ?_
    refine x_lcmp0 dW_860 ?_
    exact x_if_eq 866 dW_861 rfl (fun _ => hend) (fun h => absurd rfl h)
-- case 9
set_option maxHeartbeats 1000000 in
theorem lk_9 (hA : sd_ad b 135 ad) (hT : l.stackTraces = false) (hD : isD 135 L dA) (hO : isO 135 L dA) (hJ : isJ 135 L dA) (hloc : sd_loc 135 L) {j rc rs : Nat} (hj9 : j ≤ 1000) (hv1 : vp_in (zN (6 * j) + 1) N) (hv2 : vp_in (zN (6 * j) + 2) N) (hv3 : vp_in (zN (6 * j) + 3) N) (hv4 : vp_in (zN (6 * j) + 4) N) (hv5 : vp_in (zN (6 * j) + 5) N) {M : sdM} (hI : INV j M) (k : ∀ M9, INV (j + 1) M9 → sdW l (sdE0 (some (sa, N, xs))) Y_law D (sd_tys dA) b 135 ad L aF (fun _ _ => True) (fun v _ => v = some (.int 1)) sd_xf 1515 [(4, .int (zN (6 * j))), (3, .ref 134), (2, .ref 116), (1, .ref 0), (0, .retAddr sa)] [] M9 rc rs) : sdW l (sdE0 (some (sa, N, xs))) Y_law D (sd_tys dA) b 135 ad L aF (fun _ _ => True) (fun v _ => v = some (.int 1)) sd_xf 869 [(4, .int (zN (6 * j))), (3, .ref 134), (2, .ref 116), (1, .ref 0), (0, .retAddr sa)] [] M (rc + 6) (rs + 36) := by
  refine x_aload_n 1 3 dW_869 rfl rfl ?_
  refine x_aload_s 0 4 dW_870 rfl rfl ?_
  refine x_iload 4 0 dW_871 rfl ?_
  refine x_iconst (v := 1) dW_873 (by decide) ?_
  refine x_iadd dW_874 ?_
  refine x_sld (q := (sa, N, xs)) rfl dW_875 hv1 ?_
  refine x_aload_s 0 4 dW_876 rfl rfl ?_
  refine x_iload 4 0 dW_877 rfl ?_
  refine x_iconst (v := 2) dW_879 (by decide) ?_
  refine x_iadd dW_880 ?_
  refine x_sld (q := (sa, N, xs)) rfl dW_881 hv2 ?_
  refine x_aload_s 0 4 dW_882 rfl rfl ?_
  refine x_iload 4 0 dW_883 rfl ?_
  refine x_iconst (v := 3) dW_885 (by decide) ?_
  refine x_iadd dW_886 ?_
  refine x_sld (q := (sa, N, xs)) rfl dW_887 hv3 ?_
  refine x_aload_s 0 4 dW_888 rfl rfl ?_
  refine x_iload 4 0 dW_889 rfl ?_
  refine x_iconst (v := 4) dW_891 (by decide) ?_
  refine x_iadd dW_892 ?_
  refine x_sld (q := (sa, N, xs)) rfl dW_893 hv4 ?_
  refine x_aload_n 3 1 dW_894 rfl rfl ?_
  refine x_wide (rc + 4) (rs + 24) (by omega) (by omega) ?_
  refine x_callSHi (As := [.ref 0, .int (xs ((zN (6 * j)) + 1).toNatClampNeg), .int (xs ((zN (6 * j)) + 2).toNatClampNeg), .int (xs ((zN (6 * j)) + 3).toNatClampNeg), .int (xs ((zN (6 * j)) + 4).toNatClampNeg), .ref 134]) (rest := []) (rc := rc) (rs := rs) (c_L_get hA hT hD hJ (J_get hI)) cw_law_L_get dW_895 rfl rfl (Nat.le_of_ble_eq_true rfl) rfl (fun _ _ h => h.elim) (fun _ _ _ => trivial) (fun k5 M1 hq => ?_)
  refine x_istore 5 [(5, .int k5), (4, .int (zN (6 * j))), (3, .ref 134), (2, .ref 116), (1, .ref 0), (0, .retAddr sa)] dW_898 (by decide) rfl ?_
  refine x_aload_n 2 3 dW_900 rfl rfl ?_
  refine x_aload_s 0 5 dW_901 rfl rfl ?_
  refine x_iload 4 1 dW_902 rfl ?_
  refine x_iconst (v := 1) dW_904 (by decide) ?_
  refine x_iadd dW_905 ?_
  refine x_sld (q := (sa, N, xs)) rfl dW_906 hv1 ?_
  refine x_aload_s 0 5 dW_907 rfl rfl ?_
  refine x_iload 4 1 dW_908 rfl ?_
  refine x_iconst (v := 2) dW_910 (by decide) ?_
  refine x_iadd dW_911 ?_
  refine x_sld (q := (sa, N, xs)) rfl dW_912 hv2 ?_
  refine x_aload_s 0 5 dW_913 rfl rfl ?_
  refine x_iload 4 1 dW_914 rfl ?_
  refine x_iconst (v := 3) dW_916 (by decide) ?_
  refine x_iadd dW_917 ?_
  refine x_sld (q := (sa, N, xs)) rfl dW_918 hv3 ?_
  refine x_aload_s 0 5 dW_919 rfl rfl ?_
  refine x_iload 4 1 dW_920 rfl ?_
  refine x_iconst (v := 4) dW_922 (by decide) ?_
  refine x_iadd dW_923 ?_
  refine x_sld (q := (sa, N, xs)) rfl dW_924 hv4 ?_
  refine x_callVi (As := [.int (xs ((zN (6 * j)) + 1).toNatClampNeg), .int (xs ((zN (6 * j)) + 2).toNatClampNeg), .int (xs ((zN (6 * j)) + 3).toNatClampNeg), .int (xs ((zN (6 * j)) + 4).toNatClampNeg)]) (t := 116) (rest := []) (rc := rc) (rs := rs) (c_O_get hA hT hO hq) cw_law_O_get hO.1 hO.2.1 rfl dW_925 rfl rfl (Nat.le_of_ble_eq_true rfl) rfl (fun _ _ h => h.elim) (fun _ _ _ => trivial) (fun b6 M2 hg => ?_)
  refine x_istore 6 [(6, .int b6), (5, .int k5), (4, .int (zN (6 * j))), (3, .ref 134), (2, .ref 116), (1, .ref 0), (0, .retAddr sa)] dW_928 (by decide) rfl ?_
  refine x_aload_n 2 4 dW_930 rfl rfl ?_
  refine x_callVi (As := []) (t := 116) (rest := []) (rc := rc) (rs := rs) (c_O_thrown hA hT hO (Q := fun r M9 => r = M2 116 0 ∧ M9 = M2) ⟨rfl, rfl⟩) cw_law_O_thrown hO.1 hO.2.1 rfl dW_931 rfl rfl (Nat.le_of_ble_eq_true rfl) rfl (fun _ _ h => h.elim) (fun _ _ _ => trivial) (fun r9 M9 h9 => ?_)
  obtain ⟨e9, f9⟩ := h9
  subst e9
  subst f9
  refine x_iload 5 1 dW_934 rfl ?_
  refine x_icmp_eq 941 dW_936 rfl (fun _ => ?_) (fun h => (h hg.1).elim)
  refine x_iload 5 1 dW_941 rfl ?_
  have hend : sdW l (sdE0 (some (sa, N, xs))) Y_law D (sd_tys dA) b 135 ad L aF (fun _ _ => True) (fun v _ => v = some (.int 1)) sd_xf 958 [(6, .int b6), (5, .int k5), (4, .int (zN (6 * j))), (3, .ref 134), (2, .ref 116), (1, .ref 0), (0, .retAddr sa)] [] M9 rc rs := x_sub [2, 3, 4, 5, 6] [(4, .int (zN (6 * j))), (3, .ref 134), (2, .ref 116), (1, .ref 0), (0, .retAddr sa)] rfl (x_goto 1515 dW_958 rfl (k M9 hg.2.2))
  refine x_if_ne 958 dW_943 rfl (fun _ => hend) (fun h0 => ?_)
  refine x_aload_n 3 3 dW_946 rfl rfl ?_
  refine x_iconst (v := 0) dW_947 (by decide) ?_
  refine x_lald dW_948 hJ.1 hJ.2 rfl rfl sd_in01 ?_
  have eo : M9 134 (0 : Int32).toNatClampNeg = b6 := hg.2.1 h0
  rw [eo]
  refine x_iload 6 0 dW_949 rfl ?_
  refine x_i2l dW_951 ?_
  refine x_lcmp0 dW_952 ?_
  exact x_if_eq 958 dW_953 rfl (fun _ => hend) (fun h => absurd rfl h)
-- case 10
set_option maxHeartbeats 1000000 in
theorem lk_10 (hA : sd_ad b 135 ad) (hT : l.stackTraces = false) (hD : isD 135 L dA) (hO : isO 135 L dA) (hJ : isJ 135 L dA) (hloc : sd_loc 135 L) {j rc rs : Nat} (hj9 : j ≤ 1000) (hv1 : vp_in (zN (6 * j) + 1) N) (hv2 : vp_in (zN (6 * j) + 2) N) (hv3 : vp_in (zN (6 * j) + 3) N) (hv4 : vp_in (zN (6 * j) + 4) N) (hv5 : vp_in (zN (6 * j) + 5) N) {M : sdM} (hI : INV j M) (k : ∀ M9, INV (j + 1) M9 → sdW l (sdE0 (some (sa, N, xs))) Y_law D (sd_tys dA) b 135 ad L aF (fun _ _ => True) (fun v _ => v = some (.int 1)) sd_xf 1515 [(4, .int (zN (6 * j))), (3, .ref 134), (2, .ref 116), (1, .ref 0), (0, .retAddr sa)] [] M9 rc rs) : sdW l (sdE0 (some (sa, N, xs))) Y_law D (sd_tys dA) b 135 ad L aF (fun _ _ => True) (fun v _ => v = some (.int 1)) sd_xf 961 [(4, .int (zN (6 * j))), (3, .ref 134), (2, .ref 116), (1, .ref 0), (0, .retAddr sa)] [] M (rc + 6) (rs + 36) := by
  refine x_aload_n 1 3 dW_961 rfl rfl ?_
  refine x_aload_s 0 4 dW_962 rfl rfl ?_
  refine x_iload 4 0 dW_963 rfl ?_
  refine x_iconst (v := 1) dW_965 (by decide) ?_
  refine x_iadd dW_966 ?_
  refine x_sld (q := (sa, N, xs)) rfl dW_967 hv1 ?_
  refine x_aload_s 0 4 dW_968 rfl rfl ?_
  refine x_iload 4 0 dW_969 rfl ?_
  refine x_iconst (v := 2) dW_971 (by decide) ?_
  refine x_iadd dW_972 ?_
  refine x_sld (q := (sa, N, xs)) rfl dW_973 hv2 ?_
  have jn1 : ∀ v : Int32, v = bI (decide (¬ (xs ((zN (6 * j)) + 2).toNatClampNeg) = 0)) → sdW l (sdE0 (some (sa, N, xs))) Y_law D (sd_tys dA) b 135 ad L aF (fun _ _ => True) (fun v _ => v = some (.int 1)) sd_xf 982 [(4, .int (zN (6 * j))), (3, .ref 134), (2, .ref 116), (1, .ref 0), (0, .retAddr sa)] [.int v, .int (xs ((zN (6 * j)) + 1).toNatClampNeg), .ref 0] M (rc + 6) (rs + 36) := by
    intro v ev
    subst ev
    refine x_aload_n 3 1 dW_982 rfl rfl ?_
    refine x_wide (rc + 3) (rs + 18) (by omega) (by omega) ?_
    refine x_callSHi (As := [.ref 0, .int (xs ((zN (6 * j)) + 1).toNatClampNeg), .int (bI (decide (¬ (xs ((zN (6 * j)) + 2).toNatClampNeg) = 0))), .ref 134]) (rest := []) (rc := rc) (rs := rs) (c_L_lock hA hT hD hJ (J_lock hI)) cw_law_L_lock dW_983 rfl rfl (Nat.le_of_ble_eq_true rfl) rfl (fun _ _ h => h.elim) (fun _ _ _ => trivial) (fun k5 M1 hq => ?_)
    refine x_istore 5 [(5, .int k5), (4, .int (zN (6 * j))), (3, .ref 134), (2, .ref 116), (1, .ref 0), (0, .retAddr sa)] dW_986 (by decide) rfl ?_
    refine x_aload_n 2 3 dW_988 rfl rfl ?_
    refine x_aload_s 0 5 dW_989 rfl rfl ?_
    refine x_iload 4 1 dW_990 rfl ?_
    refine x_iconst (v := 1) dW_992 (by decide) ?_
    refine x_iadd dW_993 ?_
    refine x_sld (q := (sa, N, xs)) rfl dW_994 hv1 ?_
    refine x_aload_s 0 5 dW_995 rfl rfl ?_
    refine x_iload 4 1 dW_996 rfl ?_
    refine x_iconst (v := 2) dW_998 (by decide) ?_
    refine x_iadd dW_999 ?_
    refine x_sld (q := (sa, N, xs)) rfl dW_1000 hv2 ?_
    have jn2 : ∀ v : Int32, v = bI (decide (¬ (xs ((zN (6 * j)) + 2).toNatClampNeg) = 0)) → sdW l (sdE0 (some (sa, N, xs))) Y_law D (sd_tys dA) b 135 ad L aF (fun _ _ => True) (fun v _ => v = some (.int 1)) sd_xf 1009 [(5, .int k5), (4, .int (zN (6 * j))), (3, .ref 134), (2, .ref 116), (1, .ref 0), (0, .retAddr sa)] [.int v, .int (xs ((zN (6 * j)) + 1).toNatClampNeg), .ref 116] M1 rc rs := by
      intro v ev
      subst ev
      refine x_callVi (As := [.int (xs ((zN (6 * j)) + 1).toNatClampNeg), .int (bI (decide (¬ (xs ((zN (6 * j)) + 2).toNatClampNeg) = 0)))]) (t := 116) (rest := []) (rc := rc) (rs := rs) (c_O_lock hA hT hO hq) cw_law_O_lock hO.1 hO.2.1 rfl dW_1009 rfl rfl (Nat.le_of_ble_eq_true rfl) rfl (fun _ _ h => h.elim) (fun _ _ _ => trivial) (fun b6 M2 hg => ?_)
      refine x_istore 6 [(6, .int b6), (5, .int k5), (4, .int (zN (6 * j))), (3, .ref 134), (2, .ref 116), (1, .ref 0), (0, .retAddr sa)] dW_1012 (by decide) rfl ?_
      refine x_aload_n 2 4 dW_1014 rfl rfl ?_
      refine x_callVi (As := []) (t := 116) (rest := []) (rc := rc) (rs := rs) (c_O_thrown hA hT hO (Q := fun r M9 => r = M2 116 0 ∧ M9 = M2) ⟨rfl, rfl⟩) cw_law_O_thrown hO.1 hO.2.1 rfl dW_1015 rfl rfl (Nat.le_of_ble_eq_true rfl) rfl (fun _ _ h => h.elim) (fun _ _ _ => trivial) (fun r9 M9 h9 => ?_)
      obtain ⟨e9, f9⟩ := h9
      subst e9
      subst f9
      refine x_iload 5 1 dW_1018 rfl ?_
      refine x_icmp_eq 1025 dW_1020 rfl (fun _ => ?_) (fun h => (h hg.1.1).elim)
      refine x_iload 5 1 dW_1025 rfl ?_
      have hend : sdW l (sdE0 (some (sa, N, xs))) Y_law D (sd_tys dA) b 135 ad L aF (fun _ _ => True) (fun v _ => v = some (.int 1)) sd_xf 1049 [(6, .int b6), (5, .int k5), (4, .int (zN (6 * j))), (3, .ref 134), (2, .ref 116), (1, .ref 0), (0, .retAddr sa)] [] M9 rc rs := x_sub [2, 3, 4, 5, 6] [(4, .int (zN (6 * j))), (3, .ref 134), (2, .ref 116), (1, .ref 0), (0, .retAddr sa)] rfl (x_goto 1515 dW_1049 rfl (k M9 hg.1.2.2))
      refine x_if_ne 1049 dW_1027 rfl (fun _ => hend) (fun h0 => ?_)
      refine x_aload_n 3 3 dW_1030 rfl rfl ?_
      refine x_iconst (v := 0) dW_1031 (by decide) ?_
      refine x_lald dW_1032 hJ.1 hJ.2 rfl rfl sd_in01 ?_
      have eo : M9 134 (0 : Int32).toNatClampNeg = b6 := hg.1.2.1 h0
      rw [eo]
      refine x_iload 6 0 dW_1033 rfl ?_
      rcases hg.2 h0 with hb | hb
      · subst hb
        refine x_if_eq 1042 dW_1035 rfl (fun _ => ?_) (fun h => absurd rfl h)
        refine x_lconst (v := 0) dW_1042 (by decide) ?_
        refine x_lcmp0 dW_1043 ?_
        exact x_if_eq 1049 dW_1044 rfl (fun _ => hend) (fun h => absurd rfl h)
      · subst hb
        refine x_if_eq 1042 dW_1035 rfl (fun h => absurd h (by decide)) (fun _ => ?_)
        refine x_lconst (v := 1) dW_1038 (by decide) ?_
        refine x_goto 1043 dW_1039 rfl ?_
        refine x_lcmp0 dW_1043 ?_
        exact x_if_eq 1049 dW_1044 rfl (fun _ => hend) (fun h => absurd rfl h)
    exact x_if_eq 1008 dW_1001 rfl (fun h => x_iconst (v := 0) dW_1008 (by decide) (jn2 0 (by rw [decide_eq_false (fun q => q h)]; rfl))) (fun h => x_iconst (v := 1) dW_1004 (by decide) (x_goto 1009 dW_1005 rfl (jn2 1 (by rw [decide_eq_true h]; rfl))))
  exact x_if_eq 981 dW_974 rfl (fun h => x_iconst (v := 0) dW_981 (by decide) (jn1 0 (by rw [decide_eq_false (fun q => q h)]; rfl))) (fun h => x_iconst (v := 1) dW_977 (by decide) (x_goto 982 dW_978 rfl (jn1 1 (by rw [decide_eq_true h]; rfl))))
-- case 11
set_option maxHeartbeats 1000000 in
theorem lk_11 (hA : sd_ad b 135 ad) (hT : l.stackTraces = false) (hD : isD 135 L dA) (hO : isO 135 L dA) (hJ : isJ 135 L dA) (hloc : sd_loc 135 L) {j rc rs : Nat} (hj9 : j ≤ 1000) (hv1 : vp_in (zN (6 * j) + 1) N) (hv2 : vp_in (zN (6 * j) + 2) N) (hv3 : vp_in (zN (6 * j) + 3) N) (hv4 : vp_in (zN (6 * j) + 4) N) (hv5 : vp_in (zN (6 * j) + 5) N) {M : sdM} (hI : INV j M) (k : ∀ M9, INV (j + 1) M9 → sdW l (sdE0 (some (sa, N, xs))) Y_law D (sd_tys dA) b 135 ad L aF (fun _ _ => True) (fun v _ => v = some (.int 1)) sd_xf 1515 [(4, .int (zN (6 * j))), (3, .ref 134), (2, .ref 116), (1, .ref 0), (0, .retAddr sa)] [] M9 rc rs) : sdW l (sdE0 (some (sa, N, xs))) Y_law D (sd_tys dA) b 135 ad L aF (fun _ _ => True) (fun v _ => v = some (.int 1)) sd_xf 1052 [(4, .int (zN (6 * j))), (3, .ref 134), (2, .ref 116), (1, .ref 0), (0, .retAddr sa)] [] M (rc + 6) (rs + 36) := by
  refine x_aload_n 1 3 dW_1052 rfl rfl ?_
  refine x_aload_s 0 4 dW_1053 rfl rfl ?_
  refine x_iload 4 0 dW_1054 rfl ?_
  refine x_iconst (v := 1) dW_1056 (by decide) ?_
  refine x_iadd dW_1057 ?_
  refine x_sld (q := (sa, N, xs)) rfl dW_1058 hv1 ?_
  refine x_aload_s 0 4 dW_1059 rfl rfl ?_
  refine x_iload 4 0 dW_1060 rfl ?_
  refine x_iconst (v := 2) dW_1062 (by decide) ?_
  refine x_iadd dW_1063 ?_
  refine x_sld (q := (sa, N, xs)) rfl dW_1064 hv2 ?_
  refine x_aload_n 3 1 dW_1065 rfl rfl ?_
  refine x_wide (rc + 5) (rs + 26) (by omega) (by omega) ?_
  refine x_callSHi (As := [.ref 0, .int (xs ((zN (6 * j)) + 1).toNatClampNeg), .int (xs ((zN (6 * j)) + 2).toNatClampNeg), .ref 134]) (rest := []) (rc := rc) (rs := rs) (c_L_commit hA hT hD hJ hloc (J_commit (n := 135) hj9 (by omega) hI)) cw_law_L_commit dW_1066 rfl rfl (Nat.le_of_ble_eq_true rfl) rfl (fun _ _ h => h.elim) (fun _ _ _ => trivial) (fun k5 M1 hq => ?_)
  refine x_istore 5 [(5, .int k5), (4, .int (zN (6 * j))), (3, .ref 134), (2, .ref 116), (1, .ref 0), (0, .retAddr sa)] dW_1069 (by decide) rfl ?_
  refine x_aload_n 2 3 dW_1071 rfl rfl ?_
  refine x_aload_s 0 5 dW_1072 rfl rfl ?_
  refine x_iload 4 1 dW_1073 rfl ?_
  refine x_iconst (v := 1) dW_1075 (by decide) ?_
  refine x_iadd dW_1076 ?_
  refine x_sld (q := (sa, N, xs)) rfl dW_1077 hv1 ?_
  refine x_aload_s 0 5 dW_1078 rfl rfl ?_
  refine x_iload 4 1 dW_1079 rfl ?_
  refine x_iconst (v := 2) dW_1081 (by decide) ?_
  refine x_iadd dW_1082 ?_
  refine x_sld (q := (sa, N, xs)) rfl dW_1083 hv2 ?_
  refine x_callVi (As := [.int (xs ((zN (6 * j)) + 1).toNatClampNeg), .int (xs ((zN (6 * j)) + 2).toNatClampNeg)]) (t := 116) (rest := []) (rc := rc) (rs := rs) (c_O_commit hA hT hO hq) cw_law_O_commit hO.1 hO.2.1 rfl dW_1084 rfl rfl (Nat.le_of_ble_eq_true rfl) rfl (fun _ _ h => h.elim) (fun _ _ _ => trivial) (fun b6 M2 hg => ?_)
  refine x_istore 6 [(6, .int b6), (5, .int k5), (4, .int (zN (6 * j))), (3, .ref 134), (2, .ref 116), (1, .ref 0), (0, .retAddr sa)] dW_1087 (by decide) rfl ?_
  refine x_aload_n 2 4 dW_1089 rfl rfl ?_
  refine x_callVi (As := []) (t := 116) (rest := []) (rc := rc) (rs := rs) (c_O_thrown hA hT hO (Q := fun r M9 => r = M2 116 0 ∧ M9 = M2) ⟨rfl, rfl⟩) cw_law_O_thrown hO.1 hO.2.1 rfl dW_1090 rfl rfl (Nat.le_of_ble_eq_true rfl) rfl (fun _ _ h => h.elim) (fun _ _ _ => trivial) (fun r9 M9 h9 => ?_)
  obtain ⟨e9, f9⟩ := h9
  subst e9
  subst f9
  refine x_iload 5 1 dW_1093 rfl ?_
  refine x_icmp_eq 1100 dW_1095 rfl (fun _ => ?_) (fun h => (h hg.1).elim)
  refine x_iload 5 1 dW_1100 rfl ?_
  have hend : sdW l (sdE0 (some (sa, N, xs))) Y_law D (sd_tys dA) b 135 ad L aF (fun _ _ => True) (fun v _ => v = some (.int 1)) sd_xf 1117 [(6, .int b6), (5, .int k5), (4, .int (zN (6 * j))), (3, .ref 134), (2, .ref 116), (1, .ref 0), (0, .retAddr sa)] [] M9 rc rs := x_sub [2, 3, 4, 5, 6] [(4, .int (zN (6 * j))), (3, .ref 134), (2, .ref 116), (1, .ref 0), (0, .retAddr sa)] rfl (x_goto 1515 dW_1117 rfl (k M9 hg.2.2))
  refine x_if_ne 1117 dW_1102 rfl (fun _ => hend) (fun h0 => ?_)
  refine x_aload_n 3 3 dW_1105 rfl rfl ?_
  refine x_iconst (v := 0) dW_1106 (by decide) ?_
  refine x_lald dW_1107 hJ.1 hJ.2 rfl rfl sd_in01 ?_
  have eo : M9 134 (0 : Int32).toNatClampNeg = b6 := hg.2.1 h0
  rw [eo]
  refine x_iload 6 0 dW_1108 rfl ?_
  refine x_i2l dW_1110 ?_
  refine x_lcmp0 dW_1111 ?_
  exact x_if_eq 1117 dW_1112 rfl (fun _ => hend) (fun h => absurd rfl h)
-- case 12
set_option maxHeartbeats 1000000 in
theorem lk_12 (hA : sd_ad b 135 ad) (hT : l.stackTraces = false) (hD : isD 135 L dA) (hO : isO 135 L dA) (hJ : isJ 135 L dA) (hloc : sd_loc 135 L) {j rc rs : Nat} (hj9 : j ≤ 1000) (hv1 : vp_in (zN (6 * j) + 1) N) (hv2 : vp_in (zN (6 * j) + 2) N) (hv3 : vp_in (zN (6 * j) + 3) N) (hv4 : vp_in (zN (6 * j) + 4) N) (hv5 : vp_in (zN (6 * j) + 5) N) {M : sdM} (hI : INV j M) (k : ∀ M9, INV (j + 1) M9 → sdW l (sdE0 (some (sa, N, xs))) Y_law D (sd_tys dA) b 135 ad L aF (fun _ _ => True) (fun v _ => v = some (.int 1)) sd_xf 1515 [(4, .int (zN (6 * j))), (3, .ref 134), (2, .ref 116), (1, .ref 0), (0, .retAddr sa)] [] M9 rc rs) : sdW l (sdE0 (some (sa, N, xs))) Y_law D (sd_tys dA) b 135 ad L aF (fun _ _ => True) (fun v _ => v = some (.int 1)) sd_xf 1120 [(4, .int (zN (6 * j))), (3, .ref 134), (2, .ref 116), (1, .ref 0), (0, .retAddr sa)] [] M (rc + 6) (rs + 36) := by
  refine x_aload_n 1 3 dW_1120 rfl rfl ?_
  refine x_aload_n 3 1 dW_1121 rfl rfl ?_
  refine x_wide (rc + 1) (rs + 6) (by omega) (by omega) ?_
  refine x_callSHi (As := [.ref 0, .ref 134]) (rest := []) (rc := rc) (rs := rs) (c_L_confirm hA hT hD hJ (J_confirm hI)) cw_law_L_confirm dW_1122 rfl rfl (Nat.le_of_ble_eq_true rfl) rfl (fun _ _ h => h.elim) (fun _ _ _ => trivial) (fun k5 M1 hq => ?_)
  refine x_istore 5 [(5, .int k5), (4, .int (zN (6 * j))), (3, .ref 134), (2, .ref 116), (1, .ref 0), (0, .retAddr sa)] dW_1125 (by decide) rfl ?_
  refine x_aload_n 2 3 dW_1127 rfl rfl ?_
  refine x_callVi (As := []) (t := 116) (rest := []) (rc := rc) (rs := rs) (c_O_confirm hA hT hO hq) cw_law_O_confirm hO.1 hO.2.1 rfl dW_1128 rfl rfl (Nat.le_of_ble_eq_true rfl) rfl (fun _ _ h => h.elim) (fun _ _ _ => trivial) (fun b6 M2 hg => ?_)
  refine x_istore 6 [(6, .int b6), (5, .int k5), (4, .int (zN (6 * j))), (3, .ref 134), (2, .ref 116), (1, .ref 0), (0, .retAddr sa)] dW_1131 (by decide) rfl ?_
  refine x_aload_n 2 4 dW_1133 rfl rfl ?_
  refine x_callVi (As := []) (t := 116) (rest := []) (rc := rc) (rs := rs) (c_O_thrown hA hT hO (Q := fun r M9 => r = M2 116 0 ∧ M9 = M2) ⟨rfl, rfl⟩) cw_law_O_thrown hO.1 hO.2.1 rfl dW_1134 rfl rfl (Nat.le_of_ble_eq_true rfl) rfl (fun _ _ h => h.elim) (fun _ _ _ => trivial) (fun r9 M9 h9 => ?_)
  obtain ⟨e9, f9⟩ := h9
  subst e9
  subst f9
  refine x_iload 5 1 dW_1137 rfl ?_
  refine x_icmp_eq 1144 dW_1139 rfl (fun _ => ?_) (fun h => (h hg.1.1).elim)
  refine x_iload 5 1 dW_1144 rfl ?_
  have hend : sdW l (sdE0 (some (sa, N, xs))) Y_law D (sd_tys dA) b 135 ad L aF (fun _ _ => True) (fun v _ => v = some (.int 1)) sd_xf 1168 [(6, .int b6), (5, .int k5), (4, .int (zN (6 * j))), (3, .ref 134), (2, .ref 116), (1, .ref 0), (0, .retAddr sa)] [] M9 rc rs := x_sub [2, 3, 4, 5, 6] [(4, .int (zN (6 * j))), (3, .ref 134), (2, .ref 116), (1, .ref 0), (0, .retAddr sa)] rfl (x_goto 1515 dW_1168 rfl (k M9 hg.1.2.2))
  refine x_if_ne 1168 dW_1146 rfl (fun _ => hend) (fun h0 => ?_)
  refine x_aload_n 3 3 dW_1149 rfl rfl ?_
  refine x_iconst (v := 0) dW_1150 (by decide) ?_
  refine x_lald dW_1151 hJ.1 hJ.2 rfl rfl sd_in01 ?_
  have eo : M9 134 (0 : Int32).toNatClampNeg = b6 := hg.1.2.1 h0
  rw [eo]
  refine x_iload 6 0 dW_1152 rfl ?_
  rcases hg.2 h0 with hb | hb
  · subst hb
    refine x_if_eq 1161 dW_1154 rfl (fun _ => ?_) (fun h => absurd rfl h)
    refine x_lconst (v := 0) dW_1161 (by decide) ?_
    refine x_lcmp0 dW_1162 ?_
    exact x_if_eq 1168 dW_1163 rfl (fun _ => hend) (fun h => absurd rfl h)
  · subst hb
    refine x_if_eq 1161 dW_1154 rfl (fun h => absurd h (by decide)) (fun _ => ?_)
    refine x_lconst (v := 1) dW_1157 (by decide) ?_
    refine x_goto 1162 dW_1158 rfl ?_
    refine x_lcmp0 dW_1162 ?_
    exact x_if_eq 1168 dW_1163 rfl (fun _ => hend) (fun h => absurd rfl h)
-- case 13
set_option maxHeartbeats 1000000 in
theorem lk_13 (hA : sd_ad b 135 ad) (hT : l.stackTraces = false) (hD : isD 135 L dA) (hO : isO 135 L dA) (hJ : isJ 135 L dA) (hloc : sd_loc 135 L) {j rc rs : Nat} (hj9 : j ≤ 1000) (hv1 : vp_in (zN (6 * j) + 1) N) (hv2 : vp_in (zN (6 * j) + 2) N) (hv3 : vp_in (zN (6 * j) + 3) N) (hv4 : vp_in (zN (6 * j) + 4) N) (hv5 : vp_in (zN (6 * j) + 5) N) {M : sdM} (hI : INV j M) (k : ∀ M9, INV (j + 1) M9 → sdW l (sdE0 (some (sa, N, xs))) Y_law D (sd_tys dA) b 135 ad L aF (fun _ _ => True) (fun v _ => v = some (.int 1)) sd_xf 1515 [(4, .int (zN (6 * j))), (3, .ref 134), (2, .ref 116), (1, .ref 0), (0, .retAddr sa)] [] M9 rc rs) : sdW l (sdE0 (some (sa, N, xs))) Y_law D (sd_tys dA) b 135 ad L aF (fun _ _ => True) (fun v _ => v = some (.int 1)) sd_xf 1171 [(4, .int (zN (6 * j))), (3, .ref 134), (2, .ref 116), (1, .ref 0), (0, .retAddr sa)] [] M (rc + 6) (rs + 36) := by
  refine x_aload_n 1 3 dW_1171 rfl rfl ?_
  refine x_aload_n 3 1 dW_1172 rfl rfl ?_
  refine x_wide (rc + 1) (rs + 6) (by omega) (by omega) ?_
  refine x_callSHi (As := [.ref 0, .ref 134]) (rest := []) (rc := rc) (rs := rs) (c_L_tick hA hT hD hJ (J_tick hj9 hI)) cw_law_L_tick dW_1173 rfl rfl (Nat.le_of_ble_eq_true rfl) rfl (fun _ _ h => h.elim) (fun _ _ _ => trivial) (fun k5 M1 hq => ?_)
  refine x_istore 5 [(5, .int k5), (4, .int (zN (6 * j))), (3, .ref 134), (2, .ref 116), (1, .ref 0), (0, .retAddr sa)] dW_1176 (by decide) rfl ?_
  refine x_aload_n 2 3 dW_1178 rfl rfl ?_
  refine x_callVi (As := []) (t := 116) (rest := []) (rc := rc) (rs := rs) (c_O_tick hA hT hO hq) cw_law_O_tick hO.1 hO.2.1 rfl dW_1179 rfl rfl (Nat.le_of_ble_eq_true rfl) rfl (fun _ _ h => h.elim) (fun _ _ _ => trivial) (fun b6 M2 hg => ?_)
  refine x_istore 6 [(6, .int b6), (5, .int k5), (4, .int (zN (6 * j))), (3, .ref 134), (2, .ref 116), (1, .ref 0), (0, .retAddr sa)] dW_1182 (by decide) rfl ?_
  refine x_aload_n 2 4 dW_1184 rfl rfl ?_
  refine x_callVi (As := []) (t := 116) (rest := []) (rc := rc) (rs := rs) (c_O_thrown hA hT hO (Q := fun r M9 => r = M2 116 0 ∧ M9 = M2) ⟨rfl, rfl⟩) cw_law_O_thrown hO.1 hO.2.1 rfl dW_1185 rfl rfl (Nat.le_of_ble_eq_true rfl) rfl (fun _ _ h => h.elim) (fun _ _ _ => trivial) (fun r9 M9 h9 => ?_)
  obtain ⟨e9, f9⟩ := h9
  subst e9
  subst f9
  refine x_iload 5 1 dW_1188 rfl ?_
  refine x_icmp_eq 1195 dW_1190 rfl (fun _ => ?_) (fun h => (h hg.1.1).elim)
  refine x_iload 5 1 dW_1195 rfl ?_
  have hend : sdW l (sdE0 (some (sa, N, xs))) Y_law D (sd_tys dA) b 135 ad L aF (fun _ _ => True) (fun v _ => v = some (.int 1)) sd_xf 1219 [(6, .int b6), (5, .int k5), (4, .int (zN (6 * j))), (3, .ref 134), (2, .ref 116), (1, .ref 0), (0, .retAddr sa)] [] M9 rc rs := x_sub [2, 3, 4, 5, 6] [(4, .int (zN (6 * j))), (3, .ref 134), (2, .ref 116), (1, .ref 0), (0, .retAddr sa)] rfl (x_goto 1515 dW_1219 rfl (k M9 hg.1.2.2))
  refine x_if_ne 1219 dW_1197 rfl (fun _ => hend) (fun h0 => ?_)
  refine x_aload_n 3 3 dW_1200 rfl rfl ?_
  refine x_iconst (v := 0) dW_1201 (by decide) ?_
  refine x_lald dW_1202 hJ.1 hJ.2 rfl rfl sd_in01 ?_
  have eo : M9 134 (0 : Int32).toNatClampNeg = b6 := hg.1.2.1 h0
  rw [eo]
  refine x_iload 6 0 dW_1203 rfl ?_
  rcases hg.2 h0 with hb | hb
  · subst hb
    refine x_if_eq 1212 dW_1205 rfl (fun _ => ?_) (fun h => absurd rfl h)
    refine x_lconst (v := 0) dW_1212 (by decide) ?_
    refine x_lcmp0 dW_1213 ?_
    exact x_if_eq 1219 dW_1214 rfl (fun _ => hend) (fun h => absurd rfl h)
  · subst hb
    refine x_if_eq 1212 dW_1205 rfl (fun h => absurd h (by decide)) (fun _ => ?_)
    refine x_lconst (v := 1) dW_1208 (by decide) ?_
    refine x_goto 1213 dW_1209 rfl ?_
    refine x_lcmp0 dW_1213 ?_
    exact x_if_eq 1219 dW_1214 rfl (fun _ => hend) (fun h => absurd rfl h)
-- case 14
set_option maxHeartbeats 1000000 in
theorem lk_14 (hA : sd_ad b 135 ad) (hT : l.stackTraces = false) (hD : isD 135 L dA) (hO : isO 135 L dA) (hJ : isJ 135 L dA) (hloc : sd_loc 135 L) {j rc rs : Nat} (hj9 : j ≤ 1000) (hv1 : vp_in (zN (6 * j) + 1) N) (hv2 : vp_in (zN (6 * j) + 2) N) (hv3 : vp_in (zN (6 * j) + 3) N) (hv4 : vp_in (zN (6 * j) + 4) N) (hv5 : vp_in (zN (6 * j) + 5) N) {M : sdM} (hI : INV j M) (k : ∀ M9, INV (j + 1) M9 → sdW l (sdE0 (some (sa, N, xs))) Y_law D (sd_tys dA) b 135 ad L aF (fun _ _ => True) (fun v _ => v = some (.int 1)) sd_xf 1515 [(4, .int (zN (6 * j))), (3, .ref 134), (2, .ref 116), (1, .ref 0), (0, .retAddr sa)] [] M9 rc rs) : sdW l (sdE0 (some (sa, N, xs))) Y_law D (sd_tys dA) b 135 ad L aF (fun _ _ => True) (fun v _ => v = some (.int 1)) sd_xf 1222 [(4, .int (zN (6 * j))), (3, .ref 134), (2, .ref 116), (1, .ref 0), (0, .retAddr sa)] [] M (rc + 6) (rs + 36) := by
  refine x_aload_n 1 3 dW_1222 rfl rfl ?_
  refine x_aload_s 0 4 dW_1223 rfl rfl ?_
  refine x_iload 4 0 dW_1224 rfl ?_
  refine x_iconst (v := 1) dW_1226 (by decide) ?_
  refine x_iadd dW_1227 ?_
  refine x_sld (q := (sa, N, xs)) rfl dW_1228 hv1 ?_
  refine x_aload_s 0 4 dW_1229 rfl rfl ?_
  refine x_iload 4 0 dW_1230 rfl ?_
  refine x_iconst (v := 2) dW_1232 (by decide) ?_
  refine x_iadd dW_1233 ?_
  refine x_sld (q := (sa, N, xs)) rfl dW_1234 hv2 ?_
  refine x_aload_n 3 1 dW_1235 rfl rfl ?_
  refine x_wide (rc + 4) (rs + 24) (by omega) (by omega) ?_
  refine x_callSHi (As := [.ref 0, .int (xs ((zN (6 * j)) + 1).toNatClampNeg), .int (xs ((zN (6 * j)) + 2).toNatClampNeg), .ref 134]) (rest := []) (rc := rc) (rs := rs) (c_L_rollback hA hT hD hJ (J_rollback hj9 hI)) cw_law_L_rollback dW_1236 rfl rfl (Nat.le_of_ble_eq_true rfl) rfl (fun _ _ h => h.elim) (fun _ _ _ => trivial) (fun k5 M1 hq => ?_)
  refine x_istore 5 [(5, .int k5), (4, .int (zN (6 * j))), (3, .ref 134), (2, .ref 116), (1, .ref 0), (0, .retAddr sa)] dW_1239 (by decide) rfl ?_
  refine x_aload_n 2 3 dW_1241 rfl rfl ?_
  refine x_aload_s 0 5 dW_1242 rfl rfl ?_
  refine x_iload 4 1 dW_1243 rfl ?_
  refine x_iconst (v := 1) dW_1245 (by decide) ?_
  refine x_iadd dW_1246 ?_
  refine x_sld (q := (sa, N, xs)) rfl dW_1247 hv1 ?_
  refine x_aload_s 0 5 dW_1248 rfl rfl ?_
  refine x_iload 4 1 dW_1249 rfl ?_
  refine x_iconst (v := 2) dW_1251 (by decide) ?_
  refine x_iadd dW_1252 ?_
  refine x_sld (q := (sa, N, xs)) rfl dW_1253 hv2 ?_
  refine x_callVi (As := [.int (xs ((zN (6 * j)) + 1).toNatClampNeg), .int (xs ((zN (6 * j)) + 2).toNatClampNeg)]) (t := 116) (rest := []) (rc := rc) (rs := rs) (c_O_rollback hA hT hO hq) cw_law_O_rollback hO.1 hO.2.1 rfl dW_1254 rfl rfl (Nat.le_of_ble_eq_true rfl) rfl (fun _ _ h => h.elim) (fun _ _ _ => trivial) (fun b6 M2 hg => ?_)
  refine x_istore 6 [(6, .int b6), (5, .int k5), (4, .int (zN (6 * j))), (3, .ref 134), (2, .ref 116), (1, .ref 0), (0, .retAddr sa)] dW_1257 (by decide) rfl ?_
  refine x_aload_n 2 4 dW_1259 rfl rfl ?_
  refine x_callVi (As := []) (t := 116) (rest := []) (rc := rc) (rs := rs) (c_O_thrown hA hT hO (Q := fun r M9 => r = M2 116 0 ∧ M9 = M2) ⟨rfl, rfl⟩) cw_law_O_thrown hO.1 hO.2.1 rfl dW_1260 rfl rfl (Nat.le_of_ble_eq_true rfl) rfl (fun _ _ h => h.elim) (fun _ _ _ => trivial) (fun r9 M9 h9 => ?_)
  obtain ⟨e9, f9⟩ := h9
  subst e9
  subst f9
  refine x_iload 5 1 dW_1263 rfl ?_
  refine x_icmp_eq 1270 dW_1265 rfl (fun _ => ?_) (fun h => (h hg.1).elim)
  refine x_iload 5 1 dW_1270 rfl ?_
  have hend : sdW l (sdE0 (some (sa, N, xs))) Y_law D (sd_tys dA) b 135 ad L aF (fun _ _ => True) (fun v _ => v = some (.int 1)) sd_xf 1287 [(6, .int b6), (5, .int k5), (4, .int (zN (6 * j))), (3, .ref 134), (2, .ref 116), (1, .ref 0), (0, .retAddr sa)] [] M9 rc rs := x_sub [2, 3, 4, 5, 6] [(4, .int (zN (6 * j))), (3, .ref 134), (2, .ref 116), (1, .ref 0), (0, .retAddr sa)] rfl (x_goto 1515 dW_1287 rfl (k M9 hg.2.2))
  refine x_if_ne 1287 dW_1272 rfl (fun _ => hend) (fun h0 => ?_)
  refine x_aload_n 3 3 dW_1275 rfl rfl ?_
  refine x_iconst (v := 0) dW_1276 (by decide) ?_
  refine x_lald dW_1277 hJ.1 hJ.2 rfl rfl sd_in01 ?_
  have eo : M9 134 (0 : Int32).toNatClampNeg = b6 := hg.2.1 h0
  rw [eo]
  refine x_iload 6 0 dW_1278 rfl ?_
  refine x_i2l dW_1280 ?_
  refine x_lcmp0 dW_1281 ?_
  exact x_if_eq 1287 dW_1282 rfl (fun _ => hend) (fun h => absurd rfl h)
-- case 15
set_option maxHeartbeats 1000000 in
theorem lk_15 (hA : sd_ad b 135 ad) (hT : l.stackTraces = false) (hD : isD 135 L dA) (hO : isO 135 L dA) (hJ : isJ 135 L dA) (hloc : sd_loc 135 L) {j rc rs : Nat} (hj9 : j ≤ 1000) (hv1 : vp_in (zN (6 * j) + 1) N) (hv2 : vp_in (zN (6 * j) + 2) N) (hv3 : vp_in (zN (6 * j) + 3) N) (hv4 : vp_in (zN (6 * j) + 4) N) (hv5 : vp_in (zN (6 * j) + 5) N) {M : sdM} (hI : INV j M) (k : ∀ M9, INV (j + 1) M9 → sdW l (sdE0 (some (sa, N, xs))) Y_law D (sd_tys dA) b 135 ad L aF (fun _ _ => True) (fun v _ => v = some (.int 1)) sd_xf 1515 [(4, .int (zN (6 * j))), (3, .ref 134), (2, .ref 116), (1, .ref 0), (0, .retAddr sa)] [] M9 rc rs) : sdW l (sdE0 (some (sa, N, xs))) Y_law D (sd_tys dA) b 135 ad L aF (fun _ _ => True) (fun v _ => v = some (.int 1)) sd_xf 1290 [(4, .int (zN (6 * j))), (3, .ref 134), (2, .ref 116), (1, .ref 0), (0, .retAddr sa)] [] M (rc + 6) (rs + 36) := by
  refine x_aload_n 1 3 dW_1290 rfl rfl ?_
  refine x_aload_s 0 4 dW_1291 rfl rfl ?_
  refine x_iload 4 0 dW_1292 rfl ?_
  refine x_iconst (v := 1) dW_1294 (by decide) ?_
  refine x_iadd dW_1295 ?_
  refine x_sld (q := (sa, N, xs)) rfl dW_1296 hv1 ?_
  refine x_aload_s 0 4 dW_1297 rfl rfl ?_
  refine x_iload 4 0 dW_1298 rfl ?_
  refine x_iconst (v := 2) dW_1300 (by decide) ?_
  refine x_iadd dW_1301 ?_
  refine x_sld (q := (sa, N, xs)) rfl dW_1302 hv2 ?_
  refine x_aload_s 0 4 dW_1303 rfl rfl ?_
  refine x_iload 4 0 dW_1304 rfl ?_
  refine x_iconst (v := 3) dW_1306 (by decide) ?_
  refine x_iadd dW_1307 ?_
  refine x_sld (q := (sa, N, xs)) rfl dW_1308 hv3 ?_
  refine x_aload_n 3 1 dW_1309 rfl rfl ?_
  refine x_wide (rc + 5) (rs + 32) (by omega) (by omega) ?_
  refine x_callSHi (As := [.ref 0, .int (xs ((zN (6 * j)) + 1).toNatClampNeg), .int (xs ((zN (6 * j)) + 2).toNatClampNeg), .int (xs ((zN (6 * j)) + 3).toNatClampNeg), .ref 134]) (rest := []) (rc := rc) (rs := rs) (c_L_diff hA hT hD hJ hloc (J_diff (n := 135) (by omega) hI)) cw_law_L_diff dW_1310 rfl rfl (Nat.le_of_ble_eq_true rfl) rfl (fun _ _ h => h.elim) (fun _ _ _ => trivial) (fun k5 M1 hq => ?_)
  refine x_istore 5 [(5, .int k5), (4, .int (zN (6 * j))), (3, .ref 134), (2, .ref 116), (1, .ref 0), (0, .retAddr sa)] dW_1313 (by decide) rfl ?_
  refine x_aload_n 2 3 dW_1315 rfl rfl ?_
  refine x_aload_s 0 5 dW_1316 rfl rfl ?_
  refine x_iload 4 1 dW_1317 rfl ?_
  refine x_iconst (v := 1) dW_1319 (by decide) ?_
  refine x_iadd dW_1320 ?_
  refine x_sld (q := (sa, N, xs)) rfl dW_1321 hv1 ?_
  refine x_aload_s 0 5 dW_1322 rfl rfl ?_
  refine x_iload 4 1 dW_1323 rfl ?_
  refine x_iconst (v := 2) dW_1325 (by decide) ?_
  refine x_iadd dW_1326 ?_
  refine x_sld (q := (sa, N, xs)) rfl dW_1327 hv2 ?_
  refine x_aload_s 0 5 dW_1328 rfl rfl ?_
  refine x_iload 4 1 dW_1329 rfl ?_
  refine x_iconst (v := 3) dW_1331 (by decide) ?_
  refine x_iadd dW_1332 ?_
  refine x_sld (q := (sa, N, xs)) rfl dW_1333 hv3 ?_
  refine x_callVi (As := [.int (xs ((zN (6 * j)) + 1).toNatClampNeg), .int (xs ((zN (6 * j)) + 2).toNatClampNeg), .int (xs ((zN (6 * j)) + 3).toNatClampNeg)]) (t := 116) (rest := []) (rc := rc) (rs := rs) (c_O_diff hA hT hO hq) cw_law_O_diff hO.1 hO.2.1 rfl dW_1334 rfl rfl (Nat.le_of_ble_eq_true rfl) rfl (fun _ _ h => h.elim) (fun _ _ _ => trivial) (fun b6 M2 hg => ?_)
  refine x_istore 6 [(6, .int b6), (5, .int k5), (4, .int (zN (6 * j))), (3, .ref 134), (2, .ref 116), (1, .ref 0), (0, .retAddr sa)] dW_1337 (by decide) rfl ?_
  refine x_aload_n 2 4 dW_1339 rfl rfl ?_
  refine x_callVi (As := []) (t := 116) (rest := []) (rc := rc) (rs := rs) (c_O_thrown hA hT hO (Q := fun r M9 => r = M2 116 0 ∧ M9 = M2) ⟨rfl, rfl⟩) cw_law_O_thrown hO.1 hO.2.1 rfl dW_1340 rfl rfl (Nat.le_of_ble_eq_true rfl) rfl (fun _ _ h => h.elim) (fun _ _ _ => trivial) (fun r9 M9 h9 => ?_)
  obtain ⟨e9, f9⟩ := h9
  subst e9
  subst f9
  refine x_iload 5 1 dW_1343 rfl ?_
  refine x_icmp_eq 1350 dW_1345 rfl (fun _ => ?_) (fun h => (h hg.1).elim)
  refine x_iload 5 1 dW_1350 rfl ?_
  have hend : sdW l (sdE0 (some (sa, N, xs))) Y_law D (sd_tys dA) b 135 ad L aF (fun _ _ => True) (fun v _ => v = some (.int 1)) sd_xf 1367 [(6, .int b6), (5, .int k5), (4, .int (zN (6 * j))), (3, .ref 134), (2, .ref 116), (1, .ref 0), (0, .retAddr sa)] [] M9 rc rs := x_sub [2, 3, 4, 5, 6] [(4, .int (zN (6 * j))), (3, .ref 134), (2, .ref 116), (1, .ref 0), (0, .retAddr sa)] rfl (x_goto 1515 dW_1367 rfl (k M9 hg.2.2))
  refine x_if_ne 1367 dW_1352 rfl (fun _ => hend) (fun h0 => ?_)
  refine x_aload_n 3 3 dW_1355 rfl rfl ?_
  refine x_iconst (v := 0) dW_1356 (by decide) ?_
  refine x_lald dW_1357 hJ.1 hJ.2 rfl rfl sd_in01 ?_
  have eo : M9 134 (0 : Int32).toNatClampNeg = b6 := hg.2.1 h0
  rw [eo]
  refine x_iload 6 0 dW_1358 rfl ?_
  refine x_i2l dW_1360 ?_
  refine x_lcmp0 dW_1361 ?_
  exact x_if_eq 1367 dW_1362 rfl (fun _ => hend) (fun h => absurd rfl h)
-- case 16
set_option maxHeartbeats 1000000 in
theorem lk_16 (hA : sd_ad b 135 ad) (hT : l.stackTraces = false) (hD : isD 135 L dA) (hO : isO 135 L dA) (hJ : isJ 135 L dA) (hloc : sd_loc 135 L) {j rc rs : Nat} (hj9 : j ≤ 1000) (hv1 : vp_in (zN (6 * j) + 1) N) (hv2 : vp_in (zN (6 * j) + 2) N) (hv3 : vp_in (zN (6 * j) + 3) N) (hv4 : vp_in (zN (6 * j) + 4) N) (hv5 : vp_in (zN (6 * j) + 5) N) {M : sdM} (hI : INV j M) (k : ∀ M9, INV (j + 1) M9 → sdW l (sdE0 (some (sa, N, xs))) Y_law D (sd_tys dA) b 135 ad L aF (fun _ _ => True) (fun v _ => v = some (.int 1)) sd_xf 1515 [(4, .int (zN (6 * j))), (3, .ref 134), (2, .ref 116), (1, .ref 0), (0, .retAddr sa)] [] M9 rc rs) : sdW l (sdE0 (some (sa, N, xs))) Y_law D (sd_tys dA) b 135 ad L aF (fun _ _ => True) (fun v _ => v = some (.int 1)) sd_xf 1370 [(4, .int (zN (6 * j))), (3, .ref 134), (2, .ref 116), (1, .ref 0), (0, .retAddr sa)] [] M (rc + 6) (rs + 36) := by
  refine x_aload_n 1 3 dW_1370 rfl rfl ?_
  refine x_aload_n 3 1 dW_1371 rfl rfl ?_
  refine x_wide (rc + 1) (rs + 6) (by omega) (by omega) ?_
  refine x_callSHi (As := [.ref 0, .ref 134]) (rest := []) (rc := rc) (rs := rs) (c_L_save hA hT hD hJ (J_save hI)) cw_law_L_save dW_1372 rfl rfl (Nat.le_of_ble_eq_true rfl) rfl (fun _ _ h => h.elim) (fun _ _ _ => trivial) (fun k5 M1 hq => ?_)
  refine x_istore 5 [(5, .int k5), (4, .int (zN (6 * j))), (3, .ref 134), (2, .ref 116), (1, .ref 0), (0, .retAddr sa)] dW_1375 (by decide) rfl ?_
  refine x_aload_n 2 3 dW_1377 rfl rfl ?_
  refine x_callVi (As := []) (t := 116) (rest := []) (rc := rc) (rs := rs) (c_O_save hA hT hO hq) cw_law_O_save hO.1 hO.2.1 rfl dW_1378 rfl rfl (Nat.le_of_ble_eq_true rfl) rfl (fun _ _ h => h.elim) (fun _ _ _ => trivial) (fun b6 M2 hg => ?_)
  refine x_istore 6 [(6, .int b6), (5, .int k5), (4, .int (zN (6 * j))), (3, .ref 134), (2, .ref 116), (1, .ref 0), (0, .retAddr sa)] dW_1381 (by decide) rfl ?_
  refine x_aload_n 2 4 dW_1383 rfl rfl ?_
  refine x_callVi (As := []) (t := 116) (rest := []) (rc := rc) (rs := rs) (c_O_thrown hA hT hO (Q := fun r M9 => r = M2 116 0 ∧ M9 = M2) ⟨rfl, rfl⟩) cw_law_O_thrown hO.1 hO.2.1 rfl dW_1384 rfl rfl (Nat.le_of_ble_eq_true rfl) rfl (fun _ _ h => h.elim) (fun _ _ _ => trivial) (fun r9 M9 h9 => ?_)
  obtain ⟨e9, f9⟩ := h9
  subst e9
  subst f9
  refine x_iload 5 1 dW_1387 rfl ?_
  refine x_icmp_eq 1394 dW_1389 rfl (fun _ => ?_) (fun h => (h hg.1).elim)
  refine x_iload 5 1 dW_1394 rfl ?_
  have hend : sdW l (sdE0 (some (sa, N, xs))) Y_law D (sd_tys dA) b 135 ad L aF (fun _ _ => True) (fun v _ => v = some (.int 1)) sd_xf 1411 [(6, .int b6), (5, .int k5), (4, .int (zN (6 * j))), (3, .ref 134), (2, .ref 116), (1, .ref 0), (0, .retAddr sa)] [] M9 rc rs := x_sub [2, 3, 4, 5, 6] [(4, .int (zN (6 * j))), (3, .ref 134), (2, .ref 116), (1, .ref 0), (0, .retAddr sa)] rfl (x_goto 1515 dW_1411 rfl (k M9 hg.2.2))
  refine x_if_ne 1411 dW_1396 rfl (fun _ => hend) (fun h0 => ?_)
  refine x_aload_n 3 3 dW_1399 rfl rfl ?_
  refine x_iconst (v := 0) dW_1400 (by decide) ?_
  refine x_lald dW_1401 hJ.1 hJ.2 rfl rfl sd_in01 ?_
  have eo : M9 134 (0 : Int32).toNatClampNeg = b6 := hg.2.1 h0
  rw [eo]
  refine x_iload 6 0 dW_1402 rfl ?_
  refine x_i2l dW_1404 ?_
  refine x_lcmp0 dW_1405 ?_
  exact x_if_eq 1411 dW_1406 rfl (fun _ => hend) (fun h => absurd rfl h)
-- case 17
set_option maxHeartbeats 1000000 in
theorem lk_17 (hA : sd_ad b 135 ad) (hT : l.stackTraces = false) (hD : isD 135 L dA) (hO : isO 135 L dA) (hJ : isJ 135 L dA) (hloc : sd_loc 135 L) {j rc rs : Nat} (hj9 : j ≤ 1000) (hv1 : vp_in (zN (6 * j) + 1) N) (hv2 : vp_in (zN (6 * j) + 2) N) (hv3 : vp_in (zN (6 * j) + 3) N) (hv4 : vp_in (zN (6 * j) + 4) N) (hv5 : vp_in (zN (6 * j) + 5) N) {M : sdM} (hI : INV j M) (k : ∀ M9, INV (j + 1) M9 → sdW l (sdE0 (some (sa, N, xs))) Y_law D (sd_tys dA) b 135 ad L aF (fun _ _ => True) (fun v _ => v = some (.int 1)) sd_xf 1515 [(4, .int (zN (6 * j))), (3, .ref 134), (2, .ref 116), (1, .ref 0), (0, .retAddr sa)] [] M9 rc rs) : sdW l (sdE0 (some (sa, N, xs))) Y_law D (sd_tys dA) b 135 ad L aF (fun _ _ => True) (fun v _ => v = some (.int 1)) sd_xf 1414 [(4, .int (zN (6 * j))), (3, .ref 134), (2, .ref 116), (1, .ref 0), (0, .retAddr sa)] [] M (rc + 6) (rs + 36) := by
  refine x_aload_n 1 3 dW_1414 rfl rfl ?_
  refine x_aload_s 0 4 dW_1415 rfl rfl ?_
  refine x_iload 4 0 dW_1416 rfl ?_
  refine x_iconst (v := 1) dW_1418 (by decide) ?_
  refine x_iadd dW_1419 ?_
  refine x_sld (q := (sa, N, xs)) rfl dW_1420 hv1 ?_
  refine x_aload_n 3 1 dW_1421 rfl rfl ?_
  refine x_wide (rc + 1) (rs + 6) (by omega) (by omega) ?_
  refine x_callSHi (As := [.ref 0, .int (xs ((zN (6 * j)) + 1).toNatClampNeg), .ref 134]) (rest := []) (rc := rc) (rs := rs) (c_L_cut hA hT hD hJ (J_cut hI)) cw_law_L_cut dW_1422 rfl rfl (Nat.le_of_ble_eq_true rfl) rfl (fun _ _ h => h.elim) (fun _ _ _ => trivial) (fun k5 M1 hq => ?_)
  refine x_istore 5 [(5, .int k5), (4, .int (zN (6 * j))), (3, .ref 134), (2, .ref 116), (1, .ref 0), (0, .retAddr sa)] dW_1425 (by decide) rfl ?_
  refine x_aload_n 2 3 dW_1427 rfl rfl ?_
  refine x_aload_s 0 5 dW_1428 rfl rfl ?_
  refine x_iload 4 1 dW_1429 rfl ?_
  refine x_iconst (v := 1) dW_1431 (by decide) ?_
  refine x_iadd dW_1432 ?_
  refine x_sld (q := (sa, N, xs)) rfl dW_1433 hv1 ?_
  refine x_callVi (As := [.int (xs ((zN (6 * j)) + 1).toNatClampNeg)]) (t := 116) (rest := []) (rc := rc) (rs := rs) (c_O_cut hA hT hO hq) cw_law_O_cut hO.1 hO.2.1 rfl dW_1434 rfl rfl (Nat.le_of_ble_eq_true rfl) rfl (fun _ _ h => h.elim) (fun _ _ _ => trivial) (fun b6 M2 hg => ?_)
  refine x_istore 6 [(6, .int b6), (5, .int k5), (4, .int (zN (6 * j))), (3, .ref 134), (2, .ref 116), (1, .ref 0), (0, .retAddr sa)] dW_1437 (by decide) rfl ?_
  refine x_aload_n 2 4 dW_1439 rfl rfl ?_
  refine x_callVi (As := []) (t := 116) (rest := []) (rc := rc) (rs := rs) (c_O_thrown hA hT hO (Q := fun r M9 => r = M2 116 0 ∧ M9 = M2) ⟨rfl, rfl⟩) cw_law_O_thrown hO.1 hO.2.1 rfl dW_1440 rfl rfl (Nat.le_of_ble_eq_true rfl) rfl (fun _ _ h => h.elim) (fun _ _ _ => trivial) (fun r9 M9 h9 => ?_)
  obtain ⟨e9, f9⟩ := h9
  subst e9
  subst f9
  refine x_iload 5 1 dW_1443 rfl ?_
  refine x_icmp_eq 1450 dW_1445 rfl (fun _ => ?_) (fun h => (h hg.1.1).elim)
  refine x_iload 5 1 dW_1450 rfl ?_
  have hend : sdW l (sdE0 (some (sa, N, xs))) Y_law D (sd_tys dA) b 135 ad L aF (fun _ _ => True) (fun v _ => v = some (.int 1)) sd_xf 1474 [(6, .int b6), (5, .int k5), (4, .int (zN (6 * j))), (3, .ref 134), (2, .ref 116), (1, .ref 0), (0, .retAddr sa)] [] M9 rc rs := x_sub [2, 3, 4, 5, 6] [(4, .int (zN (6 * j))), (3, .ref 134), (2, .ref 116), (1, .ref 0), (0, .retAddr sa)] rfl (x_goto 1515 dW_1474 rfl (k M9 hg.1.2.2))
  refine x_if_ne 1474 dW_1452 rfl (fun _ => hend) (fun h0 => ?_)
  refine x_aload_n 3 3 dW_1455 rfl rfl ?_
  refine x_iconst (v := 0) dW_1456 (by decide) ?_
  refine x_lald dW_1457 hJ.1 hJ.2 rfl rfl sd_in01 ?_
  have eo : M9 134 (0 : Int32).toNatClampNeg = b6 := hg.1.2.1 h0
  rw [eo]
  refine x_iload 6 0 dW_1458 rfl ?_
  rcases hg.2 h0 with hb | hb
  · subst hb
    refine x_if_eq 1467 dW_1460 rfl (fun _ => ?_) (fun h => absurd rfl h)
    refine x_lconst (v := 0) dW_1467 (by decide) ?_
    refine x_lcmp0 dW_1468 ?_
    exact x_if_eq 1474 dW_1469 rfl (fun _ => hend) (fun h => absurd rfl h)
  · subst hb
    refine x_if_eq 1467 dW_1460 rfl (fun h => absurd h (by decide)) (fun _ => ?_)
    refine x_lconst (v := 1) dW_1463 (by decide) ?_
    refine x_goto 1468 dW_1464 rfl ?_
    refine x_lcmp0 dW_1468 ?_
    exact x_if_eq 1474 dW_1469 rfl (fun _ => hend) (fun h => absurd rfl h)
-- case 18
set_option maxHeartbeats 1000000 in
theorem lk_18 (hA : sd_ad b 135 ad) (hT : l.stackTraces = false) (hD : isD 135 L dA) (hO : isO 135 L dA) (hJ : isJ 135 L dA) (hloc : sd_loc 135 L) {j rc rs : Nat} (hj9 : j ≤ 1000) (hv1 : vp_in (zN (6 * j) + 1) N) (hv2 : vp_in (zN (6 * j) + 2) N) (hv3 : vp_in (zN (6 * j) + 3) N) (hv4 : vp_in (zN (6 * j) + 4) N) (hv5 : vp_in (zN (6 * j) + 5) N) {M : sdM} (hI : INV j M) (k : ∀ M9, INV (j + 1) M9 → sdW l (sdE0 (some (sa, N, xs))) Y_law D (sd_tys dA) b 135 ad L aF (fun _ _ => True) (fun v _ => v = some (.int 1)) sd_xf 1515 [(4, .int (zN (6 * j))), (3, .ref 134), (2, .ref 116), (1, .ref 0), (0, .retAddr sa)] [] M9 rc rs) : sdW l (sdE0 (some (sa, N, xs))) Y_law D (sd_tys dA) b 135 ad L aF (fun _ _ => True) (fun v _ => v = some (.int 1)) sd_xf 1477 [(4, .int (zN (6 * j))), (3, .ref 134), (2, .ref 116), (1, .ref 0), (0, .retAddr sa)] [] M (rc + 6) (rs + 36) := by
  refine x_aload_n 1 3 dW_1477 rfl rfl ?_
  refine x_wide (rc + 0) (rs + 0) (by omega) (by omega) ?_
  refine x_callVi (As := []) (t := 0) (rest := []) (rc := rc) (rs := rs) (c_D_reboot hA hT hD (J_reboot hj9 hI)) cw_law_D_reboot hD.1 hD.2.1 rfl dW_1478 rfl rfl (Nat.le_of_ble_eq_true rfl) rfl (fun _ _ h => h.elim) (fun _ _ _ => trivial) (fun k5 M1 hq => ?_)
  refine x_aload_n 2 2 dW_1481 rfl rfl ?_
  refine x_callVi (As := []) (t := 116) (rest := [.int k5]) (rc := rc) (rs := rs) (c_O_reboot hA hT hO hq) cw_law_O_reboot hO.1 hO.2.1 rfl dW_1482 rfl rfl (Nat.le_of_ble_eq_true rfl) rfl (fun _ _ h => h.elim) (fun _ _ _ => trivial) (fun b6 M2 hg => ?_)
  obtain ⟨e9, hi9⟩ := hg
  exact x_icmp_eq 1515 dW_1485 rfl (fun _ => k M2 hi9) (fun h => (h e9).elim)
-- case 19
set_option maxHeartbeats 1000000 in
theorem lk_19 (hA : sd_ad b 135 ad) (hT : l.stackTraces = false) (hD : isD 135 L dA) (hO : isO 135 L dA) (hJ : isJ 135 L dA) (hloc : sd_loc 135 L) {j rc rs : Nat} (hj9 : j ≤ 1000) (hv1 : vp_in (zN (6 * j) + 1) N) (hv2 : vp_in (zN (6 * j) + 2) N) (hv3 : vp_in (zN (6 * j) + 3) N) (hv4 : vp_in (zN (6 * j) + 4) N) (hv5 : vp_in (zN (6 * j) + 5) N) {M : sdM} (hI : INV j M) (k : ∀ M9, INV (j + 1) M9 → sdW l (sdE0 (some (sa, N, xs))) Y_law D (sd_tys dA) b 135 ad L aF (fun _ _ => True) (fun v _ => v = some (.int 1)) sd_xf 1515 [(4, .int (zN (6 * j))), (3, .ref 134), (2, .ref 116), (1, .ref 0), (0, .retAddr sa)] [] M9 rc rs) : sdW l (sdE0 (some (sa, N, xs))) Y_law D (sd_tys dA) b 135 ad L aF (fun _ _ => True) (fun v _ => v = some (.int 1)) sd_xf 1490 [(4, .int (zN (6 * j))), (3, .ref 134), (2, .ref 116), (1, .ref 0), (0, .retAddr sa)] [] M (rc + 6) (rs + 36) := by
  refine x_aload_n 1 3 dW_1490 rfl rfl ?_
  refine x_aload_s 0 4 dW_1491 rfl rfl ?_
  refine x_iload 4 0 dW_1492 rfl ?_
  refine x_iconst (v := 1) dW_1494 (by decide) ?_
  refine x_iadd dW_1495 ?_
  refine x_sld (q := (sa, N, xs)) rfl dW_1496 hv1 ?_
  refine x_wide (rc + 0) (rs + 0) (by omega) (by omega) ?_
  refine x_callVi (As := [.int (xs ((zN (6 * j)) + 1).toNatClampNeg)]) (t := 0) (rest := []) (rc := rc) (rs := rs) (c_D_figure hA hT hD (J_figure hj9 hI)) cw_law_D_figure hD.1 hD.2.1 rfl dW_1497 rfl rfl (Nat.le_of_ble_eq_true rfl) rfl (fun _ _ h => h.elim) (fun _ _ _ => trivial) (fun k5 M1 hq => ?_)
  refine x_aload_n 2 2 dW_1500 rfl rfl ?_
  refine x_aload_s 0 4 dW_1501 rfl rfl ?_
  refine x_iload 4 0 dW_1502 rfl ?_
  refine x_iconst (v := 1) dW_1504 (by decide) ?_
  refine x_iadd dW_1505 ?_
  refine x_sld (q := (sa, N, xs)) rfl dW_1506 hv1 ?_
  refine x_callVi (As := [.int (xs ((zN (6 * j)) + 1).toNatClampNeg)]) (t := 116) (rest := [.int k5]) (rc := rc) (rs := rs) (c_O_figure hA hT hO hq) cw_law_O_figure hO.1 hO.2.1 rfl dW_1507 rfl rfl (Nat.le_of_ble_eq_true rfl) rfl (fun _ _ h => h.elim) (fun _ _ _ => trivial) (fun b6 M2 hg => ?_)
  obtain ⟨e9, hi9⟩ := hg
  exact x_icmp_eq 1515 dW_1510 rfl (fun _ => k M2 hi9) (fun h => (h e9).elim)
theorem lw_sub {N i : Nat} (hN : N ≤ 3072) (hi : i ≤ 4000) : (zN N - 6 < zN i) ↔ N < i + 6 := by
  by_cases h : 6 ≤ N
  · rw [show (6 : Int32) = zN 6 from rfl, zN_sub h, zN_lt (by omega) (by omega)]; omega
  · have hlt : zN N - 6 < 0 := by
      have : N = 0 ∨ N = 1 ∨ N = 2 ∨ N = 3 ∨ N = 4 ∨ N = 5 := by omega
      rcases this with rfl | rfl | rfl | rfl | rfl | rfl <;> decide
    refine ⟨fun _ => by omega, fun _ => ?_⟩
    have h0 : ¬ zN i < 0 := zN_ge (by omega)
    rw [Int32.lt_iff_toInt_lt] at *
    omega
theorem lw_in {N j c : Nat} (hN : N ≤ 3072) (hj : 6 * j + 6 ≤ N) (hc : c < 6) : vp_in (zN (6 * j) + zN c) N := by
  rw [zN_add]; exact (zN_in (by omega)).mpr (by omega)
-- one round
set_option maxHeartbeats 1000000 in
theorem lw_round (hA : sd_ad b 135 ad) (hT : l.stackTraces = false) (hD : isD 135 L dA) (hO : isO 135 L dA) (hJ : isJ 135 L dA) (hloc : sd_loc 135 L) (hN : N ≤ 3072) {j rc rs : Nat} (hj : 6 * j + 6 ≤ N) {M : sdM} (hI : INV j M) (k : ∀ M9, INV (j + 1) M9 → sdW l (sdE0 (some (sa, N, xs))) Y_law D (sd_tys dA) b 135 ad L aF (fun _ _ => True) (fun v _ => v = some (.int 1)) sd_xf 1515 [(4, .int (zN (6 * j))), (3, .ref 134), (2, .ref 116), (1, .ref 0), (0, .retAddr sa)] [] M9 rc rs) : sdW l (sdE0 (some (sa, N, xs))) Y_law D (sd_tys dA) b 135 ad L aF (fun _ _ => True) (fun v _ => v = some (.int 1)) sd_xf 33 [(4, .int (zN (6 * j))), (3, .ref 134), (2, .ref 116), (1, .ref 0), (0, .retAddr sa)] [] M (rc + 6) (rs + 36) := by
  have hj9 : j ≤ 1000 := by omega
  have hv1 : vp_in (zN (6 * j) + 1) N := lw_in hN hj (c := 1) (by omega)
  have hv2 : vp_in (zN (6 * j) + 2) N := lw_in hN hj (c := 2) (by omega)
  have hv3 : vp_in (zN (6 * j) + 3) N := lw_in hN hj (c := 3) (by omega)
  have hv4 : vp_in (zN (6 * j) + 4) N := lw_in hN hj (c := 4) (by omega)
  have hv5 : vp_in (zN (6 * j) + 5) N := lw_in hN hj (c := 5) (by omega)
  have hv0 : vp_in (zN (6 * j)) N := (zN_in (by omega)).mpr (by omega)
  refine x_aload_s 0 4 dW_33 rfl rfl ?_
  refine x_iload 4 0 dW_34 rfl ?_
  refine x_sld (q := (sa, N, xs)) rfl dW_36 hv0 ?_
  refine x_bipush (v := 31) dW_37 (by decide) ?_
  refine x_iand dW_39 ?_
  show sdW l (sdE0 (some (sa, N, xs))) Y_law D (sd_tys dA) b 135 ad L aF (fun _ _ => True) (fun v _ => v = some (.int 1)) sd_xf 40 [(4, .int (zN (6 * j))), (3, .ref 134), (2, .ref 116), (1, .ref 0), (0, .retAddr sa)] [.int (xs (zN (6 * j)).toNatClampNeg &&& 31)] M (rc + 6) (rs + 36)
  generalize xs (zN (6 * j)).toNatClampNeg &&& 31 = v
  by_cases h0 : v = 0
  · subst h0
    exact x_tin 136 dW_40 (by decide) (by decide) (off := 96) (by decide) rfl (lk_0 hA hT hD hO hJ hloc hj9 hv1 hv2 hv3 hv4 hv5 hI k)
  by_cases h1 : v = 1
  · subst h1
    exact x_tin 180 dW_40 (by decide) (by decide) (off := 140) (by decide) rfl (lk_1 hA hT hD hO hJ hloc hj9 hv1 hv2 hv3 hv4 hv5 hI k)
  by_cases h2 : v = 2
  · subst h2
    exact x_tin 284 dW_40 (by decide) (by decide) (off := 244) (by decide) rfl (lk_2 hA hT hD hO hJ hloc hj9 hv1 hv2 hv3 hv4 hv5 hI k)
  by_cases h3 : v = 3
  · subst h3
    exact x_tin 344 dW_40 (by decide) (by decide) (off := 304) (by decide) rfl (lk_3 hA hT hD hO hJ hloc hj9 hv1 hv2 hv3 hv4 hv5 hI k)
  by_cases h4 : v = 4
  · subst h4
    exact x_tin 464 dW_40 (by decide) (by decide) (off := 424) (by decide) rfl (lk_4 hA hT hD hO hJ hloc hj9 hv1 hv2 hv3 hv4 hv5 hI k)
  by_cases h5 : v = 5
  · subst h5
    exact x_tin 515 dW_40 (by decide) (by decide) (off := 475) (by decide) rfl (lk_5 hA hT hD hO hJ hloc hj9 hv1 hv2 hv3 hv4 hv5 hI k)
  by_cases h6 : v = 6
  · subst h6
    exact x_tin 571 dW_40 (by decide) (by decide) (off := 531) (by decide) rfl (lk_6 hA hT hD hO hJ hloc hj9 hv1 hv2 hv3 hv4 hv5 hI k)
  by_cases h7 : v = 7
  · subst h7
    exact x_tin 686 dW_40 (by decide) (by decide) (off := 646) (by decide) rfl (lk_7 hA hT hD hO hJ hloc hj9 hv1 hv2 hv3 hv4 hv5 hI k)
  by_cases h8 : v = 8
  · subst h8
    exact x_tin 770 dW_40 (by decide) (by decide) (off := 730) (by decide) rfl (lk_8 hA hT hD hO hJ hloc hj9 hv1 hv2 hv3 hv4 hv5 hI k)
  by_cases h9 : v = 9
  · subst h9
    exact x_tin 869 dW_40 (by decide) (by decide) (off := 829) (by decide) rfl (lk_9 hA hT hD hO hJ hloc hj9 hv1 hv2 hv3 hv4 hv5 hI k)
  by_cases h10 : v = 10
  · subst h10
    exact x_tin 961 dW_40 (by decide) (by decide) (off := 921) (by decide) rfl (lk_10 hA hT hD hO hJ hloc hj9 hv1 hv2 hv3 hv4 hv5 hI k)
  by_cases h11 : v = 11
  · subst h11
    exact x_tin 1052 dW_40 (by decide) (by decide) (off := 1012) (by decide) rfl (lk_11 hA hT hD hO hJ hloc hj9 hv1 hv2 hv3 hv4 hv5 hI k)
  by_cases h12 : v = 12
  · subst h12
    exact x_tin 1120 dW_40 (by decide) (by decide) (off := 1080) (by decide) rfl (lk_12 hA hT hD hO hJ hloc hj9 hv1 hv2 hv3 hv4 hv5 hI k)
  by_cases h13 : v = 13
  · subst h13
    exact x_tin 1171 dW_40 (by decide) (by decide) (off := 1131) (by decide) rfl (lk_13 hA hT hD hO hJ hloc hj9 hv1 hv2 hv3 hv4 hv5 hI k)
  by_cases h14 : v = 14
  · subst h14
    exact x_tin 1222 dW_40 (by decide) (by decide) (off := 1182) (by decide) rfl (lk_14 hA hT hD hO hJ hloc hj9 hv1 hv2 hv3 hv4 hv5 hI k)
  by_cases h15 : v = 15
  · subst h15
    exact x_tin 1290 dW_40 (by decide) (by decide) (off := 1250) (by decide) rfl (lk_15 hA hT hD hO hJ hloc hj9 hv1 hv2 hv3 hv4 hv5 hI k)
  by_cases h16 : v = 16
  · subst h16
    exact x_tin 1370 dW_40 (by decide) (by decide) (off := 1330) (by decide) rfl (lk_16 hA hT hD hO hJ hloc hj9 hv1 hv2 hv3 hv4 hv5 hI k)
  by_cases h17 : v = 17
  · subst h17
    exact x_tin 1414 dW_40 (by decide) (by decide) (off := 1374) (by decide) rfl (lk_17 hA hT hD hO hJ hloc hj9 hv1 hv2 hv3 hv4 hv5 hI k)
  by_cases h18 : v = 18
  · subst h18
    exact x_tin 1477 dW_40 (by decide) (by decide) (off := 1437) (by decide) rfl (lk_18 hA hT hD hO hJ hloc hj9 hv1 hv2 hv3 hv4 hv5 hI k)
  by_cases h19 : v = 19
  · subst h19
    exact x_tin 1490 dW_40 (by decide) (by decide) (off := 1450) (by decide) rfl (lk_19 hA hT hD hO hJ hloc hj9 hv1 hv2 hv3 hv4 hv5 hI k)
  refine x_tout 1515 dW_40 ?_ rfl ?_
  · by_cases hn : v < 0
    · exact Or.inl (Int32.lt_iff_toInt_lt.mp hn)
    · obtain ⟨m, hm, rfl⟩ := zN_of hn
      refine Or.inr ?_
      rw [zN_int hm]
      have g0 : m ≠ 0 := fun e => h0 (by rw [e]; rfl)
      have g1 : m ≠ 1 := fun e => h1 (by rw [e]; rfl)
      have g2 : m ≠ 2 := fun e => h2 (by rw [e]; rfl)
      have g3 : m ≠ 3 := fun e => h3 (by rw [e]; rfl)
      have g4 : m ≠ 4 := fun e => h4 (by rw [e]; rfl)
      have g5 : m ≠ 5 := fun e => h5 (by rw [e]; rfl)
      have g6 : m ≠ 6 := fun e => h6 (by rw [e]; rfl)
      have g7 : m ≠ 7 := fun e => h7 (by rw [e]; rfl)
      have g8 : m ≠ 8 := fun e => h8 (by rw [e]; rfl)
      have g9 : m ≠ 9 := fun e => h9 (by rw [e]; rfl)
      have g10 : m ≠ 10 := fun e => h10 (by rw [e]; rfl)
      have g11 : m ≠ 11 := fun e => h11 (by rw [e]; rfl)
      have g12 : m ≠ 12 := fun e => h12 (by rw [e]; rfl)
      have g13 : m ≠ 13 := fun e => h13 (by rw [e]; rfl)
      have g14 : m ≠ 14 := fun e => h14 (by rw [e]; rfl)
      have g15 : m ≠ 15 := fun e => h15 (by rw [e]; rfl)
      have g16 : m ≠ 16 := fun e => h16 (by rw [e]; rfl)
      have g17 : m ≠ 17 := fun e => h17 (by rw [e]; rfl)
      have g18 : m ≠ 18 := fun e => h18 (by rw [e]; rfl)
      have g19 : m ≠ 19 := fun e => h19 (by rw [e]; rfl)
      omega
  · exact x_wide rc rs (by omega) (by omega) (k M (by
      obtain ⟨S, rdy, off, chg, wts, hld, pg, w, bg, F, c9, m9, k9⟩ := hI
      exact ⟨S, rdy, off, chg, wts, hld, pg, w, bg, F, c9, m9, k9.mono⟩))
/-- the loop, with d rounds left -/
theorem lw_loop (hA : sd_ad b 135 ad) (hT : l.stackTraces = false) (hD : isD 135 L dA) (hO : isO 135 L dA) (hJ : isJ 135 L dA) (hloc : sd_loc 135 L) (hN : N ≤ 3072) : ∀ (d j : Nat) (M : sdM), j + d = N / 6 → INV j M → sdW l (sdE0 (some (sa, N, xs))) Y_law D (sd_tys dA) b 135 ad L aF (fun _ _ => True) (fun v _ => v = some (.int 1)) sd_xf 23 [(4, .int (zN (6 * j))), (3, .ref 134), (2, .ref 116), (1, .ref 0), (0, .retAddr sa)] [] M (6 * d) (36 * d) := by
  intro d
  induction d with
  | zero =>
    intro j M hj hI
    refine x_iload 4 0 dW_23 rfl ?_
    refine x_aload_s 0 4 dW_25 rfl rfl ?_
    refine x_slen (q := (sa, N, xs)) rfl dW_26 ?_
    refine x_bipush (v := 6) dW_27 (by decide) ?_
    refine x_isub dW_29 ?_
    refine x_icmp_gt 1521 dW_30 rfl (fun _ => ?_) (fun h => absurd ((lw_sub hN (by omega)).mpr (by omega)) h)
    refine x_iconst (v := 1) dW_1521 (by decide) ?_
    exact x_zret dW_1522 rfl rfl (fun _ _ => trivial) rfl
  | succ d ih =>
    intro j M hj hI
    refine x_iload 4 0 dW_23 rfl ?_
    refine x_aload_s 0 4 dW_25 rfl rfl ?_
    refine x_slen (q := (sa, N, xs)) rfl dW_26 ?_
    refine x_bipush (v := 6) dW_27 (by decide) ?_
    refine x_isub dW_29 ?_
    refine x_icmp_gt 1521 dW_30 rfl (fun h => ?_) (fun _ => ?_)
    · exact absurd ((lw_sub hN (by omega)).mp h) (by omega)
    · refine x_wide (6 * d + 6) (36 * d + 36) (by omega) (by omega) (lw_round hA hT hD hO hJ hloc hN (by omega) hI (fun M9 hI9 => ?_))
      refine x_iinc 4 0 [(4, .int (zN (6 * (j + 1)))), (3, .ref 134), (2, .ref 116), (1, .ref 0), (0, .retAddr sa)] dW_1515 rfl (zN_add (6 * j) 6) (by decide) rfl ?_
      exact x_goto 23 dW_1518 rfl (ih (j + 1) M9 (by omega) hI9)
theorem isO.up {n n2 : Nat} {L L2 : Nat → sdL} {dA : Nat → ClassId} (h : isO n L dA) (u : sd_up n L n2 L2) : isO n2 L2 dA := ⟨Nat.lt_of_lt_of_le h.1 u.1, (u.2 _ h.1).trans h.2.1, h.leaves.up u, h.refers.up u, h.lows.up u, h.highs.up u, h.flags.up u, h.hasStandard.up u, h.standards.up u, h.ruleList.up u, h.ruleA.up u, h.ruleValue.up u, h.ruleB.up u, h.ruleThere.up u, h.sizes.up u, h.keys.up u, h.bits.up u, h.values.up u, h.begun.up u⟩
theorem sd_bel_s {n k : Nat} : sd_bel n (.retAddr k) := fun _ e => by cases e
set_option maxHeartbeats 2000000 in
theorem lw_body (hT : l.stackTraces = false) (hN : N ≤ 3072) {M : sdM} : sdW l (sdE0 (some (sa, N, xs))) Y_law D (sd_tys dA) b 0 ad L aF (fun _ _ => True) (fun v _ => v = some (.int 1)) sd_xf 0 [(0, .retAddr sa)] [] M 601024 7293034 := by
  refine x_new (rc := 601023) (rs := 7293022) (n := 0) [some none, some none, some none, some none, some none, some none, some none, none, none, none, none, none] ⟨fun i j hi => absurd hi (Nat.not_lt_zero i), fun k hk => absurd hk (Nat.not_lt_zero k)⟩ (fun k hk => absurd hk (Nat.not_lt_zero k)) (List.forall_mem_cons.mpr ⟨sd_bel_s, fun _ h => absurd h List.not_mem_nil⟩) (fun _ h => absurd h List.not_mem_nil) dW_0 (ci := 0) (N := 12) (C := "SettingsDesk") (T := T_D) rfl ty_D ty_D_ok lay_D (List.mem_cons_of_mem _ q843) (List.mem_cons_of_mem _ q844) (List.mem_cons_of_mem _ q274) (sd_nr rfl) (by decide +kernel) rfl rfl (fun ad2 L2 M2 hA2 hl2 hu2 hy2 hq2 e2 => ?_)
  refine x_dup dW_3 rfl ?_
  refine x_callIg (As := []) (t := 0) (rest := [.ref 0]) (rc := 600908) (rs := 7287804) (na := 0) (host := "SettingsDesk") (c_D_init hA2 hT hl2 hy2 (C_init (fun M9 h => h))) (sd_goodB q845) ⟨_, rfl⟩ (List.mem_cons_of_mem _ q274) (List.mem_cons_of_mem _ q846) (Or.inl (List.mem_cons_of_mem _ q847)) ⟨rfl, by decide, by decide, by decide +kernel⟩ ⟨rfl, rfl, rfl, rfl⟩ ⟨by decide, by decide⟩ dW_4 rfl rfl (Nat.le_of_ble_eq_true rfl) (fun _ _ h => h) (fun v M3 H3 hq9 hF9 => ?_)
  obtain ⟨ad3, L3, hq3, hA3, hl3, hs3, hH3⟩ := hF9
  refine ⟨hq9.1, 116, ad3, L3, hH3, sd_l_ext hq3 (List.forall_mem_cons.mpr ⟨sd_bel_s, fun _ h => absurd h List.not_mem_nil⟩), sd_map_ext hq3 (List.forall_mem_cons.mpr ⟨(sd_bel_r (by omega)), fun _ h => absurd h List.not_mem_nil⟩), ?_⟩
  have c3 := hq9.2
  refine x_astore_n 1 [(1, .ref 0), (0, .retAddr sa)] dW_7 rfl (by decide) rfl ?_
  refine x_new (rc := 600907) (rs := 7287769) (n := 116) [none, none, none, some none, some none, some none, some none, some none, some none, some none, none, some none, some none, some none, some none, some none, some none, some none, some none, some none, none, none, some none, none, none, none, none, none, none, none, none, none, none, none, none] hA3 hl3 (List.forall_mem_cons.mpr ⟨(sd_bel_r (by omega)), List.forall_mem_cons.mpr ⟨sd_bel_s, fun _ h => absurd h List.not_mem_nil⟩⟩) (fun _ h => absurd h List.not_mem_nil) dW_8 (ci := 10) (N := 35) (C := "SettingsDeskModel") (T := T_O) rfl ty_O ty_O_ok lay_O (List.mem_cons_of_mem _ q848) (List.mem_cons_of_mem _ q849) (List.mem_cons_of_mem _ q459) (sd_nr rfl) (by decide +kernel) rfl rfl (fun ad5 L5 M5 hA5 hl5 hu5 hy5 hq5 e5 => ?_)
  refine x_dup dW_11 rfl ?_
  refine x_callIg (As := []) (t := 116) (rest := [.ref 116]) (rc := 600890) (rs := 7282682) (na := 0) (host := "SettingsDeskModel") (c_O_init hA5 hT hl5 hy5 (O_init (Q := fun M9 => INV 0 M9) (by rw [e5]; exact va_up_self _ _ _) (fun M9 hm hf => INV_0 ((c3.fr (fun c hc => by rw [e5]; exact va_up_ne _ _ (by omega))).fm hf) hm))) (sd_goodB q850) ⟨_, rfl⟩ (List.mem_cons_of_mem _ q459) (List.mem_cons_of_mem _ q851) (Or.inl (List.mem_cons_of_mem _ q852)) ⟨rfl, by decide, by decide, by decide +kernel⟩ ⟨rfl, rfl, rfl, rfl⟩ ⟨by decide, by decide⟩ dW_12 rfl rfl (Nat.le_of_ble_eq_true rfl) (fun _ _ h => h) (fun v6 M6 H6 hq9 hF9 => ?_)
  obtain ⟨ad6, L6, hq6, hA6, hl6, hk6, hs6, hH6⟩ := hF9
  refine ⟨hq9.1, 134, ad6, L6, hH6, sd_l_ext hq6 (List.forall_mem_cons.mpr ⟨(sd_bel_r (by omega)), List.forall_mem_cons.mpr ⟨sd_bel_s, fun _ h => absurd h List.not_mem_nil⟩⟩), sd_map_ext hq6 (List.forall_mem_cons.mpr ⟨(sd_bel_r (by omega)), fun _ h => absurd h List.not_mem_nil⟩), ?_⟩
  have i6 : INV 0 M6 := hq9.2
  refine x_astore_n 2 [(2, .ref 116), (1, .ref 0), (0, .retAddr sa)] dW_15 rfl (by decide) rfl ?_
  refine x_iconst (v := 1) dW_16 (by decide) ?_
  refine x_newJ (rc := 600889) (rs := 7282681) (t0 := 2) (len := 1) hA6 hl6 (List.forall_mem_cons.mpr ⟨(sd_bel_r (by omega)), List.forall_mem_cons.mpr ⟨(sd_bel_r (by omega)), List.forall_mem_cons.mpr ⟨sd_bel_s, fun _ h => absurd h List.not_mem_nil⟩⟩⟩) (fun _ h => absurd h List.not_mem_nil) dW_17 rfl rfl (List.mem_cons_of_mem _ q853) rfl (by decide) (by decide) (by decide) rfl rfl (fun ad7 M7 hA7 hl7 hu7 hq7 e7 => ?_)
  refine x_astore_n 3 [(3, .ref 134), (2, .ref 116), (1, .ref 0), (0, .retAddr sa)] dW_19 rfl (by decide) rfl ?_
  refine x_iconst (v := 0) dW_20 (by decide) ?_
  refine x_istore 4 [(4, .int (zN (6 * 0))), (3, .ref 134), (2, .ref 116), (1, .ref 0), (0, .retAddr sa)] dW_21 (by decide) rfl ?_
  have hD7 : isD 135 (va_up L6 134 (sd_J (dA 2) 1)) dA := ((hs3.up ⟨by omega, fun k hk => (hk6 k hk).trans (hu5.2 k hk)⟩ : isD 134 L6 dA)).up hu7
  have hO7 : isO 135 (va_up L6 134 (sd_J (dA 2) 1)) dA := hs6.up hu7
  have hJ7 : isJ 135 (va_up L6 134 (sd_J (dA 2) 1)) dA := ⟨by omega, va_up_self _ _ _⟩
  have i7 : INV 0 M7 := by
    obtain ⟨S, rdy, off, chg, wts, hld, pg, w, bg, F, c9, m9, k9⟩ := i6
    exact ⟨S, rdy, off, chg, wts, hld, pg, w, bg, F, c9.fr (fun c hc => by rw [e7]; exact va_up_ne _ _ (by omega)), m9.fr (fun c h1 h2 => by rw [e7]; exact va_up_ne _ _ (by omega)), k9⟩
  exact x_wide (6 * (N / 6)) (36 * (N / 6)) (by omega) (by omega) (lw_loop hA7 hT hD7 hO7 hJ7 hl7 hN (N / 6) 0 M7 (by omega) i7)
end
