/-! the start, as our rows want it; the claim -/
theorem lt_1 {w : Cond} (i : Nat) (h : tables_1_1[i]? = some w) : w ∈ lw_tbl := List.mem_append_right _ (show w ∈ tables_1 from List.mem_append_left _ (List.mem_of_getElem? h))
theorem lt_2 {w : Cond} (i : Nat) (h : tables_1_2[i]? = some w) : w ∈ lw_tbl := List.mem_append_right _ (show w ∈ tables_1 from List.mem_append_right _ (List.mem_append_left _ (List.mem_of_getElem? h)))
theorem lt_3 {w : Cond} (i : Nat) (h : tables_1_3[i]? = some w) : w ∈ lw_tbl := List.mem_append_right _ (show w ∈ tables_1 from List.mem_append_right _ (List.mem_append_right _ (List.mem_append_left _ (List.mem_of_getElem? h))))
theorem lt_4 {w : Cond} (i : Nat) (h : tables_1_4[i]? = some w) : w ∈ lw_tbl := List.mem_append_right _ (show w ∈ tables_1 from List.mem_append_right _ (List.mem_append_right _ (List.mem_append_right _ (List.mem_append_left _ (List.mem_of_getElem? h)))))
theorem lt_5 {w : Cond} (i : Nat) (h : tables_1_5[i]? = some w) : w ∈ lw_tbl := List.mem_append_right _ (show w ∈ tables_1 from List.mem_append_right _ (List.mem_append_right _ (List.mem_append_right _ (List.mem_append_right _ (List.mem_of_getElem? h)))))
theorem mv_M {a : String} {i : Nat} {y : MethodName} {h : String} : sd_mv (.methodLinkNest a i y h) := ⟨fun _ _ _ h => va_any rfl h, fun s U hW hz => va_Nw.warmM hW hz⟩
theorem mv_D {y : MethodName} : sd_mv (.declares y) := ⟨fun _ _ _ h => va_any rfl h, fun s U hW hz => va_Nw.warmD hW hz⟩
theorem mv_C {a b : String} : sd_mv (.castable a b) := ⟨fun _ _ _ h => va_any rfl h, fun s U hW hz => va_Nw.warmC hW hz⟩
theorem mv_A {C : String} : sd_mv (.arrayOver (.object C)) := ⟨fun _ _ _ h => h, fun s U hW hz => va_AO.moved (C := C) hW.alike hz⟩
theorem st_nw {args : Array Value} {s : State} (hts : ∀ w ∈ lw_tbl, w.before args s = true) : ∀ w ∈ sdNw, va_Nw w s ∧ sd_mv w := by
  show ∀ w ∈ ([.arrayOver (.object "SettingsDesk$Leaf"), .arrayOver (.object "SettingsDesk$Rule"), .methodLinkNest "SettingsDesk$Schema" 38 ⟨"SettingsDesk$Leaf", "<init>", "()V"⟩ "SettingsDesk", .methodLinkNest "SettingsDesk$Schema" 39 ⟨"SettingsDesk$Rule", "<init>", "()V"⟩ "SettingsDesk", .arrayOver (.object "SettingsDesk$Settings"), .arrayOver (.object "SettingsDesk$Session"), .methodLinkNest "SettingsDesk" 41 ⟨"SettingsDesk$Trouble", "<init>", "()V"⟩ "SettingsDesk", .methodLinkNest "SettingsDesk" 63 ⟨"SettingsDesk$Session", "<init>", "()V"⟩ "SettingsDesk", .castable "java/lang/IllegalStateException" "java/lang/IllegalStateException", .declares ⟨"java/lang/RuntimeException", "<init>", "()V"⟩, .declares ⟨"java/lang/RuntimeException", "<init>", "(Ljava/lang/String;)V"⟩, .declares ⟨"java/lang/Exception", "<init>", "()V"⟩, .declares ⟨"java/lang/Exception", "<init>", "(Ljava/lang/String;)V"⟩, .declares ⟨"java/lang/Throwable", "<init>", "()V"⟩, .declares ⟨"java/lang/Throwable", "<init>", "(Ljava/lang/String;)V"⟩, .castable "java/lang/IndexOutOfBoundsException" "java/lang/IndexOutOfBoundsException", .castable "java/lang/IllegalArgumentException" "java/lang/IllegalArgumentException", .castable "java/lang/UnsupportedOperationException" "java/lang/UnsupportedOperationException"] : List Cond), va_Nw w s ∧ sd_mv w
  exact List.forall_mem_cons.mpr ⟨⟨mv_A.1 _ _ _ (hts _ (lt_1 37 rfl)), mv_A⟩, List.forall_mem_cons.mpr ⟨⟨mv_A.1 _ _ _ (hts _ (lt_1 39 rfl)), mv_A⟩, List.forall_mem_cons.mpr ⟨⟨mv_M.1 _ _ _ (hts _ (lt_1 41 rfl)), mv_M⟩, List.forall_mem_cons.mpr ⟨⟨mv_M.1 _ _ _ (hts _ (lt_1 79 rfl)), mv_M⟩, List.forall_mem_cons.mpr ⟨⟨mv_A.1 _ _ _ (hts _ (lt_1 153 rfl)), mv_A⟩, List.forall_mem_cons.mpr ⟨⟨mv_A.1 _ _ _ (hts _ (lt_1 155 rfl)), mv_A⟩, List.forall_mem_cons.mpr ⟨⟨mv_M.1 _ _ _ (hts _ (lt_1 158 rfl)), mv_M⟩, List.forall_mem_cons.mpr ⟨⟨mv_M.1 _ _ _ (hts _ (lt_1 180 rfl)), mv_M⟩, List.forall_mem_cons.mpr ⟨⟨mv_C.1 _ _ _ (hts _ (lt_2 72 rfl)), mv_C⟩, List.forall_mem_cons.mpr ⟨⟨mv_D.1 _ _ _ (hts _ (lt_2 73 rfl)), mv_D⟩, List.forall_mem_cons.mpr ⟨⟨mv_D.1 _ _ _ (hts _ (lt_2 74 rfl)), mv_D⟩, List.forall_mem_cons.mpr ⟨⟨mv_D.1 _ _ _ (hts _ (lt_2 75 rfl)), mv_D⟩, List.forall_mem_cons.mpr ⟨⟨mv_D.1 _ _ _ (hts _ (lt_2 76 rfl)), mv_D⟩, List.forall_mem_cons.mpr ⟨⟨mv_D.1 _ _ _ (hts _ (lt_2 77 rfl)), mv_D⟩, List.forall_mem_cons.mpr ⟨⟨mv_D.1 _ _ _ (hts _ (lt_2 78 rfl)), mv_D⟩, List.forall_mem_cons.mpr ⟨⟨mv_C.1 _ _ _ (hts _ (lt_2 159 rfl)), mv_C⟩, List.forall_mem_cons.mpr ⟨⟨mv_C.1 _ _ _ (hts _ (lt_2 181 rfl)), mv_C⟩, List.forall_mem_cons.mpr ⟨⟨mv_C.1 _ _ _ (hts _ (lt_3 132 rfl)), mv_C⟩, fun _ h => absurd h List.not_mem_nil⟩⟩⟩⟩⟩⟩⟩⟩⟩⟩⟩⟩⟩⟩⟩⟩⟩⟩
theorem st_str {own tx : String} {k : Nat} {args : Array Value} {s : State} (h : (Cond.stringRef own k tx).before args s = true) : ∃ sa, vk_R own k tx sa s := by
  have h0 : (Cond.stringRef own k tx).before #[] s = true := h
  cases hc : s.vm.findClass own with
  | none => simp [Cond.before, Cond.holds, Cond.value, hc] at h0
  | some cur =>
    obtain ⟨kk, cf, i, a, -, -, -, -, -, h6⟩ := Cond.stringRef_spec (args := #[]) (first := s) (o := none) (idx := []) hc h0
    exact ⟨a, h0, h6⟩
theorem st_ss {args : Array Value} {s : State} (hts : ∀ w ∈ lw_tbl, w.before args s = true) : ∀ q ∈ sdSs, ∃ sa, vk_R q.1 q.2.1 q.2.2 sa s := by
  show ∀ q ∈ ([("SettingsDesk", 292, "the power is off, or the schema is ready"), ("SettingsDesk", 72, "there are as many lists as there may be"), ("SettingsDesk", 299, "there is no such list"), ("SettingsDesk", 85, "the list has as many leaves as it may have"), ("SettingsDesk", 93, "there can be no such leaf"), ("SettingsDesk", 304, "there is no such list or leaf"), ("SettingsDesk", 117, "the leaf can have no such standard"), ("SettingsDesk", 128, "there are as many rules as there may be"), ("SettingsDesk", 294, "the power is off, or the schema is not ready"), ("SettingsDesk", 306, "there is no such session"), ("SettingsDesk", 308, "the session has not begun"), ("SettingsDesk", 166, "there can be no such entry"), ("SettingsDesk", 183, "the list has as many entries as it may have"), ("SettingsDesk", 310, "the candidate has no such entry"), ("SettingsDesk", 193, "the leaf takes no such value"), ("SettingsDesk", 208, "there is no such set"), ("SettingsDesk", 219, "there is no such entry, or the leaf is nothing"), ("SettingsDesk", 225, "there can be no such number of ticks"), ("SettingsDesk", 245, "there are not so many older sets"), ("SettingsDesk", 255, "there is no such difference, or nothing such of it"), ("SettingsDesk", 279, "there can be no such number of pages")] : List (String × Nat × String)), ∃ sa, vk_R q.1 q.2.1 q.2.2 sa s
  exact List.forall_mem_cons.mpr ⟨st_str (hts _ (lt_2 112 rfl)), List.forall_mem_cons.mpr ⟨st_str (hts _ (lt_2 139 rfl)), List.forall_mem_cons.mpr ⟨st_str (hts _ (lt_2 166 rfl)), List.forall_mem_cons.mpr ⟨st_str (hts _ (lt_2 173 rfl)), List.forall_mem_cons.mpr ⟨st_str (hts _ (lt_2 188 rfl)), List.forall_mem_cons.mpr ⟨st_str (hts _ (lt_2 218 rfl)), List.forall_mem_cons.mpr ⟨st_str (hts _ (lt_2 224 rfl)), List.forall_mem_cons.mpr ⟨st_str (hts _ (lt_2 232 rfl)), List.forall_mem_cons.mpr ⟨st_str (hts _ (lt_3 92 rfl)), List.forall_mem_cons.mpr ⟨st_str (hts _ (lt_3 97 rfl)), List.forall_mem_cons.mpr ⟨st_str (hts _ (lt_3 119 rfl)), List.forall_mem_cons.mpr ⟨st_str (hts _ (lt_3 120 rfl)), List.forall_mem_cons.mpr ⟨st_str (hts _ (lt_3 139 rfl)), List.forall_mem_cons.mpr ⟨st_str (hts _ (lt_3 165 rfl)), List.forall_mem_cons.mpr ⟨st_str (hts _ (lt_3 166 rfl)), List.forall_mem_cons.mpr ⟨st_str (hts _ (lt_3 187 rfl)), List.forall_mem_cons.mpr ⟨st_str (hts _ (lt_3 193 rfl)), List.forall_mem_cons.mpr ⟨st_str (hts _ (lt_3 209 rfl)), List.forall_mem_cons.mpr ⟨st_str (hts _ (lt_4 63 rfl)), List.forall_mem_cons.mpr ⟨st_str (hts _ (lt_4 125 rfl)), List.forall_mem_cons.mpr ⟨st_str (hts _ (lt_4 152 rfl)), fun _ h => absurd h List.not_mem_nil⟩⟩⟩⟩⟩⟩⟩⟩⟩⟩⟩⟩⟩⟩⟩⟩⟩⟩⟩⟩⟩
theorem st_st {nm d : String} {args : Array Value} {s : State} (hl : (Cond.laysStatic Bundle.tN nm d).before args s = true) (hr : (Cond.isRef (.static Bundle.tN nm d)).before args s = true) : sd_st s.heap.size nm d s s.heap := by
  obtain ⟨c, k, i, f, a, cell, hc, hi, hst, ha, hcell, hs, hcls, hlt, hty⟩ := Cond.laysStatic_spec hl
  have hv : ∃ v, (Term.static Bundle.tN nm d).eval args s none [] s = some v ∧ v.isRef = true := by
    cases hv : (Term.static Bundle.tN nm d).eval args s none [] s with
    | none => simp [Cond.before, Cond.holds, Cond.value, hv] at hr
    | some w =>
      refine ⟨w, rfl, ?_⟩
      simp only [Cond.before, Cond.holds, Cond.value, hv] at hr
      cases w <;> simp_all [Value.isRef]
  obtain ⟨v, hv, hvr⟩ := hv
  obtain ⟨hst', a', cell', ha', hcell', -, hslot⟩ := Term.static_spec hi hv
  cases ha.symm.trans ha'
  cases hcell.symm.trans hcell'
  exact ⟨c, k, i, f, a, cell, v, hc, hi, hst, ha, hcell, hs, hcls, hlt, hty, hslot, hvr, (Array.getElem?_eq_some_iff.mp hcell).1⟩
theorem st_na {args : Array Value} {s : State} (hg : (Jvm.Cond.and given_1 narrow_1).before args s = true) : sd_na s := by
  have hs := flat_of_before _ hg
  intro A hA B hB hne cA cB h1 h2
  have key : va_Nc A B s := by
    simp only [sdEx4, List.mem_cons, List.not_mem_nil, or_false] at hA hB
    rcases hA with rfl | rfl | rfl | rfl <;> rcases hB with rfl | rfl | rfl | rfl <;> first | exact absurd rfl hne | exact va_Nc.of (hs _ (by decide +kernel))
  obtain ⟨c, t, e1, e2, e3⟩ := key
  cases h1.symm.trans e1
  cases h2.symm.trans e2
  exact e3
theorem st_ap {ty : FieldType} {args : Array Value} {s : State} (h : (Cond.arrayClass ty).before args s = true) (hp : ∀ C, ty ≠ .object C) : ∃ cA, ArrOfT s cA ty ∧ va_RA s cA ty := by
  obtain ⟨c, k, comp, h1, h2, h3⟩ := Cond.arrayClass_spec h
  refine ⟨c, fun n z => ⟨fun k h => (by cases h), k, h2, comp, h3⟩, ?_⟩
  cases ty with
  | object C => exact (hp C rfl).elim
  | _ => exact h1
theorem st_ao {C : String} {args : Array Value} {s : State} (h : (Cond.arrayOver (.object C)).before args s = true) : ∃ cA, ArrOfT s cA (.object C) ∧ va_RA s cA (.object C) := by
  obtain ⟨comp, c, k, h1, h2, h3, h4, h5⟩ := Cond.arrayOver_spec h
  exact ⟨c, fun n z => ⟨fun k h => (by cases h), k, h3, comp, h4⟩, k, comp, h3, h4, h1, h5⟩
theorem st_cl {args : Array Value} {s : State} (hts : ∀ w ∈ lw_tbl, w.before args s = true) : ∀ c : Nat, ∃ p : ClassId × (Nat → Nat), ∀ q : vw_C, sdCl[c]? = some q → u_Kn s q.1 q.2.1 q.2.2 p.1 p.2 := by
  have h0 : ∀ w ∈ sdB0, w.before args s = true := fun w h => hts w (List.mem_filter.mp h).1
  intro c
  match c with
  | 0 =>
    obtain ⟨cC, iS, h⟩ := u_known (C := "SettingsDesk") (T := T_D) (N := 12) (ws := (.initialized "SettingsDesk") :: sdB0) (List.forall_mem_cons.mpr ⟨hts _ (lt_1 1 rfl), h0⟩) lay_D (hts _ (lt_1 23 rfl))
    exact ⟨(cC, iS), fun q hq => by cases hq; exact h⟩
  | 1 =>
    obtain ⟨cC, iS, h⟩ := u_known (C := "SettingsDesk$Schema") (T := T_C) (N := 6) (ws := (.initialized "SettingsDesk") :: sdB0) (List.forall_mem_cons.mpr ⟨hts _ (lt_1 1 rfl), h0⟩) lay_C (hts _ (lt_1 31 rfl))
    exact ⟨(cC, iS), fun q hq => by cases hq; exact h⟩
  | 2 =>
    obtain ⟨cC, iS, h⟩ := u_known (C := "SettingsDesk$Settings") (T := T_S) (N := 4) (ws := (.initialized "SettingsDesk") :: sdB0) (List.forall_mem_cons.mpr ⟨hts _ (lt_1 1 rfl), h0⟩) lay_S (hts _ (lt_1 132 rfl))
    exact ⟨(cC, iS), fun q hq => by cases hq; exact h⟩
  | 3 =>
    obtain ⟨cC, iS, h⟩ := u_known (C := "SettingsDesk$Session") (T := T_N) (N := 3) (ws := (.initialized "SettingsDesk") :: sdB0) (List.forall_mem_cons.mpr ⟨hts _ (lt_1 1 rfl), h0⟩) lay_N (hts _ (lt_1 179 rfl))
    exact ⟨(cC, iS), fun q hq => by cases hq; exact h⟩
  | 4 =>
    obtain ⟨cC, iS, h⟩ := u_known (C := "SettingsDesk$Trouble") (T := T_T) (N := 4) (ws := (.initialized "SettingsDesk") :: sdB0) (List.forall_mem_cons.mpr ⟨hts _ (lt_1 1 rfl), h0⟩) lay_T (hts _ (lt_1 157 rfl))
    exact ⟨(cC, iS), fun q hq => by cases hq; exact h⟩
  | 5 =>
    obtain ⟨cC, iS, h⟩ := u_known (C := "SettingsDesk$Leaf") (T := T_F) (N := 7) (ws := (.initialized "SettingsDesk") :: sdB0) (List.forall_mem_cons.mpr ⟨hts _ (lt_1 1 rfl), h0⟩) lay_F (hts _ (lt_1 40 rfl))
    exact ⟨(cC, iS), fun q hq => by cases hq; exact h⟩
  | 6 =>
    obtain ⟨cC, iS, h⟩ := u_known (C := "SettingsDesk$Rule") (T := T_R) (N := 5) (ws := (.initialized "SettingsDesk") :: sdB0) (List.forall_mem_cons.mpr ⟨hts _ (lt_1 1 rfl), h0⟩) lay_R (hts _ (lt_1 78 rfl))
    exact ⟨(cC, iS), fun q hq => by cases hq; exact h⟩
  | 7 =>
    obtain ⟨cC, iS, h⟩ := u_known (C := "SettingsDesk$Merge") (T := T_G) (N := 5) (ws := (.initialized "SettingsDesk") :: sdB0) (List.forall_mem_cons.mpr ⟨hts _ (lt_1 1 rfl), h0⟩) lay_G (hts _ (lt_3 211 rfl))
    exact ⟨(cC, iS), fun q hq => by cases hq; exact h⟩
  | 8 =>
    obtain ⟨cC, iS, h⟩ := u_known (C := "SettingsDesk$Check") (T := T_K) (N := 3) (ws := (.initialized "SettingsDesk") :: sdB0) (List.forall_mem_cons.mpr ⟨hts _ (lt_1 1 rfl), h0⟩) lay_K (hts _ (lt_3 5 rfl))
    exact ⟨(cC, iS), fun q hq => by cases hq; exact h⟩
  | 9 =>
    obtain ⟨cC, iS, h⟩ := u_known (C := "SettingsDesk$Difference") (T := T_E) (N := 8) (ws := (.initialized "SettingsDesk") :: sdB0) (List.forall_mem_cons.mpr ⟨hts _ (lt_1 1 rfl), h0⟩) lay_E (hts _ (lt_4 72 rfl))
    exact ⟨(cC, iS), fun q hq => by cases hq; exact h⟩
  | 10 =>
    obtain ⟨cC, iS, h⟩ := u_known (C := "SettingsDeskModel") (T := T_O) (N := 35) (ws := (.initialized "SettingsDesk") :: sdB0) (List.forall_mem_cons.mpr ⟨hts _ (lt_1 1 rfl), h0⟩) lay_O (hts _ (lt_4 154 rfl))
    exact ⟨(cC, iS), fun q hq => by cases hq; exact h⟩
  | n + 11 => exact ⟨(0, fun _ => 0), fun q hq => by simp [sdCl] at hq⟩
theorem st_ty {args : Array Value} {s : State} (hts : ∀ w ∈ lw_tbl, w.before args s = true) : ∃ dA : Nat → ClassId, ∀ (k : Nat) (q : ClassId × FieldType), (sd_tys dA)[k]? = some q → ArrOfT s q.1 q.2 ∧ va_RA s q.1 q.2 := by
  obtain ⟨a0, b0⟩ := st_ap (ty := .int) (hts _ (lt_1 77 rfl)) (fun C h => by cases h)
  obtain ⟨a1, b1⟩ := st_ap (ty := .boolean) (hts _ (lt_5 25 rfl)) (fun C h => by cases h)
  obtain ⟨a2, b2⟩ := st_ap (ty := .long) (hts _ (lt_5 225 rfl)) (fun C h => by cases h)
  obtain ⟨a3, b3⟩ := st_ao (C := "SettingsDesk$Leaf") (hts _ (lt_1 37 rfl))
  obtain ⟨a4, b4⟩ := st_ao (C := "SettingsDesk$Rule") (hts _ (lt_1 39 rfl))
  obtain ⟨a5, b5⟩ := st_ao (C := "SettingsDesk$Settings") (hts _ (lt_1 153 rfl))
  obtain ⟨a6, b6⟩ := st_ao (C := "SettingsDesk$Session") (hts _ (lt_1 155 rfl))
  refine ⟨fun k => match k with | 0 => a0 | 1 => a1 | 2 => a2 | 3 => a3 | 4 => a4 | 5 => a5 | _ => a6, fun k q hq => ?_⟩
  match k, hq with
  | 0, hq => cases hq; exact b0
  | 1, hq => cases hq; exact b1
  | 2, hq => cases hq; exact b2
  | 3, hq => cases hq; exact b3
  | 4, hq => cases hq; exact b4
  | 5, hq => cases hq; exact b5
  | 6, hq => cases hq; exact b6
  | n + 7, hq => simp [sd_tys] at hq
theorem st_K {args : Array Value} {s : State} {sa N : Nat} {xs : Nat → Int32} (hts : ∀ w ∈ lw_tbl, w.before args s = true) (hg : (Jvm.Cond.and given_1 narrow_1).before args s = true) (hX : va_X sa N xs s s.heap) (hb : sa < s.heap.size) : ∃ (D : va_G) (dA : Nat → ClassId), sd_K (sdE0 (some (sa, N, xs))) D (sd_tys dA) s.heap.size s := by
  obtain ⟨f, hf⟩ := Classical.axiomOfChoice (st_cl hts)
  obtain ⟨dA, hd⟩ := st_ty hts
  have hs := flat_of_before _ hg
  refine ⟨(fun c => (f c).1, fun c => (f c).2), dA, ⟨fun c q hq => hf c q hq, hd⟩, st_nw hts, st_ss hts, ⟨st_st (hts _ (lt_2 97 rfl)) (hs _ (by decide +kernel)), st_st (hts _ (lt_2 99 rfl)) (hs _ (by decide +kernel))⟩, Nat.le_refl _, fun q hq => ?_, st_na hg⟩
  cases hq
  exact ⟨hX, hb⟩
theorem st_same {s t : State} {L : List Loc} {k n : Nat} (h : s.sameButNew t L k n) (hL : ∀ z ∈ L, s.heap.size ≤ z.base) : s.sameButNew t [] k n := by
  obtain ⟨h1, h2, h3, h4, h5, h6⟩ := h
  refine ⟨h1, h2, h3, h4, h5, fun a c hc => ?_⟩
  obtain ⟨c', g1, g2, g3, g4⟩ := h6 a c hc
  refine ⟨c', g1, g2, g3, fun i _ => g4 i (fun hm => ?_)⟩
  have := hL _ hm
  have hlt := (Array.getElem?_eq_some_iff.mp hc).1
  exact absurd hlt (Nat.not_lt.mpr this)
def R_law : String := "SettingsDeskLaw"
def lw_P (b : Addr) (xs : List Int32) (args : Array Value) (s : State) : Prop := args = #[.ref b] ∧ s.IntsAt b xs ∧ xs.length ≤ 3072 ∧ (Jvm.Cond.and given_1 narrow_1).before args s = true
def lw_Q (_ : Array Value) (s : State) (o : Outcome) (t : State) : Prop := o = .returned (some (.int 1)) ∧ Framed s o t [] 601024 7293034
theorem lw_start {p : Program} {l : Launch} {e : Env} {s s₁ : State} {m : MethodId} {below : List Frame} {meth : Method} {c : Code} {sa N : Nat} {xs : Nat → Int32} (hT : l.stackTraces = false) (hN : N ≤ 3072) (X₀ : Stand p l e room_1 s m #[Value.ref sa] below meth c s₁ [] 0 0) (hh0 : s₁.heap = s.heap) (hC : sd_C Y_law p s m #[Value.ref sa] meth c) (hts : ∀ w ∈ lw_tbl, w.before #[Value.ref sa] s = true) (hg : (Jvm.Cond.and given_1 narrow_1).before #[Value.ref sa] s = true) (hX : va_X sa N xs s s.heap) (hb : sa < s.heap.size) : ∃ t o, Steps p.tables e below (s₁.setTop (entryFrame m ([Value.ref sa] : List Value).toArray 7)) t ∧ t.status = .running ∧ Ended t below o ∧ lw_Q #[Value.ref sa] s o t := by
  obtain ⟨D, dA, hK⟩ := st_K hts hg hX hb
  have hl := lv_entry [Value.ref sa] (n := 7) (Nat.le_of_ble_eq_true rfl)
  have hw : sdW l (sdE0 (some (sa, N, xs))) Y_law D (sd_tys dA) s.heap.size 0 (fun _ => 0) (fun _ => sd_I 0 0) (fun _ => 0) (fun _ _ => True) (fun v _ => v = some (.int 1)) sd_xf 0 [(0, .retAddr sa)] [] (fun _ _ => 0) 601024 7293034 := lw_body hT hN
  have key : W p l e room_1 s m #[Value.ref sa] below meth c s₁.heap [] 0 0 (sd_Z s.heap.size (fun _ => 0) (fun _ _ => True) (fun v _ => v = some (.int 1)) sd_xf 601024 7293034 below #[Value.ref sa] s) (entryFrame m ([Value.ref sa] : List Value).toArray 7) := by
    rw [lg_entry_eq, hh0]
    generalize (lg_sl [Value.ref sa] ++ List.replicate (7 - (lg_sl [Value.ref sa]).length) Slot.unset).toArray = ls at hl ⊢
    exact hw p e s m _ below meth c s.heap [] ls 0 0 hC hK (fun k hk => absurd hk (Nat.not_lt_zero k)) va_S.rf hl (show 0 + 601024 ≤ 601024 from Nat.le_refl _) (show 0 + 7293034 ≤ 7293034 from Nat.le_refl _)
  obtain ⟨t, a1, o, b1, b2, b3⟩ := key s₁ rfl X₀
  refine ⟨t, o, a1, b1, b2, ?_⟩
  rcases b3 with ⟨⟨v, M, rfl, hv, -, -⟩, Ls, ⟨h1, h2, h3⟩, hL⟩ | ⟨q, -, E, M, ce, Ls, hx, -⟩
  · subst hv
    exact ⟨rfl, ⟨_, rfl⟩, h2, st_same h3 hL⟩
  · exact hx.elim
set_option maxHeartbeats 4000000 in
theorem lw_walk (l : Launch) (hT : l.stackTraces = false) (b : Addr) (xs : List Int32) : MetFree l x (headSpec (Jvm.Cond.code x code maxLocals ret :: tables_1) room_1) (lw_P b xs) (fun _ _ _ _ _ => True) lw_Q := by
  refine MetFree.of_bodyS (code := code) (maxLocals := maxLocals) (ret := ret) (by decide) ?_ ?_
  · intro args s m h hn
    obtain ⟨meth, c, h1, h2, h3, h4, h5, h6, -, -⟩ := Cond.code_spec hn (atoms_spec (ws := Jvm.Cond.code x code maxLocals ret :: tables_1) h _ List.mem_cons_self)
    exact ⟨meth, c, h1, h2, h3, h4, h5, h6⟩
  · intro p e s m args below meth c s₁ B hml0 hP _
    obtain ⟨rfl, hx, hbd, hgv⟩ := hP
    obtain ⟨scr, harrAt, hlist, hof, hsmall⟩ := hx
    obtain ⟨hcb, hkn, -, -⟩ := State.arrayAt?_spec harrAt
    have hown : s.vm.findClass R_law = some m.cls := findClass_of_methodNamed B.named
    have hts0 : ∀ c ∈ (Jvm.Cond.code x code maxLocals ret :: tables_1), c.before #[Value.ref b] s = true := atoms_spec (ws := Jvm.Cond.code x code maxLocals ret :: tables_1) B.pre
    have hts : ∀ w ∈ lw_tbl, w.before #[Value.ref b] s = true := k2_hts_sels lw_privs (fun w hw => hts0 w (List.mem_cons_of_mem _ hw)) lw_privs_ok
    have hml : c.maxLocals = 7 := B.maxLocals_eq (hts0 _ List.mem_cons_self)
    have X₀ : Stand p l e room_1 s m #[Value.ref b] below meth c s₁ [] 0 0 := Stand.of_body B
    have hh0 : s₁.heap = s.heap := by rw [B.state]; rfl
    have hsz : scr.slots.size = xs.length := by rw [← Array.length_toList, hlist, List.length_map]
    have hval : ∀ j : Nat, j < xs.length → scr.slots[j]? = some (.int (xs.getD j 0)) := fun j hj => by
      rw [← Array.getElem?_toList, hlist]
      simp [hj]
    have hbl : b < s.heap.size := (Array.getElem?_eq_some_iff.mp hcb).1
    have hX : va_X b xs.length (fun j => xs.getD j 0) s s.heap := ⟨scr, hcb, hof, hkn, hsz, hval⟩
    have htb : c.exceptionTable.toList = tableOf Y_law.2.2.2.2.2.2.2.2 := by
      obtain ⟨meth9, c9, h1, h2, -, -, -, -, h7, -⟩ := Cond.code_spec B.named (hts0 _ List.mem_cons_self)
      cases Option.some.inj (h1.symm.trans B.method)
      cases Option.some.inj (h2.symm.trans X₀.code)
      rw [Array.isEmpty_iff.mp h7]
      rfl
    have hC : sd_C Y_law p s m #[Value.ref b] meth c := by
      refine ⟨⟨B.exec, B.bytes, hml, hown, ?_⟩, B.notSynchronized, B.returns, htb, fun y9 b9 n9 r9 w9 h9 => ?_⟩
      · intro w hw
        rcases List.mem_cons.mp (show w ∈ Jvm.Cond.code x code maxLocals ret :: sdB0 from hw) with rfl | h
        · exact hts0 _ List.mem_cons_self
        · exact hts w (List.mem_filter.mp h).1
      · have h9 : Jvm.Cond.code x code maxLocals ret :: sdB0 = Jvm.Cond.code y9 b9 n9 r9 :: w9 := h9
        cases h9
        exact (name_of_methodNamed B.named B.method).1
    obtain ⟨t, o, a1, b1, b2, b3⟩ := lw_start hT hbd X₀ hh0 hC hts hgv hX hbl
    exact ⟨t, o, a1, b1, b2, b3⟩
theorem lw_pre_spec {args : Array Value} {s : State} (h : (Jvm.Cond.and given_1 narrow_1).before args s = true) (hr : rest_1_c.before args s = true) : ∃ (b : Addr) (xs : List Int32), lw_P b xs args s := by
  have hs := flat_of_before _ h
  have hq := flat_of_before _ hr
  have hc : (Cond.count 1).before args s = true := hs _ (by decide +kernel)
  have harr : (Cond.arrayOf (.arg 0) .int).before args s = true := hs _ (by decide +kernel)
  have hle : (Cond.le (.length (.arg 0)) (.int 3072)).before args s = true := hs _ (by decide +kernel)
  have hlen : (Cond.isInt (.length (.arg 0))).before args s = true := hq _ (by decide +kernel)
  have hall : (Cond.all (.arg 0) (.isInt (.elem (.arg 0) (.index 0)))).before args s = true := hq _ (by decide +kernel)
  obtain ⟨b, xs, hb, hx⟩ := State.ints_of_pre rfl harr hlen hall
  have hsm : xs.length < 2 ^ 31 := hx.choose_spec.2.2.2
  have hev : (Term.length (.arg 0)).eval args s none [] s = some (.int xs.length.toInt32) := hx.length_eval hb
  have hv := Cond.le_ints hev (show (Term.int 3072).eval args s none [] s = some (.int 3072) from rfl)
  have hd : xs.length.toInt32 ≤ 3072 := by
    simpa [Cond.before, Cond.holds, hv] using hle
  have hN : xs.length ≤ 3072 := (Int32.ofNat_le_ofNat hsm (by decide)).mp (show Int32.ofNat xs.length ≤ Int32.ofNat 3072 from hd)
  exact ⟨b, xs, Cond.one_arg hc (show args[0]? = some (.ref b) from hb), hx, hN, h⟩
theorem lw_comes (l : Launch) (hT : l.stackTraces = false) : Comes l x (Jvm.Cond.code x code maxLocals ret :: tables_1) room_1 (fun tb e args s => Calls_1 tb e args s ∧ rest_1 tb e args s ∧ Pre_1 tb e args s)
    (fun _ _ args s o t => lw_Q args s o t) := by
  intro p e ha hc hk s m args below hf hfit hheap happ hpre
  obtain ⟨b, xs, hP⟩ := lw_pre_spec hpre.2.2 hpre.2.1
  obtain ⟨k, o, h1, h2, h3, hQ⟩ := lw_walk l hT b xs p e ha hc hk s m args below hf ((Spec.applies_iff_loose hf).mp happ).1 hP trivial
  exact ⟨k, o, h1, h2, h3, hQ⟩
theorem lw_frame {s t : State} {o : Outcome} {args : Array Value} (h : Framed s o t [] 601024 7293034) :
    Framed s o t (fieldLocs frame_1_writes args s ++ arrayLocs frame_1_arrays args s ++ staticLocs frame_1_statics s) 601024 7293034 := h
theorem lw_limb (L : Cond) (hL : ∀ (args : Array Value) (s t : State), L.after args s (.returned (some (.int 1))) t = true) :
    ArmFor flags0 classFile x code maxLocals ret World_1 tables_1 room_1 Calls_1 rest_1 Pre_1
      (fun tb e a s o t => postC L tb e a s o t ∧ Framed s o t (fieldLocs frame_1_writes a s ++ arrayLocs frame_1_arrays a s ++ staticLocs frame_1_statics s) 601024 7293034) := by
  intro l hfl _ _ p e ha hc hk s m args below hf hfit hheap happ hpre
  have hT : l.stackTraces = false := by
    show (!l.flags.contains Jvm.noTraceFlag) = false
    rw [hfl]
    decide +kernel
  obtain ⟨k, o, h1, h2, h3, rfl, hF⟩ := lw_comes l hT p e ha hc hk s m args below hf hfit hheap happ hpre
  exact ⟨k, _, h1, h2, h3, hL args s _, lw_frame hF⟩
theorem i_vc : Claimed_1_1 ∧ Claimed_1_2 := ⟨lw_limb limb_1_1 (fun args s t => by simp [limb_1_1, Cond.after, Cond.holds, Cond.value]), lw_limb limb_1_2 (fun args s t => Cond.after_iff.mpr (by
  first | (rw [show limb_1_2 = Cond.eq .result (.int 1) from rfl, Cond.eq_ints (x := 1) (y := 1) rfl rfl]; simp; done) | (simp [limb_1_2, Cond.value, Term.eval]; done)))⟩
