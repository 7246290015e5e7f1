/-! what is thrown and caught in a method's own table -/
theorem sd_go {e : Env} {s : State} {args : Array Value} {own A : String} {g : JFrame} {a : Addr} {ce : Cell} {hpc : Nat} (hpl : e.platform.magicAccessors = ({} : Platform).magicAccessors) (hown : s.vm.findClass own = some g.method.cls) (hcv : ce.vm = .none) (hA : s.vm.findClass A = some ce.cls) :
    ∀ (hs : List ((Nat × Nat × Nat × Nat) × String)) (u : State), s.WarmedH u.vm → u.heap[a]? = some ce →
      (∀ q ∈ hs, covers ⟨q.1.1, q.1.2.1, q.1.2.2.1, q.1.2.2.2⟩ g.pc = true ∧ q.1.2.2.2 ≠ 0 ∧ (Cond.classLink own q.1.2.2.2 q.2).before args s = true ∧ (q.2 ≠ A → ∀ cB, s.vm.findClass q.2 = some cB → s.vm.assignable ce.cls cB = false)) →
      (hs.find? (fun q => q.2 == A)).map (fun q => q.1.2.2.1) = some hpc →
      ∃ vm', s.WarmedH vm' ∧ ∀ (Q : Handler → Pre) (E : CtlPost) (d : Bool) (acts : List Action), wp (findHandler.go g a (tableOf (hs.map (·.1)))) Q E e d acts u ↔ Q (.found hpc) d acts (u.setVm vm')
  | [], u, hW, ha, hq, hf => by simp at hf
  | (⟨x1, x2, x3, x4⟩, nm) :: t, u, hW, ha, hq, hf => by
    obtain ⟨h1, h2, h3, h4⟩ := hq _ List.mem_cons_self
    obtain ⟨cB, hcB, hcl⟩ := Cond.classLink_spec hown h3 e.platform hpl
    obtain ⟨dk, _, _, kt, hd, _, _, _, _, hkt, _, hopen⟩ := hcl.here
    have hcl₀ := hW.classLinks hcl
    have hW' : s.WarmedH (u.vm.noted g.method.cls x4 (.cls cB)) := hW.noted hd hopen (State.rightAt_cls hcl)
    obtain ⟨o1, o2⟩ := (resolveClass_links e.toSetting hcl₀).op (op := VmOp.resolveClass g.method.cls x4) rfl
    obtain ⟨k1, hk1⟩ := Vm.classAt_of_findClass hA
    obtain ⟨k1', hk1', -⟩ := hW'.alike.2.2 _ _ hk1
    obtain ⟨k2', hk2', -⟩ := hW'.alike.2.2 _ _ hkt
    have hobj : ∀ k, ce.vm ≠ .statics k := fun k hk => by rw [hcv] at hk; cases hk
    simp only [covers] at h1
    have h2' : ¬ x4 = 0 := h2
    by_cases he : nm = A
    · subst he
      cases hA.symm.trans hcB
      have hfit : (u.vm.noted g.method.cls x4 (.cls ce.cls)).assignable ce.cls ce.cls = true := by
        show Vm.assignableAux _ (255 + 1) ce.cls ce.cls = true
        rw [Vm.assignableAux, Bool.or_eq_true]
        exact Or.inl (beq_self_eq_true _)
      have hh : x3 = hpc := by simpa [List.find?] using hf
      refine ⟨_, hW', fun Q E d acts => ?_⟩
      simp [tableOf, findHandler.go, h1, h2', o1, o2, ha, hobj, hk1', hk2', hfit, VmOp.dirties, VmOp.acts, hh]
    · have hfit : (u.vm.noted g.method.cls x4 (.cls cB)).assignable ce.cls cB = false := by rw [hW'.alike.assignable]; exact h4 he cB hcB
      have hb : (nm == A) = false := by simpa using he
      rw [List.find?_cons, hb] at hf
      obtain ⟨vm', w1, w2⟩ := sd_go hpl hown hcv hA t (u.setVm (u.vm.noted g.method.cls x4 (.cls cB))) hW' ha (fun q h => hq q (List.mem_cons_of_mem _ h)) hf
      refine ⟨vm', w1, fun Q E d acts => ?_⟩
      have w3 := w2 Q E d acts
      refine Iff.trans ?_ w3
      simp [tableOf, findHandler.go, h1, h2', o1, o2, ha, hobj, hk1', hk2', hfit, VmOp.dirties, VmOp.acts]
theorem sd_caught {p : Program} {l : Launch} {e : Env} {R : Room} {s : State} {m : MethodId} {args : Array Value} {below : List Frame} {meth : Method} {c : Code} {T : State} {locs : List Loc} {cells slots : Nat} {g : JFrame} {a : Addr} {pc : Nat} {vm' : Vm} {target : State} (X : Stand p l e R s m args below meth c T locs cells slots) (hg : g.method = m)
    (hfind : ∀ (Q : Handler → Pre) (E : CtlPost) (d : Bool) (acts : List Action), wp (findHandler g a) Q E e d acts ((T.setTop g).pushFrame (.throwing a)) ↔ Q (.found pc) d acts (((T.setTop g).pushFrame (.throwing a)).setVm vm'))
    (hrest : Steps p.tables e below ((T.setVm vm').setTop { g with pc := pc, stack := [.ref a] }) target) : Steps p.tables e below ((T.setTop g).pushFrame (.throwing a)) target := by
  have h : At T g.method c below := by rw [hg]; exact X.here
  obtain ⟨hgo, hw⟩ := h.throwing a
  refine Steps.head hgo hw ?_
  have hst : ∀ r, (stepThrowing e ((T.setTop g).pushFrame (.throwing a)) a (.java g :: r)).1 = (((T.setTop g).pushFrame (.throwing a)).setVm vm').setFrames (.java { g with pc := pc, stack := [.ref a] } :: r) := by
    intro r
    simp only [stepThrowing, searchFrame, vmDo]
    generalize hr : Sem.go _ e false [] _ = res
    obtain ⟨as, rfl, ha⟩ := Sem.eq_ok_of hr (a := Handler.found pc) (s' := ((T.setTop g).pushFrame (.throwing a)).setVm vm') (acts' := []) (by simp [hfind _ _ _ _])
    rfl
  rw [stepThread_throwing (frames_entered h.top _), hst]
  obtain ⟨g₀, hg0⟩ := Option.isSome_iff_exists.mp h.top
  obtain ⟨r, hr⟩ := State.topJava?_eq_some.mp hg0
  have hr' : (T.setVm vm').frames = .java g₀ :: r := hr
  rw [State.setTop_of_frames _ hr'] at hrest
  have sw : ∀ (u : State) (F G : List Frame), ((u.setFrames F).setVm vm').setFrames G = (u.setVm vm').setFrames G := fun u F G => by
    rw [show (u.setFrames F).setVm vm' = (u.setVm vm').setFrames F from rfl, State.setFrames_setFrames]
  rw [hr, List.tail_cons, State.pushFrame, sw, State.setTop_of_frames _ hr, sw]
  exact hrest
theorem lv_tl {ls : Array Slot} {nL : Nat} {q : Nat × Value} {r : List (Nat × Value)} (h : lv_has ls nL (q :: r)) : lv_has ls nL r := ⟨h.1, h.2.1, fun x hx => h.2.2 x (List.mem_cons_of_mem _ hx)⟩
section
variable {l : Launch} {E : sdE} {Y : sdY} {D : va_G} {tys : List (ClassId × FieldType)} {b n : Nat} {ad : Nat → Nat} {L : Nat → sdL} {aF : Nat → Nat} {F : sdM → Heap → Prop} {Q : Option Value → sdM → Prop} {X : String → sdM → Prop}
variable {pc : Nat} {loc : List (Nat × Value)} {st : List Value} {M : sdM} {rc rs : Nat}
/-- the handler's first instruction lays what was caught away -/
def sd_as (cc : ByteArray) (hpc i nx : Nat) : Prop := (∃ f : Fin 4, decode cc hpc = .ok (.astore_n f, 1) ∧ (f : Nat) = i ∧ nx = hpc + 1) ∨ (decode cc hpc = .ok (.astore i, 2) ∧ nx = hpc + 2)
/-- a call of a virtual method under a table of handlers that cover it -/
theorem x_callVc {Y' : sdY} {y : MethodName} {idx na : Nat} {As rest st0 : List Value} {Q' : Option Value → sdM → Prop} {X' : String → sdM → Prop} {t ci N : Nat} {fs : List (Option (Option Nat))} {C : String} {T : u_T} (hs : List ((Nat × Nat × Nat × Nat) × String)) (htb : Y.2.2.2.2.2.2.2.2 = hs.map (·.1)) (hhs : ∀ q ∈ hs, covers ⟨q.1.1, q.1.2.1, q.1.2.2.1, q.1.2.2.2⟩ pc = true ∧ q.1.2.2.2 ≠ 0 ∧ Cond.classLink Y.1 q.1.2.2.2 q.2 ∈ Y.2.2.2.2.1 ∧ q.2 ∈ sdEx4)
    (hCn : sd_Cn l E y Y'.2.2.2.2.1 Y'.2.2.2.2.2.1 Y'.2.2.2.2.2.2.1 Y'.2.2.2.2.2.2.2.1 D tys b n ad L M (.ref t :: As) Q' X') (hcw : sd_cwV Y Y' y idx na C) (hn : t < n) (hL : L t = sd_O ci fs) (hc9 : E.1[ci]? = some (C, T, N)) (d : decode Y.2.1 pc = .ok (.invokevirtual idx, 3)) (hna : As.length = na) (hst : st0 = As.reverse ++ .ref t :: rest) (hcat : (rest.map fun v => v.category).sum ≤ 8)
    (kc : ∀ E' M', X' E' M' → E' ∈ sdEx4 ∧ ∃ hpc i nx, (hs.find? (fun q => q.2 == E')).map (fun q => q.1.2.2.1) = some hpc ∧ sd_as Y.2.1 hpc i nx ∧ i < Y.2.2.1 ∧ sdW l E Y D tys b n ad L aF F Q X nx (loc.filter (fun q => !(q.1 == i) && !(q.1 + 1 == i && q.2.category == 2))) [] M' rc rs)
    (k : ∀ (v : Option Value) (M' : sdM), Q' v M' → sdW l E Y D tys b n ad L aF F Q X (pc + 3) loc (v.toList ++ rest) M' rc rs) : sdW l E Y D tys b n ad L aF F Q X pc loc st0 M (rc + Y'.2.2.2.2.2.2.1) (rs + Y'.2.2.2.2.2.2.2.1) := by
  intro p e s m args below meth c H locs ls cells slots hC hK hH hS hl hc hs9
  subst hst
  obtain ⟨g1, ⟨ws', g2⟩, ⟨g3, g4, g5, g6⟩, g7, g8⟩ := hcw
  intro T hT X0
  subst hT
  have hat := hH t hn
  rw [hL] at hat
  have gws : GoodIn Y.2.2.2.2.1 Y'.2.2.2.2.1 := fun w h => g1 w (by unfold wsV; exact List.mem_append_right _ h)
  have ok : ∀ w ∈ wsV Y.1 idx C y Y'.2.2.2.2.1, w.before args s = true := fun w h => hC.1.2.2.2.2 w (g1 w h).1
  obtain ⟨rfl, hy1, hy2, hy3⟩ := g7
  have hini : (Cond.initialized y.cls).before args s = true := ok _ (by simp [wsV])
  have hinst : (Cond.instanceMethod y).before args s = true := ok _ (by simp [wsV])
  have hsel : (Cond.selects y.cls y y).before args s = true := ok _ (by simp [wsV])
  have hcode : (Cond.code y Y'.2.1 Y'.2.2.1 Y'.2.2.2.1).before args s = true := hC.1.2.2.2.2 _ (gws _ (by rw [g2]; exact List.mem_cons_self)).1
  obtain ⟨cellB, hcB, hoB, hclB⟩ := va_recv (q0 := 0) (a := ad t) (fs := sd_fv ad (M t) 0 fs) hK.1 (sd_one hat) hc9 rfl
  obtain ⟨mk, methM, hnamed, hmethM, hstM, habM⟩ := Cond.instanceMethod_spec hinst
  obtain ⟨methM', cM, hmethM', -, -, -, -, -, -, hsigM⟩ := Cond.code_spec hnamed hcode
  cases hmethM.symm.trans hmethM'
  obtain ⟨c2, r2, m2, q1, q2, q3, q4, kP, hkP, hkPi⟩ := Cond.selects_spec hsel
  cases hclB.symm.trans q1
  cases (State.methodFound?_of_named hnamed ⟨hy1, hy2⟩).symm.trans q2
  cases hnamed.symm.trans q3
  have hlen : (As.map (sd_v ad)).length = methM.sig.parameters.length := by
    rw [hsigM] at hy3
    rw [List.length_map, hna]
    exact (Option.some.inj hy3).symm
  obtain ⟨vm₁, X₁, st1⟩ := X0.invokevirtual hC.1.1 hC.1.2.2.2.1 (ok (.methodLink Y.1 idx y) (by simp [wsV])) hnamed hmethM hstM hkP hkPi ⟨hy1, hy2⟩ (a := ad t) (cell := cellB) hcB
    (fun z h => by rw [h] at hoB; cases hoB) (by rw [Launch.admits_selectMethod X0.admits]; exact q4) hmethM habM hkP hkPi (g := F0 m pc ls ((As.reverse ++ .ref t :: rest).map (sd_v ad))) rfl (argsL := As.map (sd_v ad)) (rest := rest.map (sd_v ad)) hlen (by show List.map (sd_v ad) (As.reverse ++ .ref t :: rest) = _; simp [List.map_append, List.map_reverse, sd_v]) (by rw [hC.1.2.1]; exact d)
  rcases sd_pay hCn X₁ rfl (hl.1.trans hC.1.2.2.1.symm) (by rw [hC.1.2.1]; exact d) (X₁.named hnamed) (fun w hw => pay_in hC.1.2.2.2.2 gws w hw _ _ X₁.warmed) (pay_in hC.1.2.2.2.2 gws _ (by rw [g2]; exact List.mem_cons_self) _ _ X₁.warmed) (word_at X₁.warmed (Or.inl rfl) hini) g3 g4 g8.1 g8.2 (lv_room (rest := rest.map (sd_v ad)) (by rw [sd_cats]; exact hcat)) (by rw [g5]; omega) (by rw [g6]; omega) ⟨rfl, (hK.move X₁.warmed rfl hS).call, hH⟩ with ⟨v, M', T', L', St', hq, hF', hfr, hL', hst'⟩ | ⟨q, E', M', ce, T', L', St', hx, hF', hce, hcv, hcl, hfr, hL', hst'⟩
  · obtain ⟨t2, a1, b1⟩ := k v M' hq p e s m args below meth c T'.heap (locs ++ L') ls (cells + Y'.2.2.2.2.2.2.1) (slots + Y'.2.2.2.2.2.2.2.1) hC hK hF' (sd_S_next hS hfr hL') hl (by omega) (by omega) T' rfl St'
    refine ⟨t2, st1 _ (fun acts => ?_), b1⟩
    rw [doInvoke_state]
    refine hst'.trans ?_
    cases v <;> exact a1
  · obtain ⟨hE4, hpc, i, nx, hfd, hAs, hi, kk⟩ := kc E' M' hx
    have hcl' : s.vm.findClass E' = some ce.cls := by rw [← X₁.warmed.alike.findClass]; exact hcl
    have hpl : e.platform.magicAccessors = ({} : Platform).magicAccessors := by rw [St'.admits.platform]
    obtain ⟨vm', w1, w2⟩ := sd_go (g := { F0 m pc ls (rest.map (sd_v ad)) with pc := pc }) (a := q) (args := args) hpl hC.1.2.2.2.1 hcv hcl' hs (((T'.setTop (F0 m pc ls (rest.map (sd_v ad)))).pushFrame (.throwing q))) (by rw [Stand.throwing_vm]; exact St'.warmed) (by rw [Stand.throwing_heap]; exact hce)
      (fun q9 h9 => ⟨(hhs q9 h9).1, (hhs q9 h9).2.1, hC.1.2.2.2.2 _ (hhs q9 h9).2.2.1, fun hne cB hcB => hK.2.2.2.2.2.2 _ hE4 _ (hhs q9 h9).2.2.2 (Ne.symm hne) _ _ hcl' hcB⟩) hfd
    have St2 := St'.noted w1
    have hfin : W p l e Y.2.2.2.2.2.1 s m args below meth c T'.heap (locs ++ L') (cells + Y'.2.2.2.2.2.2.1) (slots + Y'.2.2.2.2.2.2.2.1) (sd_Z b aF F Q X Y.2.2.2.2.2.2.1 Y.2.2.2.2.2.2.2.1 below args s) (F0 m hpc ls [.ref q]) := by
      rcases hAs with ⟨f, d9, hf9, rfl⟩ | ⟨d9, rfl⟩
      · refine lv_astore_n hC.1.1 hC.1.2.1 d9 hf9 hl hi rfl (fun ls' hl' => ?_)
        rw [sd_l_flt] at hl'
        exact kk p e s m args below meth c T'.heap (locs ++ L') ls' (cells + Y'.2.2.2.2.2.2.1) (slots + Y'.2.2.2.2.2.2.2.1) hC hK hF' (sd_S_next hS hfr hL') (lv_tl hl') (by omega) (by omega)
      · refine lv_astore hC.1.1 hC.1.2.1 d9 hl hi rfl (fun ls' hl' => ?_)
        rw [sd_l_flt] at hl'
        exact kk p e s m args below meth c T'.heap (locs ++ L') ls' (cells + Y'.2.2.2.2.2.2.1) (slots + Y'.2.2.2.2.2.2.2.1) hC hK hF' (sd_S_next hS hfr hL') (lv_tl hl') (by omega) (by omega)
    obtain ⟨t2, a1, b1⟩ := hfin (T'.setVm vm') rfl St2
    refine ⟨t2, st1 _ (fun acts => ?_), b1⟩
    rw [doInvoke_state]
    refine hst'.trans (sd_caught (g := F0 m pc ls (rest.map (sd_v ad))) St' rfl (fun Q9 E9 d9 acts9 => ?_) a1)
    rw [W.findHandler_eq (meth := meth) (code := c) (by rw [Stand.throwing_vm]; exact St'.method') St'.code, hC.2.2.2.1, htb]
    exact w2 Q9 E9 d9 acts9
theorem x_callVci {Y' : sdY} {y : MethodName} {idx na : Nat} {As rest st0 : List Value} {Q0 : Int32 → sdM → Prop} {X' : String → sdM → Prop} {t ci N : Nat} {fs : List (Option (Option Nat))} {C : String} {T : u_T} (hs : List ((Nat × Nat × Nat × Nat) × String)) (htb : Y.2.2.2.2.2.2.2.2 = hs.map (·.1)) (hhs : ∀ q ∈ hs, covers ⟨q.1.1, q.1.2.1, q.1.2.2.1, q.1.2.2.2⟩ pc = true ∧ q.1.2.2.2 ≠ 0 ∧ Cond.classLink Y.1 q.1.2.2.2 q.2 ∈ Y.2.2.2.2.1 ∧ q.2 ∈ sdEx4) (hCn : sd_Cn l E y Y'.2.2.2.2.1 Y'.2.2.2.2.2.1 Y'.2.2.2.2.2.2.1 Y'.2.2.2.2.2.2.2.1 D tys b n ad L M (.ref t :: As) (sd_qi Q0) X') (hcw : sd_cwV Y Y' y idx na C) (hn : t < n) (hL : L t = sd_O ci fs) (hc9 : E.1[ci]? = some (C, T, N)) (d : decode Y.2.1 pc = .ok (.invokevirtual idx, 3)) (hna : As.length = na) (hst : st0 = As.reverse ++ .ref t :: rest) (hcat : (rest.map fun v => v.category).sum ≤ 8) (kc : ∀ E' M', X' E' M' → E' ∈ sdEx4 ∧ ∃ hpc i nx, (hs.find? (fun q => q.2 == E')).map (fun q => q.1.2.2.1) = some hpc ∧ sd_as Y.2.1 hpc i nx ∧ i < Y.2.2.1 ∧ sdW l E Y D tys b n ad L aF F Q X nx (loc.filter (fun q => !(q.1 == i) && !(q.1 + 1 == i && q.2.category == 2))) [] M' rc rs) (k : ∀ (r : Int32) (M' : sdM), Q0 r M' → sdW l E Y D tys b n ad L aF F Q X (pc + 3) loc (.int r :: rest) M' rc rs) : sdW l E Y D tys b n ad L aF F Q X pc loc st0 M (rc + Y'.2.2.2.2.2.2.1) (rs + Y'.2.2.2.2.2.2.2.1) :=
  x_callVc hs htb hhs hCn hcw hn hL hc9 d hna hst hcat kc (fun v M' hq => by obtain ⟨r, rfl, h⟩ := hq; exact k r M' h)
theorem x_callVcv {Y' : sdY} {y : MethodName} {idx na : Nat} {As rest st0 : List Value} {Q0 : sdM → Prop} {X' : String → sdM → Prop} {t ci N : Nat} {fs : List (Option (Option Nat))} {C : String} {T : u_T} (hs : List ((Nat × Nat × Nat × Nat) × String)) (htb : Y.2.2.2.2.2.2.2.2 = hs.map (·.1)) (hhs : ∀ q ∈ hs, covers ⟨q.1.1, q.1.2.1, q.1.2.2.1, q.1.2.2.2⟩ pc = true ∧ q.1.2.2.2 ≠ 0 ∧ Cond.classLink Y.1 q.1.2.2.2 q.2 ∈ Y.2.2.2.2.1 ∧ q.2 ∈ sdEx4) (hCn : sd_Cn l E y Y'.2.2.2.2.1 Y'.2.2.2.2.2.1 Y'.2.2.2.2.2.2.1 Y'.2.2.2.2.2.2.2.1 D tys b n ad L M (.ref t :: As) (sd_qv Q0) X') (hcw : sd_cwV Y Y' y idx na C) (hn : t < n) (hL : L t = sd_O ci fs) (hc9 : E.1[ci]? = some (C, T, N)) (d : decode Y.2.1 pc = .ok (.invokevirtual idx, 3)) (hna : As.length = na) (hst : st0 = As.reverse ++ .ref t :: rest) (hcat : (rest.map fun v => v.category).sum ≤ 8) (kc : ∀ E' M', X' E' M' → E' ∈ sdEx4 ∧ ∃ hpc i nx, (hs.find? (fun q => q.2 == E')).map (fun q => q.1.2.2.1) = some hpc ∧ sd_as Y.2.1 hpc i nx ∧ i < Y.2.2.1 ∧ sdW l E Y D tys b n ad L aF F Q X nx (loc.filter (fun q => !(q.1 == i) && !(q.1 + 1 == i && q.2.category == 2))) [] M' rc rs) (k : ∀ (M' : sdM), Q0 M' → sdW l E Y D tys b n ad L aF F Q X (pc + 3) loc rest M' rc rs) : sdW l E Y D tys b n ad L aF F Q X pc loc st0 M (rc + Y'.2.2.2.2.2.2.1) (rs + Y'.2.2.2.2.2.2.2.1) :=
  x_callVc hs htb hhs hCn hcw hn hL hc9 d hna hst hcat kc (fun v M' hq => by obtain ⟨rfl, h⟩ := hq; exact k M' h)
theorem x_i2l {x : Int32} (d : decode Y.2.1 pc = .ok (.i2l, 1)) (k : sdW l E Y D tys b n ad L aF F Q X (pc + 1) loc (.long x.toInt64 :: st) M rc rs) : sdW l E Y D tys b n ad L aF F Q X pc loc (.int x :: st) M rc rs := by
  intro p e s m args below meth c H locs ls cells slots hC hK hH hS hl hc hs
  exact lv_i2l hC.1.1 hC.1.2.1 d rfl (k p e s m args below meth c H locs ls cells slots hC hK hH hS hl hc hs)
theorem x_lconst {f : Fin 2} {v : Int32} (d : decode Y.2.1 pc = .ok (.lconst f, 1)) (hv : Int64.ofNat (f : Nat) = v.toInt64) (k : sdW l E Y D tys b n ad L aF F Q X (pc + 1) loc (.long v.toInt64 :: st) M rc rs) : sdW l E Y D tys b n ad L aF F Q X pc loc st M rc rs := by
  intro p e s m args below meth c H locs ls cells slots hC hK hH hS hl hc hs
  exact lv_lconst hC.1.1 hC.1.2.1 d hv (k p e s m args below meth c H locs ls cells slots hC hK hH hS hl hc hs)
theorem x_last {t len t0 : Nat} {cA : ClassId} {i x : Int32} (hA : sd_ad b n ad) (d : decode Y.2.1 pc = .ok (.lastore, 1)) (hn : t < n) (hL : L t = sd_J cA len) (h0 : t0 = 2) (ht : tys[t0]? = some (cA, .long)) (hi : vp_in i len) (k : ∀ M1 : sdM, M1 = sd_s M t i.toNatClampNeg x → sdW l E Y D tys b n ad L aF F Q X (pc + 1) loc st M1 rc rs) : sdW l E Y D tys b n ad L aF F Q X pc loc (.long x.toInt64 :: .int i :: .ref t :: st) M rc rs := by
  intro p e s m args below meth c H locs ls cells slots hC hK hH hS hl hc hs
  have hG : (sd_G n ad L M)[t]? = some (ad t, .inl (cA, len, .inr (.inl (fun j => (M t j).toInt64)))) := by rw [sd_G_get hn, hL]; rfl
  refine va_last hC.1.1 hC.1.2.1 hK.1 hH.toP hA.toD hS t t0 hG ht hi d (fun H1 locs1 hP1 _ hS1 => ?_)
  have he : (Sum.inl (cA, len, Sum.inr (Sum.inl (vp_updL (fun j => (M t j).toInt64) i.toNatClampNeg x.toInt64))) : va_E) = L t ad (upd (M t) i.toNatClampNeg x) := by
    rw [hL]
    show _ = (Sum.inl (cA, len, Sum.inr (Sum.inl (fun j => (upd (M t) i.toNatClampNeg x j).toInt64))) : va_E)
    congr 5
    funext j
    unfold vp_updL upd
    split <;> rfl
  rw [sd_G_set hn he] at hP1
  exact k _ rfl p e s m args below meth c H1 locs1 ls cells slots hC hK (sd_H.ofP hP1) hS1 hl hc hs
theorem x_lald {t len t0 : Nat} {cA : ClassId} {i : Int32} (d : decode Y.2.1 pc = .ok (.laload, 1)) (hn : t < n) (hL : L t = sd_J cA len) (h0 : t0 = 2) (ht : tys[t0]? = some (cA, .long)) (hi : vp_in i len) (k : sdW l E Y D tys b n ad L aF F Q X (pc + 1) loc (.long (M t i.toNatClampNeg).toInt64 :: st) M rc rs) : sdW l E Y D tys b n ad L aF F Q X pc loc (.int i :: .ref t :: st) M rc rs := by
  intro p e s m args below meth c H locs ls cells slots hC hK hH hS hl hc hs
  have hat := hH t hn
  rw [hL] at hat
  exact va_lald hC.1.1 hC.1.2.1 hK.1 (ws := [(ad t, .inl (cA, len, .inr (.inl (fun j => (M t j).toInt64))))]) (sd_one hat) 0 t0 rfl ht hi d (k p e s m args below meth c H locs ls cells slots hC hK hH hS hl hc hs)
end
theorem sd_enterH {l : Launch} {E : sdE} {Y : sdY} {D : va_G} {tys : List (ClassId × FieldType)} {b n : Nat} {ad : Nat → Nat} {L : Nat → sdL} {F : sdM → Heap → Prop} {Q : Option Value → sdM → Prop} {X : String → sdM → Prop} {M : sdM} {y : MethodName} {ws' : List Cond} {av : List Value}
    (hy : plainFor y = true) (hyc : y.cls = Y.1) (hw : Y.2.2.2.2.1 = Cond.codeWith y Y.2.1 Y.2.2.1 Y.2.2.2.1 Y.2.2.2.2.2.2.2.2 :: ws') (hn : (lg_sl av).length ≤ Y.2.2.1)
    (k : sdW l E Y D tys b n ad L ad F Q X 0 (lv_args 0 av) [] M Y.2.2.2.2.2.2.1 Y.2.2.2.2.2.2.2.1) : sd_CnF l E y Y.2.2.2.2.1 Y.2.2.2.2.2.1 Y.2.2.2.2.2.2.1 Y.2.2.2.2.2.2.2.1 D tys b n ad L M av F Q X := by
  refine MetFree.of_bodySF (code := Y.2.1) (maxLocals := Y.2.2.1) (ret := Y.2.2.2.1) hy ?_ ?_
  · intro args s m h hn
    obtain ⟨m', meth, c, h0, h1, h2, h3, h4, -, h5, h6, -⟩ := Cond.codeWith_spec (atoms_spec (ws := Y.2.2.2.2.1) h _ (by rw [hw]; exact List.mem_cons_self))
    cases hn.symm.trans h0
    exact ⟨meth, c, h1, h2, h3, h4, h5, h6⟩
  intro p e s m args below meth c s₁ B hml hv _
  have hx' : c.exceptionTable.toList = tableOf Y.2.2.2.2.2.2.2.2 := by
    obtain ⟨m', meth9, c9, h0, h1, h2, -, -, h7, -⟩ := Cond.codeWith_spec (atoms_spec (ws := Y.2.2.2.2.1) B.pre _ (by rw [hw]; exact List.mem_cons_self))
    cases B.named.symm.trans h0
    cases Option.some.inj (h1.symm.trans B.method)
    cases Option.some.inj (h2.symm.trans (Stand.of_body B).code)
    rw [← h7, table_eq]
  obtain ⟨rfl, hK, hH⟩ := hv
  have hown : s.vm.findClass Y.1 = some m.cls := by rw [← hyc]; exact findClass_of_methodNamed B.named
  have hl := lv_entry (av.map (sd_v ad)) (n := Y.2.2.1) (by rw [sd_sl]; exact hn)
  have hh0 : s₁.heap = s.heap := by rw [B.state]; rfl
  have key : W p l e Y.2.2.2.2.2.1 s m (av.map (sd_v ad)).toArray below meth c s₁.heap [] 0 0 (sd_Z b ad F Q X Y.2.2.2.2.2.2.1 Y.2.2.2.2.2.2.2.1 below (av.map (sd_v ad)).toArray s) (entryFrame m (av.map (sd_v ad)).toArray Y.2.2.1) := by
    rw [lg_entry_eq, hh0]
    generalize (lg_sl (av.map (sd_v ad)) ++ List.replicate (Y.2.2.1 - (lg_sl (av.map (sd_v ad))).length) Slot.unset).toArray = ls at hl ⊢
    rw [sd_args] at hl
    exact k p e s m _ below meth c s.heap [] ls 0 0 ⟨⟨B.exec, B.bytes, hml, hown, atoms_spec (ws := Y.2.2.2.2.1) B.pre⟩, B.notSynchronized, B.returns, hx', fun y9 b9 n9 r9 w9 h9 => by rw [hw] at h9; cases h9⟩ hK hH va_S.rf hl (by omega) (by omega)
  obtain ⟨t, a1, o, b1, b2, b3⟩ := key s₁ rfl (Stand.of_body B)
  exact ⟨t, o, a1, b1, b2, b3⟩
