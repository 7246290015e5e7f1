/-! what is thrown and caught in a method's own table -/
theorem sd_go {e : Env} {s : State} {args : Array Value} {own A : String} {g : JFrame} {a : Addr} {ce : Cell} {hpc : Nat} (hpl : e.platform.magicAccessors = ({} : Platform).magicAccessors) (hown : s.vm.findClass own = some g.method.cls) (hcv : ce.vm = .none) (hA : s.vm.findClass A = some ce.cls) :
    ∀ (hs : List ((Nat × Nat × Nat × Nat) × String)) (u : State), s.WarmedH u.vm → u.heap[a]? = some ce →
      (∀ q ∈ hs, covers ⟨q.1.1, q.1.2.1, q.1.2.2.1, q.1.2.2.2⟩ g.pc = true ∧ q.1.2.2.2 ≠ 0 ∧ (Cond.classLink own q.1.2.2.2 q.2).before args s = true ∧ (q.2 ≠ A → ∀ cB, s.vm.findClass q.2 = some cB → s.vm.assignable ce.cls cB = false)) →
      (hs.find? (fun q => q.2 == A)).map (fun q => q.1.2.2.1) = some hpc →
      ∃ vm', s.WarmedH vm' ∧ ∀ (Q : Handler → Pre) (E : CtlPost) (d : Bool) (acts : List Action), wp (findHandler.go g a (tableOf (hs.map (·.1)))) Q E e d acts u ↔ Q (.found hpc) d acts (u.setVm vm')
  | [], u, hW, ha, hq, hf => by simp at hf
  | (⟨x1, x2, x3, x4⟩, nm) :: t, u, hW, ha, hq, hf => by
    obtain ⟨h1, h2, h3, h4⟩ := hq _ List.mem_cons_self
    obtain ⟨cB, hcB, hcl⟩ := Cond.classLink_spec hown h3 e.platform hpl
    obtain ⟨dk, _, _, kt, hd, _, _, _, _, hkt, _, hopen⟩ := hcl.here
    have hcl₀ := hW.classLinks hcl
    have hW' : s.WarmedH (u.vm.noted g.method.cls x4 (.cls cB)) := hW.noted hd hopen (State.rightAt_cls hcl)
    obtain ⟨o1, o2⟩ := (resolveClass_links e.toSetting hcl₀).op (op := VmOp.resolveClass g.method.cls x4) rfl
    obtain ⟨k1, hk1⟩ := Vm.classAt_of_findClass hA
    obtain ⟨k1', hk1', -⟩ := hW'.alike.2.2 _ _ hk1
    obtain ⟨k2', hk2', -⟩ := hW'.alike.2.2 _ _ hkt
    have hobj : ∀ k, ce.vm ≠ .statics k := fun k hk => by rw [hcv] at hk; cases hk
    simp only [covers] at h1
    have h2' : ¬ x4 = 0 := h2
    by_cases he : nm = A
    · subst he
      cases hA.symm.trans hcB
      have hfit : (u.vm.noted g.method.cls x4 (.cls ce.cls)).assignable ce.cls ce.cls = true := by
        show Vm.assignableAux _ (255 + 1) ce.cls ce.cls = true
        rw [Vm.assignableAux, Bool.or_eq_true]
        exact Or.inl (beq_self_eq_true _)
      have hh : x3 = hpc := by simpa [List.find?] using hf
      refine ⟨_, hW', fun Q E d acts => ?_⟩
      simp [tableOf, findHandler.go, h1, h2', o1, o2, ha, hobj, hk1', hk2', hfit, VmOp.dirties, VmOp.acts, hh]
    · have hfit : (u.vm.noted g.method.cls x4 (.cls cB)).assignable ce.cls cB = false := by rw [hW'.alike.assignable]; exact h4 he cB hcB
      have hb : (nm == A) = false := by simpa using he
      rw [List.find?_cons, hb] at hf
      obtain ⟨vm', w1, w2⟩ := sd_go hpl hown hcv hA t (u.setVm (u.vm.noted g.method.cls x4 (.cls cB))) hW' ha (fun q h => hq q (List.mem_cons_of_mem _ h)) hf
      refine ⟨vm', w1, fun Q E d acts => ?_⟩
      have w3 := w2 Q E d acts
      refine Iff.trans ?_ w3
      simp [tableOf, findHandler.go, h1, h2', o1, o2, ha, hobj, hk1', hk2', hfit, VmOp.dirties, VmOp.acts]
theorem sd_caught {p : Program} {l : Launch} {e : Env} {R : Room} {s : State} {m : MethodId} {args : Array Value} {below : List Frame} {meth : Method} {c : Code} {T : State} {locs : List Loc} {cells slots : Nat} {g : JFrame} {a : Addr} {pc : Nat} {vm' : Vm} {target : State} (X : Stand p l e R s m args below meth c T locs cells slots) (hg : g.method = m)
    (hfind : ∀ (Q : Handler → Pre) (E : CtlPost) (d : Bool) (acts : List Action), wp (findHandler g a) Q E e d acts ((T.setTop g).pushFrame (.throwing a)) ↔ Q (.found pc) d acts (((T.setTop g).pushFrame (.throwing a)).setVm vm'))
    (hrest : Steps p.tables e below ((T.setVm vm').setTop { g with pc := pc, stack := [.ref a] }) target) : Steps p.tables e below ((T.setTop g).pushFrame (.throwing a)) target := by
  have h : At T g.method c below := by rw [hg]; exact X.here
  obtain ⟨hgo, hw⟩ := h.throwing a
  refine Steps.head hgo hw ?_
  have hst : ∀ r, (stepThrowing e ((T.setTop g).pushFrame (.throwing a)) a (.java g :: r)).1 = (((T.setTop g).pushFrame (.throwing a)).setVm vm').setFrames (.java { g with pc := pc, stack := [.ref a] } :: r) := by
    intro r
    simp only [stepThrowing, searchFrame, vmDo]
    generalize hr : Sem.go _ e false [] _ = res
    obtain ⟨as, rfl, ha⟩ := Sem.eq_ok_of hr (a := Handler.found pc) (s' := ((T.setTop g).pushFrame (.throwing a)).setVm vm') (acts' := []) (by simp [hfind _ _ _ _])
    rfl
  rw [stepThread_throwing (frames_entered h.top _), hst]
  obtain ⟨g₀, hg0⟩ := Option.isSome_iff_exists.mp h.top
  obtain ⟨r, hr⟩ := State.topJava?_eq_some.mp hg0
  have hr' : (T.setVm vm').frames = .java g₀ :: r := hr
  rw [State.setTop_of_frames _ hr'] at hrest
  have sw : ∀ (u : State) (F G : List Frame), ((u.setFrames F).setVm vm').setFrames G = (u.setVm vm').setFrames G := fun u F G => by
    rw [show (u.setFrames F).setVm vm' = (u.setVm vm').setFrames F from rfl, State.setFrames_setFrames]
  rw [hr, List.tail_cons, State.pushFrame, sw, State.setTop_of_frames _ hr, sw]
  exact hrest
theorem lv_tl {ls : Array Slot} {nL : Nat} {q : Nat × Value} {r : List (Nat × Value)} (h : lv_has ls nL (q :: r)) : lv_has ls nL r := ⟨h.1, h.2.1, fun x hx => h.2.2 x (List.mem_cons_of_mem _ hx)⟩
section
variable {l : Launch} {E : sdE} {Y : sdY} {D : va_G} {tys : List (ClassId × FieldType)} {b n : Nat} {ad : Nat → Nat} {L : Nat → sdL} {aF : Nat → Nat} {F : sdM → Heap → Prop} {Q : Option Value → sdM → Prop} {X : String → sdM → Prop}
variable {pc : Nat} {loc : List (Nat × Value)} {st : List Value} {M : sdM} {rc rs : Nat}
/-- the handler's first instruction lays what was caught away -/
def sd_as (cc : ByteArray) (hpc i nx : Nat) : Prop := (∃ f : Fin 4, decode cc hpc = .ok (.astore_n f, 1) ∧ (f : Nat) = i ∧ nx = hpc + 1) ∨ (decode cc hpc = .ok (.astore i, 2) ∧ nx = hpc + 2)
/-- a call of a virtual method under a table of handlers that cover it -/
theorem x_callVc {Y' : sdY} {y : MethodName} {idx na : Nat} {As rest st0 : List Value} {Q' : Option Value → sdM → Prop} {X' : String → sdM → Prop} {t ci N : Nat} {fs : List (Option (Option Nat))} {C : String} {T : u_T} (hs : List ((Nat × Nat × Nat × Nat) × String)) (htb : Y.2.2.2.2.2.2.2.2 = hs.map (·.1)) (hhs : ∀ q ∈ hs, covers ⟨q.1.1, q.1.2.1, q.1.2.2.1, q.1.2.2.2⟩ pc = true ∧ q.1.2.2.2 ≠ 0 ∧ Cond.classLink Y.1 q.1.2.2.2 q.2 ∈ Y.2.2.2.2.1 ∧ q.2 ∈ sdEx4)
    (hCn : sd_Cn l E y Y'.2.2.2.2.1 Y'.2.2.2.2.2.1 Y'.2.2.2.2.2.2.1 Y'.2.2.2.2.2.2.2.1 D tys b n ad L M (.ref t :: As) Q' X') (hcw : sd_cwV Y Y' y idx na C) (hn : t < n) (hL : L t = sd_O ci fs) (hc9 : E.1[ci]? = some (C, T, N)) (d : decode Y.2.1 pc = .ok (.invokevirtual idx, 3)) (hna : As.length = na) (hst : st0 = As.reverse ++ .ref t :: rest) (hcat : (rest.map fun v => v.category).sum ≤ 8)
    (kc : ∀ E' M', X' E' M' → E' ∈ sdEx4 ∧ ∃ hpc i nx, (hs.find? (fun q => q.2 == E')).map (fun q => q.1.2.2.1) = some hpc ∧ sd_as Y.2.1 hpc i nx ∧ i < Y.2.2.1 ∧ sdW l E Y D tys b n ad L aF F Q X nx (loc.filter (fun q => !(q.1 == i) && !(q.1 + 1 == i && q.2.category == 2))) [] M' rc rs)
    (k : ∀ (v : Option Value) (M' : sdM), Q' v M' → sdW l E Y D tys b n ad L aF F Q X (pc + 3) loc (v.toList ++ rest) M' rc rs) : sdW l E Y D tys b n ad L aF F Q X pc loc st0 M (rc + Y'.2.2.2.2.2.2.1) (rs + Y'.2.2.2.2.2.2.2.1) := by
  intro p e s m args below meth c H locs ls cells slots hC hK hH hS hl hc hs9
  subst hst
  obtain ⟨g1, ⟨ws', g2⟩, ⟨g3, g4, g5, g6⟩, g7, g8⟩ := hcw
  intro T hT X0
  subst hT
  have hat := hH t hn
  rw [hL] at hat
  have gws : GoodIn Y.2.2.2.2.1 Y'.2.2.2.2.1 := fun w h => g1 w (by unfold wsV; exact List.mem_append_right _ h)
  have ok : ∀ w ∈ wsV Y.1 idx C y Y'.2.2.2.2.1, w.before args s = true := fun w h => hC.1.2.2.2.2 w (g1 w h).1
  obtain ⟨rfl, hy1, hy2, hy3⟩ := g7
  have hini : (Cond.initialized y.cls).before args s = true := ok _ (by simp [wsV])
  have hinst : (Cond.instanceMethod y).before args s = true := ok _ (by simp [wsV])
  have hsel : (Cond.selects y.cls y y).before args s = true := ok _ (by simp [wsV])
  have hcode : (Cond.code y Y'.2.1 Y'.2.2.1 Y'.2.2.2.1).before args s = true := hC.1.2.2.2.2 _ (gws _ (by rw [g2]; exact List.mem_cons_self)).1
  obtain ⟨cellB, hcB, hoB, hclB⟩ := va_recv (q0 := 0) (a := ad t) (fs := sd_fv ad (M t) 0 fs) hK.1 (sd_one hat) hc9 rfl
  obtain ⟨mk, methM, hnamed, hmethM, hstM, habM⟩ := Cond.instanceMethod_spec hinst
  obtain ⟨methM', cM, hmethM', -, -, -, -, -, -, hsigM⟩ := Cond.code_spec hnamed hcode
  cases hmethM.symm.trans hmethM'
  obtain ⟨c2, r2, m2, q1, q2, q3, q4, kP, hkP, hkPi⟩ := Cond.selects_spec hsel
  cases hclB.symm.trans q1
  cases (State.methodFound?_of_named hnamed ⟨hy1, hy2⟩).symm.trans q2
  cases hnamed.symm.trans q3
  have hlen : (As.map (sd_v ad)).length = methM.sig.parameters.length := by
    rw [hsigM] at hy3
    rw [List.length_map, hna]
    exact (Option.some.inj hy3).symm
  obtain ⟨vm₁, X₁, st1⟩ := X0.invokevirtual hC.1.1 hC.1.2.2.2.1 (ok (.methodLink Y.1 idx y) (by simp [wsV])) hnamed hmethM hstM hkP hkPi ⟨hy1, hy2⟩ (a := ad t) (cell := cellB) hcB
    (fun z h => by rw [h] at hoB; cases hoB) (by rw [Launch.admits_selectMethod X0.admits]; exact q4) hmethM habM hkP hkPi (g := F0 m pc ls ((As.reverse ++ .ref t :: rest).map (sd_v ad))) rfl (argsL := As.map (sd_v ad)) (rest := rest.map (sd_v ad)) hlen (by show List.map (sd_v ad) (As.reverse ++ .ref t :: rest) = _; simp [List.map_append, List.map_reverse, sd_v]) (by rw [hC.1.2.1]; exact d)
  rcases sd_pay hCn X₁ rfl (hl.1.trans hC.1.2.2.1.symm) (by rw [hC.1.2.1]; exact d) (X₁.named hnamed) (fun w hw => pay_in hC.1.2.2.2.2 gws w hw _ _ X₁.warmed) (pay_in hC.1.2.2.2.2 gws _ (by rw [g2]; exact List.mem_cons_self) _ _ X₁.warmed) (word_at X₁.warmed (Or.inl rfl) hini) g3 g4 g8.1 g8.2 (lv_room (rest := rest.map (sd_v ad)) (by rw [sd_cats]; exact hcat)) (by rw [g5]; omega) (by rw [g6]; omega) ⟨rfl, (hK.move X₁.warmed rfl hS).call, hH⟩ with ⟨v, M', T', L', St', hq, hF', hfr, hL', hst'⟩ | ⟨q, E', M', ce, T', L', St', hx, hF', hce, hcv, hcl, hfr, hL', hst'⟩
  · obtain ⟨t2, a1, b1⟩ := k v M' hq p e s m args below meth c T'.heap (locs ++ L') ls (cells + Y'.2.2.2.2.2.2.1) (slots + Y'.2.2.2.2.2.2.2.1) hC hK hF' (sd_S_next hS hfr hL') hl (by omega) (by omega) T' rfl St'
    refine ⟨t2, st1 _ (fun acts => ?_), b1⟩
    rw [doInvoke_state]
    refine hst'.trans ?_
    cases v <;> exact a1
  · obtain ⟨hE4, hpc, i, nx, hfd, hAs, hi, kk⟩ := kc E' M' hx
    have hcl' : s.vm.findClass E' = some ce.cls := by rw [← X₁.warmed.alike.findClass]; exact hcl
    have hpl : e.platform.magicAccessors = ({} : Platform).magicAccessors := by rw [St'.admits.platform]
    obtain ⟨vm', w1, w2⟩ := sd_go (g := { F0 m pc ls (rest.map (sd_v ad)) with pc := pc }) (a := q) (args := args) hpl hC.1.2.2.2.1 hcv hcl' hs (((T'.setTop (F0 m pc ls (rest.map (sd_v ad)))).pushFrame (.throwing q))) (by rw [Stand.throwing_vm]; exact St'.warmed) (by rw [Stand.throwing_heap]; exact hce)
      (fun q9 h9 => ⟨(hhs q9 h9).1, (hhs q9 h9).2.1, hC.1.2.2.2.2 _ (hhs q9 h9).2.2.1, fun hne cB hcB => hK.2.2.2.2.2.2 _ hE4 _ (hhs q9 h9).2.2.2 (Ne.symm hne) _ _ hcl' hcB⟩) hfd
    have St2 := St'.noted w1
    have hfin : W p l e Y.2.2.2.2.2.1 s m args below meth c T'.heap (locs ++ L') (cells + Y'.2.2.2.2.2.2.1) (slots + Y'.2.2.2.2.2.2.2.1) (sd_Z b aF F Q X Y.2.2.2.2.2.2.1 Y.2.2.2.2.2.2.2.1 below args s) (F0 m hpc ls [.ref q]) := by
      rcases hAs with ⟨f, d9, hf9, rfl⟩ | ⟨d9, rfl⟩
      · refine lv_astore_n hC.1.1 hC.1.2.1 d9 hf9 hl hi rfl (fun ls' hl' => ?_)
        rw [sd_l_flt] at hl'
        exact kk p e s m args below meth c T'.heap (locs ++ L') ls' (cells + Y'.2.2.2.2.2.2.1) (slots + Y'.2.2.2.2.2.2.2.1) hC hK hF' (sd_S_next hS hfr hL') (lv_tl hl') (by omega) (by omega)
      · refine lv_astore hC.1.1 hC.1.2.1 d9 hl hi rfl (fun ls' hl' => ?_)
        rw [sd_l_flt] at hl'
        exact kk p e s m args below meth c T'.heap (locs ++ L') ls' (cells + Y'.2.2.2.2.2.2.1) (slots + Y'.2.2.2.2.2.2.2.1) hC hK hF' (sd_S_next hS hfr hL') (lv_tl hl') (by omega) (by omega)
    obtain ⟨t2, a1, b1⟩ := hfin (T'.setVm vm') rfl St2
    refine ⟨t2, st1 _ (fun acts => ?_), b1⟩
    rw [doInvoke_state]
    refine hst'.trans (sd_caught (g := F0 m pc ls (rest.map (sd_v ad))) St' rfl (fun Q9 E9 d9 acts9 => ?_) a1)
    rw [W.findHandler_eq (meth := meth) (code := c) (by rw [Stand.throwing_vm]; exact St'.method') St'.code, hC.2.2.2.1, htb]
    exact w2 Q9 E9 d9 acts9
end
