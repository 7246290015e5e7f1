/-! rows of the law itself: the script, long[], calls of methods with handlers -/
def sd_cwSH (Y Y' : sdY) (y : MethodName) (idx na : Nat) : Prop :=
  GoodIn Y.2.2.2.2.1 (va_wsS Y.1 idx y Y'.2.2.2.2.1) ∧ (∃ ws', Y'.2.2.2.2.1 = Cond.codeWith y Y'.2.1 Y'.2.2.1 Y'.2.2.2.1 Y'.2.2.2.2.2.2.2.2 :: ws') ∧ (Y'.2.2.2.2.2.1.cells = Y'.2.2.2.2.2.2.1 ∧ Y'.2.2.2.2.2.1.slots = Y'.2.2.2.2.2.2.2.1 ∧ Y.2.2.2.2.2.1.cells = Y.2.2.2.2.2.2.1 ∧ Y.2.2.2.2.2.1.slots = Y.2.2.2.2.2.2.2.1) ∧
  (y.cls ≠ "java/lang/invoke/MethodHandle" ∧ y.cls ≠ "java/lang/invoke/VarHandle" ∧ (parseMethodDescriptor y.desc).map (fun d => d.parameters.length) = some na) ∧ (Y'.2.2.2.2.2.1.frames + 1 ≤ Y.2.2.2.2.2.1.frames ∧ 8 + (Y'.2.2.1 + 11) + Y'.2.2.2.2.2.1.locals ≤ Y.2.2.2.2.2.1.locals)
theorem sd_payH {p : Program} {l : Launch} {e : Env} {R : Room} {s : State} {m : MethodId} {args : Array Value} {below : List Frame} {meth : Method} {c : Code} {U : State} {locs : List Loc} {cells slots mc ms b : Nat} {y : MethodName} {ws : List Cond} {rm : Room} {Pc : Array Value → State → Prop} {ad : Nat → Nat} {F : sdM → Heap → Prop} {Q : Option Value → sdM → Prop} {X : String → sdM → Prop} {bytes : ByteArray} {maxL W9 : Nat} {ret : Option FieldType} {hs9 : List (Nat × Nat × Nat × Nat)} {g : JFrame} {ig : Instr} {len : Nat} {mk : MethodId} {a : Array Value}
    (hM : MetFree l y (headSpec ws rm) Pc (fun _ _ _ _ _ => True) (sd_End b ad F Q X mc ms)) (St : Stand p l e R s m args below meth c U locs cells slots) (hg : g.method = m) (hsize : g.locals.size = c.maxLocals) (hdg : decode c.code g.pc = .ok (ig, len)) (hn : U.methodNamed? y = some mk)
    (hws : ∀ w ∈ ws, w.before a U = true) (hcode : (Cond.codeWith y bytes maxL ret hs9).before a U = true) (hinit : (Cond.initialized y.cls).before a U = true) (hrc : rm.cells = mc) (hrs : rm.slots = ms) (hfr : rm.frames + 1 ≤ R.frames) (hlo : W9 + (maxL + 11) + rm.locals ≤ R.locals) (hW : 2 * g.monitorRoom + (g.stack.map fun v => v.category).sum ≤ W9)
    (hc : cells + mc ≤ R.cells) (hs : slots + ms ≤ R.slots) (hP : Pc a (U.calling g mk a)) :
    (∃ (v : Option Value) (M : sdM) (T' : State) (L : List Loc), Stand p l e R s m args below meth c T' (locs ++ L) (cells + mc) (slots + ms) ∧ Q v M ∧ F M T'.heap ∧ (U.heap.size ≤ T'.heap.size ∧ ∀ q : Nat, q < U.heap.size → ¬ sd_A b q → T'.heap[q]? = U.heap[q]?) ∧ (∀ z ∈ L, sd_A b z.base) ∧
      Steps p.tables e below (doInvoke e (U.setTop g) [] mk a).1 (T'.setTop { g with pc := g.pc + len, stack := (v.map (sd_v ad)).toList ++ g.stack })) ∨
    (∃ (q : Addr) (E : String) (M : sdM) (ce : Cell) (T' : State) (L : List Loc), Stand p l e R s m args below meth c T' (locs ++ L) (cells + mc) (slots + ms) ∧ X E M ∧ F M T'.heap ∧ T'.heap[q]? = some ce ∧ ce.vm = .none ∧ U.vm.findClass E = some ce.cls ∧ (U.heap.size ≤ T'.heap.size ∧ ∀ q : Nat, q < U.heap.size → ¬ sd_A b q → T'.heap[q]? = U.heap[q]?) ∧ (∀ z ∈ L, sd_A b z.base) ∧
      Steps p.tables e below (doInvoke e (U.setTop g) [] mk a).1 ((T'.setTop g).pushFrame (.throwing q))) := by
  obtain ⟨mY9, methY, cY, h09, hmY, hcY, -, hlY, -, -, -, -⟩ := Cond.codeWith_spec hcode
  cases hn.symm.trans h09
  obtain ⟨kY, hkY, -⟩ := className_of_methodNamed hn
  have hat : At U g.method c below := by rw [hg]; exact St.here
  have happ : (headSpec ws rm).appliesLoose y e.platform (U.calling g mk a) = true :=
    Spec.appliesLoose_calling (g := g) hat hdg hn hkY (Cond.initialized_spec (findClass_of_methodNamed hn) hkY hinit)
      (St.room_calling (g := g) (R' := rm) hsize hmY hcY hfr (by rw [hlY]; omega) (by rw [hrc]; exact hc) (by rw [hrs]; exact hs)) (atoms_intro hws)
  obtain ⟨g0, hfr0⟩ := St.frames_eq
  have htop : (U.setTop g).frames = .java g :: below := by rw [State.frames_setTop' g St.here.top, hfr0]; rfl
  obtain ⟨o, t, hsteps, -, hend, hq⟩ := Free.Steps.callFree hM p St.admits St.cas St.clock (acts := []) (mid := [.java g]) (below := below) htop happ hP trivial
  rw [htop] at hend
  rcases hq with ⟨⟨v, M, rfl, hQ, hF, hFr⟩, L, ⟨-, hWm, hsame⟩, hL⟩ | ⟨q, rfl, E, M, ce, L, hX, hF, hce, hcv, hcl, hFr, hWm, hsame, hL⟩
  · obtain ⟨T', St', -, -, rfl⟩ := St.outOf hg hdg hend hWm hsame
    exact Or.inl ⟨v, M, T', L, St', hQ, hF, hFr, hL, hsteps⟩
  · obtain ⟨T', St', -, -, rfl⟩ := St.outOfThrown hg hend hWm hsame
    exact Or.inr ⟨q, E, M, ce, T', L, St', hX, hF, hce, hcv, hcl, hFr, hL, hsteps⟩
section
variable {l : Launch} {E : sdE} {Y : sdY} {D : va_G} {tys : List (ClassId × FieldType)} {b n : Nat} {ad : Nat → Nat} {L : Nat → sdL} {aF : Nat → Nat} {F : sdM → Heap → Prop} {Q : Option Value → sdM → Prop} {X : String → sdM → Prop}
variable {pc : Nat} {loc : List (Nat × Value)} {st : List Value} {M : sdM} {rc rs : Nat}
theorem x_aload_s {f : Fin 4} (i j : Nat) {x : Nat} (d : decode Y.2.1 pc = .ok (.aload_n f, 1)) (hi : (f : Nat) = i) (h : loc[j]? = some (i, .retAddr x)) (k : sdW l E Y D tys b n ad L aF F Q X (pc + 1) loc (.retAddr x :: st) M rc rs) : sdW l E Y D tys b n ad L aF F Q X pc loc st M rc rs := by
  intro p e s m args below meth c H locs ls cells slots hC hK hH hS hl hc hs
  exact lv_aload_n hC.1.1 hC.1.2.1 d hi (lv_at hl j (sd_l_get h)) (k p e s m args below meth c H locs ls cells slots hC hK hH hS hl hc hs)
theorem x_sld {q : Nat × Nat × (Nat → Int32)} {i : Int32} (hq : E.2.2.2 = some q) (d : decode Y.2.1 pc = .ok (.iaload, 1)) (hi : vp_in i q.2.1) (k : sdW l E Y D tys b n ad L aF F Q X (pc + 1) loc (.int (q.2.2 i.toNatClampNeg) :: st) M rc rs) : sdW l E Y D tys b n ad L aF F Q X pc loc (.int i :: .retAddr q.1 :: st) M rc rs := by
  intro p e s m args below meth c H locs ls cells slots hC hK hH hS hl hc hs
  obtain ⟨g1, g2⟩ := hK.2.2.2.2.2.1 q hq
  exact va_sld hC.1.1 hC.1.2.1 g1 (Nat.lt_of_lt_of_le g2 hK.2.2.2.2.1) (fun z => absurd z (Nat.not_le.mpr g2)) hS hi d (k p e s m args below meth c H locs ls cells slots hC hK hH hS hl hc hs)
theorem x_slen {q : Nat × Nat × (Nat → Int32)} (hq : E.2.2.2 = some q) (d : decode Y.2.1 pc = .ok (.arraylength, 1)) (k : sdW l E Y D tys b n ad L aF F Q X (pc + 1) loc (.int (zN q.2.1) :: st) M rc rs) : sdW l E Y D tys b n ad L aF F Q X pc loc (.retAddr q.1 :: st) M rc rs := by
  intro p e s m args below meth c H locs ls cells slots hC hK hH hS hl hc hs
  obtain ⟨g1, g2⟩ := hK.2.2.2.2.2.1 q hq
  exact va_slen hC.1.1 hC.1.2.1 g1 (Nat.lt_of_lt_of_le g2 hK.2.2.2.2.1) (fun z => absurd z (Nat.not_le.mpr g2)) hS d (k p e s m args below meth c H locs ls cells slots hC hK hH hS hl hc hs)
theorem lv_lcmp0 {p : Program} {l : Launch} {e : Env} {R : Room} {s : State} {m : MethodId} {args : Array Value} {below : List Frame} {meth : Method} {c : Code} {H : Heap} {locs : List Loc} {cells slots : Nat} {Q : State → Prop} {cc : ByteArray} {pc : Nat} {ls : Array Slot} {rest : List Value} (hexec : p.tables.exec = Jvm.exec) (hb : c.code = cc) {x : Int64} (hdg : decode cc pc = .ok (.lcmp, 1))
    (k : W p l e R s m args below meth c H locs cells slots Q (F0 m (pc + 1) ls (.int 0 :: rest))) : W p l e R s m args below meth c H locs cells slots Q (F0 m pc ls (.long x :: .long x :: rest)) := by
  intro T hT X
  obtain ⟨t, a, b⟩ := k T hT X
  refine ⟨t, ?_, b⟩
  jvm_step X.here [X.here.top, hexec, hb, hdg]
  exact a
theorem x_lcmp0 {x : Int64} (d : decode Y.2.1 pc = .ok (.lcmp, 1)) (k : sdW l E Y D tys b n ad L aF F Q X (pc + 1) loc (.int 0 :: st) M rc rs) : sdW l E Y D tys b n ad L aF F Q X pc loc (.long x :: .long x :: st) M rc rs := by
  intro p e s m args below meth c H locs ls cells slots hC hK hH hS hl hc hs
  exact lv_lcmp0 hC.1.1 hC.1.2.1 d (k p e s m args below meth c H locs ls cells slots hC hK hH hS hl hc hs)
/-- new long[len] -/
theorem x_newJ {atype : ArrayType} {ty : FieldType} {t0 len : Nat} {cA : ClassId} {x : Int32} (hA : sd_ad b n ad) (hloc : sd_loc n L) (hb1 : ∀ q ∈ loc, sd_bel n q.2) (hb2 : ∀ v ∈ st, sd_bel n v) (d : decode Y.2.1 pc = .ok (.newarray atype, 2)) (hty : newarray.typeOf atype = ty) (hz : ty = .long) (harr : Cond.arrayClass (newarray.typeOf atype) ∈ Y.2.2.2.2.1) (ht : tys[t0]? = some (cA, ty)) (hx : ¬ x < 0) (hN : x.toNatClampNeg = len) (hsz : len * componentBytes ty ≤ 536870912) (hR3 : Y.2.2.2.2.2.1.cells = Y.2.2.2.2.2.2.1) (hR4 : Y.2.2.2.2.2.1.slots = Y.2.2.2.2.2.2.2.1)
    (k : ∀ (ad2 : Nat → Nat) (M2 : sdM), sd_ad b (n + 1) ad2 → sd_loc (n + 1) (va_up L n (sd_J cA len)) → sd_up n L (n + 1) (va_up L n (sd_J cA len)) → (∀ k, k < n → ad2 k = ad k) → M2 = va_up M n (fun _ => 0) → sdW l E Y D tys b (n + 1) ad2 (va_up L n (sd_J cA len)) aF F Q X (pc + 2) loc (.ref n :: st) M2 rc rs) : sdW l E Y D tys b n ad L aF F Q X pc loc (.int x :: st) M (rc + 1) (rs + len) := by
  intro p e s m args below meth c H locs ls cells slots hC hK hH hS hl hc hs
  refine va_newa (a0 := (len, .inr (.inl (fun _ => 0)))) hC.1.1 hC.1.2.1 (hC.1.2.2.2.2 _ harr) hty hK.1 hH.toP hA.toD hS (fun q h => Nat.le_trans hK.2.2.2.2.1 h) (fun cA9 => by subst hz; rfl) hx hN hsz (by rw [hR3]; omega) (by rw [hR4]; omega) d (fun q cA9 H1 hK1 hP1 hD1 hS1 => ?_)
  have he : cA9 = cA := by
    have h1 := (hK1.2 tys.length (cA9, ty) (by rw [List.getElem?_append_right (Nat.le_refl _), Nat.sub_self]; rfl)).2
    have h2 := (hK.1.2 t0 (cA, ty) ht).2
    subst hz; exact Option.some.inj (h1.symm.trans h2)
  subst he
  obtain ⟨g1, g2, g3, g4, g5⟩ := sd_grow (ly := sd_J cA9 len) (f := fun _ => 0) hloc (fun a f => rfl) rfl hP1 hD1
  have key := k _ _ g2 g3 g4 g5 rfl p e s m args below meth c H1 locs ls (cells + 1) (slots + len) hC hK g1 hS1 (by rw [sd_l_ext g5 hb1]; exact hl) (by omega) (by omega)
  have hst : List.map (sd_v (va_up ad n q)) (.ref n :: st) = .ref q :: st.map (sd_v ad) := by
    rw [List.map_cons, sd_map_ext g5 hb2]
    show Value.ref (va_up ad n q n) :: _ = _
    rw [va_up_self]
  rw [hst] at key
  exact key
theorem x_callSH {Y' : sdY} {y : MethodName} {idx na : Nat} {As rest st0 : List Value} {Q' : Option Value → sdM → Prop} {X' : String → sdM → Prop} (hCn : sd_Cn l E y Y'.2.2.2.2.1 Y'.2.2.2.2.2.1 Y'.2.2.2.2.2.2.1 Y'.2.2.2.2.2.2.2.1 D tys b n ad L M As Q' X') (hcw : sd_cwSH Y Y' y idx na) (d : decode Y.2.1 pc = .ok (.invokestatic idx, 3)) (hna : As.length = na) (hst : st0 = As.reverse ++ rest) (hcat : (rest.map fun v => v.category).sum ≤ 8) (htb : Y.2.2.2.2.2.2.2.2 = []) (hX : ∀ E' M', X' E' M' → X E' M') (hF : ∀ (M : sdM) (H : Heap), sd_H D E.1 n ad L M H → F M H)
    (k : ∀ (v : Option Value) (M' : sdM), Q' v M' → sdW l E Y D tys b n ad L aF F Q X (pc + 3) loc (v.toList ++ rest) M' rc rs) : sdW l E Y D tys b n ad L aF F Q X pc loc st0 M (rc + Y'.2.2.2.2.2.2.1) (rs + Y'.2.2.2.2.2.2.2.1) := by
  intro p e s m args below meth c H locs ls cells slots hC hK hH hS hl hc hs
  subst hst
  obtain ⟨g1, ⟨ws', g2⟩, ⟨g3, g4, g5, g6⟩, g7, g8⟩ := hcw
  intro T hT X0
  subst hT
  have gws : GoodIn Y.2.2.2.2.1 Y'.2.2.2.2.1 := fun w h => g1 w (by unfold va_wsS; exact List.mem_append_right _ h)
  have ok : ∀ w ∈ va_wsS Y.1 idx y Y'.2.2.2.2.1, w.before args s = true := fun w h => hC.1.2.2.2.2 w (g1 w h).1
  obtain ⟨hy1, hy2, hy3⟩ := g7
  have hini : (Cond.initialized y.cls).before args s = true := ok _ (by simp [va_wsS])
  have hstt : (Cond.static y).before args s = true := ok _ (by simp [va_wsS])
  have hcode : (Cond.codeWith y Y'.2.1 Y'.2.2.1 Y'.2.2.2.1 Y'.2.2.2.2.2.2.2.2).before args s = true := hC.1.2.2.2.2 _ (gws _ (by rw [g2]; exact List.mem_cons_self)).1
  obtain ⟨mk, methM, cM, hnamed, hmethM, -, -, -, -, -, -, hsigM⟩ := Cond.codeWith_spec hcode
  obtain ⟨kP, hkP, -⟩ := className_of_methodNamed hnamed
  have hlen : (As.map (sd_v ad)).length = methM.sig.parameters.length := by
    rw [hsigM] at hy3
    rw [List.length_map, hna]
    exact (Option.some.inj hy3).symm
  obtain ⟨vm₁, X₁, st1⟩ := X0.invokestatic hC.1.1 hC.1.2.2.2.1 (ok (.methodLink Y.1 idx y) (by simp [va_wsS])) hnamed hmethM (Cond.static_spec hnamed hmethM hstt) hkP (Cond.initialized_spec (findClass_of_methodNamed hnamed) hkP hini) ⟨hy1, hy2⟩ (g := F0 m pc ls ((As.reverse ++ rest).map (sd_v ad))) rfl (argsL := As.map (sd_v ad)) (rest := rest.map (sd_v ad)) hlen (by show List.map (sd_v ad) (As.reverse ++ rest) = _; simp [List.map_append, List.map_reverse]) (by rw [hC.1.2.1]; exact d)
  rcases sd_payH hCn X₁ rfl (hl.1.trans hC.1.2.2.1.symm) (by rw [hC.1.2.1]; exact d) (X₁.named hnamed) (fun w hw => pay_in hC.1.2.2.2.2 gws w hw _ _ X₁.warmed) (pay_in hC.1.2.2.2.2 gws _ (by rw [g2]; exact List.mem_cons_self) _ _ X₁.warmed) (word_at X₁.warmed (Or.inl rfl) hini) g3 g4 g8.1 g8.2 (lv_room (rest := rest.map (sd_v ad)) (by rw [sd_cats]; exact hcat)) (by rw [g5]; omega) (by rw [g6]; omega) ⟨rfl, (hK.move X₁.warmed rfl hS).call, hH⟩ with ⟨v, M', T', L', St', hq, hF', hfr, hL', hst'⟩ | ⟨q, E', M', ce, T', L', St', hx, hF', hce, hcv, hcl, hfr, hL', hst'⟩
  · obtain ⟨t2, a1, b1⟩ := k v M' hq p e s m args below meth c T'.heap (locs ++ L') ls (cells + Y'.2.2.2.2.2.2.1) (slots + Y'.2.2.2.2.2.2.2.1) hC hK hF' (sd_S_next hS hfr hL') hl (by omega) (by omega) T' rfl St'
    refine ⟨t2, st1 _ (fun acts => ?_), b1⟩
    rw [doInvoke_state]
    refine hst'.trans ?_
    cases v <;> exact a1
  · obtain ⟨t2, a1, b1⟩ := sd_out (R := Y.2.2.2.2.2.1) (p := p) (l := l) (e := e) (args := args) (below := below) (pc := pc) (ls := ls) (st := rest.map (sd_v ad)) (aF := aF) (Q := Q) (sd_tb hC htb) hC.2.1 (hX _ _ hx) (hF _ _ hF') hce hcv (by rw [← X₁.warmed.alike.findClass]; exact hcl) (sd_S_next hS hfr hL') (show cells + Y'.2.2.2.2.2.2.1 ≤ Y.2.2.2.2.2.2.1 by omega) (show slots + Y'.2.2.2.2.2.2.2.1 ≤ Y.2.2.2.2.2.2.2.1 by omega) T' rfl St'
    refine ⟨t2, st1 _ (fun acts => ?_), b1⟩
    rw [doInvoke_state]
    exact hst'.trans a1
theorem x_callSHi {Y' : sdY} {y : MethodName} {idx na : Nat} {As rest st0 : List Value} {Q0 : Int32 → sdM → Prop} {X' : String → sdM → Prop} (hCn : sd_Cn l E y Y'.2.2.2.2.1 Y'.2.2.2.2.2.1 Y'.2.2.2.2.2.2.1 Y'.2.2.2.2.2.2.2.1 D tys b n ad L M As (sd_qi Q0) X') (hcw : sd_cwSH Y Y' y idx na) (d : decode Y.2.1 pc = .ok (.invokestatic idx, 3)) (hna : As.length = na) (hst : st0 = As.reverse ++ rest) (hcat : (rest.map fun v => v.category).sum ≤ 8) (htb : Y.2.2.2.2.2.2.2.2 = []) (hX : ∀ E' M', X' E' M' → X E' M') (hF : ∀ (M : sdM) (H : Heap), sd_H D E.1 n ad L M H → F M H) (k : ∀ (r : Int32) (M' : sdM), Q0 r M' → sdW l E Y D tys b n ad L aF F Q X (pc + 3) loc (.int r :: rest) M' rc rs) : sdW l E Y D tys b n ad L aF F Q X pc loc st0 M (rc + Y'.2.2.2.2.2.2.1) (rs + Y'.2.2.2.2.2.2.2.1) :=
  x_callSH hCn hcw d hna hst hcat htb hX hF (fun v M' hq => by obtain ⟨r, rfl, h⟩ := hq; exact k r M' h)
end
