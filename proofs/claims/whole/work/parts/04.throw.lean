/-! exceptions: 'throw new E("text")' out of a method -/
/-- the frame of a method, seen from here: as if it had been entered in this heap -/
theorem sd_anew {p : Program} {l : Launch} {e : Env} {R : Room} {s : State} {m : MethodId} {args : Array Value} {below : List Frame} {meth : Method} {c : Code} {T : State} {locs : List Loc} {cells slots kc ks : Nat}
    (X : Stand p l e R s m args below meth c T locs cells slots) (h1 : cells + kc ≤ R.cells) (h2 : slots + ks ≤ R.slots) :
    Stand p l e { frames := R.frames, locals := R.locals, cells := kc, slots := ks } ((T.setVm s.vm).setFrames (.invoking m args :: below)) m args below meth c T [] 0 0 := by
  have hcur : (T.setVm s.vm).cur < (T.setVm s.vm).threads.size := State.cur_lt_of_top (show (T.setVm s.vm).topJava?.isSome from X.here.top)
  have hF : ((T.setVm s.vm).setFrames (.invoking m args :: below)).frames = .invoking m args :: below := State.frames_setFrames _ hcur
  have hlim : e.platform.stackLimits (T.setVm s.vm).me = e.platform.stackLimits s.me := X.limits
  have hbyt : (T.setVm s.vm).me.stackBytes = s.me.stackBytes := X.bytes
  have hnil : ∀ a : Array Cell, a.toList.drop a.size = [] := fun a => List.drop_eq_nil_of_le (Nat.le_of_eq Array.length_toList)
  refine { admits := X.admits, cas := X.cas, clock := X.clock, frames := hF, room := ?_, hears := X.hears, method := X.method, code := X.code, here := X.here, tail := X.tail, warmed := X.warmed, limits := ?_, bytes := ?_, same := ?_ }
  · have h := X.room
    have e1 := State.localsInUse_invoking hF X.method X.code
    have e2 := State.localsInUse_invoking X.frames X.method X.code
    have q1 := X.heapSize
    have q2 := X.used
    simp only [State.hasRoom, Bool.and_eq_true, decide_eq_true_eq, e1, e2, hF, X.frames, List.length_cons, State.stackLimits_setFrames, State.stackBytes_setFrames, hlim, hbyt] at h ⊢
    obtain ⟨⟨⟨⟨a1, a2, a3, a4, a5, a6⟩, a7⟩, a8⟩, a9⟩ := h
    refine ⟨⟨⟨⟨by omega, by omega, by omega, by omega, by omega, a6⟩, ?_⟩, ?_⟩, X.book⟩
    · show T.heap.size + kc ≤ e.platform.maxCells
      omega
    · show T.slotsUsed + ks ≤ e.platform.maxSlots
      omega
  · rw [State.stackLimits_setFrames]; rfl
  · rw [State.stackBytes_setFrames]; rfl
  · obtain ⟨g0, hg0⟩ := X.frames_eq
    obtain ⟨th, hth, -⟩ := State.frames_cons (show (T.setVm s.vm).frames = .java g0 :: below from hg0)
    refine ⟨?_, Nat.le_refl _, Nat.le_refl _, ?_, ?_, fun a c9 h9 => ⟨c9, h9, rfl, rfl, fun _ _ => rfl⟩⟩
    · show T.setVm s.vm = { ((T.setVm s.vm).setFrames (.invoking m args :: below)).setFrames (T.setVm s.vm).frames with heap := T.heap, slotsUsed := T.slotsUsed }
      rw [State.setFrames_setFrames, State.setFrames_self hth]
      rfl
    · show T.slotsUsed = T.slotsUsed + ((T.heap.toList.drop T.heap.size).map (·.slots.size)).sum
      rw [hnil]; rfl
    · show ((T.heap.toList.drop T.heap.size).map (·.slots.size)).sum ≤ 0
      rw [hnil]; exact Nat.le_refl _
/-- nothing old was written: every old cell is as it was -/
theorem sd_same0 {s U : State} {k n : Nat} (h : s.sameButNew U [] k n) : s.heap.size ≤ U.heap.size ∧ ∀ q : Nat, q < s.heap.size → U.heap[q]? = s.heap[q]? := by
  obtain ⟨-, h2, -, -, -, h6⟩ := h
  refine ⟨h2, fun q hq => ?_⟩
  obtain ⟨c9, e1, e2, e3, e4⟩ := h6 q _ (Array.getElem?_eq_getElem hq)
  have hs : c9.slots = (s.heap[q]).slots := Array.ext_getElem? fun i => e4 i (fun hm => nomatch hm)
  rw [hs] at e2
  rw [e1, e2, Array.getElem?_eq_getElem hq]
/-- a word of the tables, one that stays, or one of the four on Throwable's statics -/
def sd_ok (ws nw : List Cond) (w : Cond) : Prop := w ∈ ws ∨ w ∈ nw ∨ w = .isRef (.static Bundle.tN "UNASSIGNED_STACK" Bundle.steD) ∨ w = .isRef (.static Bundle.tN "SUPPRESSED_SENTINEL" Bundle.listD) ∨ w = .laysStatic Bundle.tN "UNASSIGNED_STACK" Bundle.steD ∨ w = .laysStatic Bundle.tN "SUPPRESSED_SENTINEL" Bundle.listD
section
variable {l : Launch} {E : sdE} {Y : sdY} {D : va_G} {tys : List (ClassId × FieldType)} {b n : Nat} {ad : Nat → Nat} {L : Nat → sdL} {aF : Nat → Nat} {F : sdM → Heap → Prop} {Q : Option Value → sdM → Prop} {X : String → sdM → Prop}
variable {pc : Nat} {loc : List (Nat × Value)} {st : List Value} {M : sdM} {rc rs : Nat}
set_option maxHeartbeats 1000000 in
theorem x_throwS {cls text : String} {names : List String} {ik is ic wd : Nat} (hT : l.stackTraces = false) (htb : Y.2.2.2.2.2.2.2.2 = []) (hcls : Bundle.fit cls = true) (hnames : ∀ n ∈ names, Bundle.fit n = true) (hgw : GoodIn Y.2.2.2.2.1 Y.2.2.2.2.1) (hk : Cond.classLink Y.1 ik cls ∈ Y.2.2.2.2.1) (hini : Cond.initialized cls ∈ Y.2.2.2.2.1) (hins : Cond.instantiable cls 6 ∈ Y.2.2.2.2.1) (hss : (Y.1, is, text) ∈ E.2.2.1)
    (hat : ∀ w ∈ Bundle.ownAtoms Y.1 ic cls names, sd_ok Y.2.2.2.2.1 E.2.1 w)
    (d0 : decode Y.2.1 pc = .ok (.new ik, 3)) (d3 : decode Y.2.1 (pc + 3) = .ok (.dup, 1)) (d4 : (decode Y.2.1 (pc + 4) = .ok (.ldc is, 2) ∧ wd = 2) ∨ (decode Y.2.1 (pc + 4) = .ok (.ldc_w is, 3) ∧ wd = 3)) (d6 : decode Y.2.1 (pc + 4 + wd) = .ok (.invokespecial ic, 3)) (d9 : decode Y.2.1 (pc + 4 + wd + 3) = .ok (.athrow, 1))
    (hR1 : names.length + 3 < Y.2.2.2.2.2.1.frames) (hR2 : (st.map fun v => v.category).sum + (13 * (names.length + 1) + 43) ≤ Y.2.2.2.2.2.1.locals) (hR3 : Y.2.2.2.2.2.1.cells = Y.2.2.2.2.2.2.1) (hR4 : Y.2.2.2.2.2.1.slots = Y.2.2.2.2.2.2.2.1)
    (hF : ∀ (M : sdM) (H : Heap), sd_H D E.1 n ad L M H → F M H) (k : X cls M) : sdW l E Y D tys b n ad L aF F Q X pc loc st M (rc + 1) (rs + 6) := by
  intro p e s m args below meth c H locs ls cells slots hC hK hH hS hl hc hs T hT0 X0
  subst hT0
  have htr : e.platform.stackTraces = false := (show e.platform.stackTraces = l.stackTraces by rw [X0.admits.platform]).trans hT
  have Z := sd_anew X0 (kc := 1) (ks := 6) (by rw [hR3]; omega) (by rw [hR4]; omega)
  obtain ⟨s', hs'⟩ : ∃ z, z = (T.setVm s.vm).setFrames (.invoking m args :: below) := ⟨_, rfl⟩
  rw [← hs'] at Z
  have hvm : s'.vm = s.vm := by rw [hs']; rfl
  have hhp : s'.heap = T.heap := by rw [hs']; rfl
  have hW0 : s.WarmedH s'.vm := by rw [hvm]; exact State.WarmedH.refl s
  have hK' := hK.move hW0 hhp hS
  have hws : ∀ w ∈ Y.2.2.2.2.1, w.before args s' = true := fun w hw => word_at hW0 (hgw w hw).2 (hC.1.2.2.2.2 w hw)
  have h : ∀ w ∈ Bundle.ownAtoms Y.1 ic cls names, w.before args s' = true := by
    intro w hw
    rcases hat w hw with h | h | h | h | h | h
    · exact hws w h
    · exact (hK'.2.1 w h).2.1 _ _ _ (hK'.2.1 w h).1
    · rw [h]; exact hK'.2.2.2.1.1.ref
    · rw [h]; exact hK'.2.2.2.1.2.ref
    · rw [h]; exact hK'.2.2.2.1.1.lays
    · rw [h]; exact hK'.2.2.2.1.2.lays
  have hown' : s'.vm.findClass Y.1 = some m.cls := by rw [hvm]; exact hC.1.2.2.2.1
  obtain ⟨sa, hsa⟩ := hK'.2.2.1 _ hss
  have hres : W p l e { frames := Y.2.2.2.2.2.1.frames, locals := Y.2.2.2.2.2.1.locals, cells := 1, slots := 6 } s' m args below meth c T.heap [] 0 0 (sd_Z b aF F Q X Y.2.2.2.2.2.2.1 Y.2.2.2.2.2.2.2.1 below args s) (F0 m pc ls (st.map (sd_v ad))) := by
    refine W.newc hC.1.1 hC.1.2.1 hown' (hws _ hk) (hws _ hins) (hws _ hini) rfl d0 (Nat.le_refl _) (Nat.le_refl _) fun cX kX g1 g2 g3 g4 => ?_
    refine W.eq (g2 := F0 m (pc + 3) ls (.ref T.heap.size :: st.map (sd_v ad))) rfl ?_
    refine lv_dup hC.1.1 hC.1.2.1 d3 rfl ?_
    have fin : W p l e { frames := Y.2.2.2.2.2.1.frames, locals := Y.2.2.2.2.2.1.locals, cells := 1, slots := 6 } s' m args below meth c (T.heap.push { cls := cX, slots := kX.instanceTypes.map defaultValue, vm := .none }) [] (0 + 1) (0 + 6) (sd_Z b aF F Q X Y.2.2.2.2.2.2.1 Y.2.2.2.2.2.2.2.1 below args s) (F0 m (pc + 4 + wd) ls (.ref sa :: .ref T.heap.size :: .ref T.heap.size :: st.map (sd_v ad))) := by
      intro T2 hT2 X2
      obtain ⟨U, hsteps, hrun, hend, hWm, hsame, ce, hce, hO⟩ := X2.ctorThrowS hC.1.1 htr (own := Y.1) (cls := cls) (names := names) (ic := ic) hown' hcls hnames h (fun x hx => nomatch hx) g1 g2 (a := T.heap.size) (by rw [hT2]; simp) (by rw [hhp]; exact Nat.le_refl _) (msg := .ref sa) rfl
        (g := F0 m (pc + 4 + wd) ls (.ref sa :: .ref T.heap.size :: .ref T.heap.size :: st.map (sd_v ad))) rfl (hl.1.trans hC.1.2.2.1.symm) rfl rfl (rest := st.map (sd_v ad)) rfl (by rw [hC.1.2.1]; exact d6) (by rw [hC.1.2.1]; exact d9) (fun x hx => (sd_tb hC htb x hx).elim) hR1
        (by
          have hcat := sd_cats ad st
          have h1 : (Value.ref T.heap.size).category = 1 := rfl
          show 2 * 0 + ((Value.ref T.heap.size :: st.map (sd_v ad)).map fun v => v.category).sum + (13 * (names.length + 1) + 42) ≤ Y.2.2.2.2.2.1.locals
          simp only [List.map_cons, List.sum_cons, h1, hcat]
          omega) hC.2.1
      obtain ⟨f1, f2⟩ := sd_same0 hsame
      rw [hhp] at f1 f2
      have hcl : s.vm.findClass cls = some ce.cls := by
        have h9 := hO.cls
        rw [hvm] at h9
        exact h9
      have hall : s.sameButNew ({ U with vm := s.vm } : State) locs Y.2.2.2.2.2.2.1 Y.2.2.2.2.2.2.2.1 := by
        subst hs'
        obtain ⟨e1, e2⟩ := hsame
        rw [State.setFrames_setFrames] at e1
        have h2 : (T.setVm s.vm).sameButNew ({ U with vm := s.vm } : State) [] (0 + 1) (0 + 6) := ⟨e1, e2⟩
        have h3 := X0.same.trans h2
        rw [List.append_nil] at h3
        exact h3.mono (by omega) (by omega)
      refine ⟨U, hsteps, .threw T.heap.size, hrun, hend, Or.inr ⟨T.heap.size, rfl, cls, M, ce, locs, k, hF _ _ (fun j hj => (hH j hj).kept (f2 _ (hH j hj).lt)), hce, hO.vm, hcl, ⟨Nat.le_trans hS.1 f1, fun q h1 h2 => ?_⟩, State.WarmedH.trans hW0 hWm, hall, hS.2.2⟩⟩
      rw [show U.heap[q]? = T.heap[q]? from f2 q (Nat.lt_of_lt_of_le h1 hS.1)]
      exact hS.2.1 q h1 h2
    rcases d4 with ⟨d4, rfl⟩ | ⟨d4, rfl⟩
    · exact va_ldcS hC.1.1 hC.1.2.1 hown' hsa d4 fin
    · intro T2 hT2 X2
      obtain ⟨t, a1, b1⟩ := fin T2 hT2 X2
      exact ⟨t, X2.ldcStringW hC.1.1 hown' (text := text) (a := sa) hsa.1 hsa.2 (g := F0 m (pc + 4) ls (.ref T.heap.size :: .ref T.heap.size :: st.map (sd_v ad))) rfl (by rw [hC.1.2.1]; exact d4) t a1, b1⟩
  exact hres T rfl Z
end
