/-! cells that are made: worlds that grow -/
def sd_loc (n : Nat) (L : Nat → sdL) : Prop := ∀ k, k < n → ∀ (a a' : Nat → Nat) (f : Nat → Int32), (∀ t, t < n → a t = a' t) → L k a f = L k a' f
def sd_up (n : Nat) (L : Nat → sdL) (n2 : Nat) (L2 : Nat → sdL) : Prop := n ≤ n2 ∧ ∀ k, k < n → L2 k = L k
theorem sd_up.trans {n n2 n3 : Nat} {L L2 L3 : Nat → sdL} (h : sd_up n L n2 L2) (h2 : sd_up n2 L2 n3 L3) : sd_up n L n3 L3 := ⟨Nat.le_trans h.1 h2.1, fun k hk => (h2.2 k (Nat.lt_of_lt_of_le hk h.1)).trans (h.2 k hk)⟩
def sd_bel (n : Nat) (v : Value) : Prop := ∀ k, v = .ref k → k < n
theorem sd_bel_i {n : Nat} {x : Int32} : sd_bel n (.int x) := fun _ h => nomatch h
theorem sd_bel_r {n k : Nat} (h : k < n) : sd_bel n (.ref k) := fun _ e => by cases e; exact h
theorem sd_v_ext {n : Nat} {ad ad2 : Nat → Nat} (h : ∀ k, k < n → ad2 k = ad k) {v : Value} (hv : sd_bel n v) : sd_v ad2 v = sd_v ad v := by
  cases v with
  | ref k => show Value.ref (ad2 k) = Value.ref (ad k); rw [h k (hv k rfl)]
  | _ => rfl
theorem sd_map_ext {n : Nat} {ad ad2 : Nat → Nat} (h : ∀ k, k < n → ad2 k = ad k) {l : List Value} (hl : ∀ v ∈ l, sd_bel n v) : l.map (sd_v ad2) = l.map (sd_v ad) := List.map_congr_left (fun v hv => sd_v_ext h (hl v hv))
theorem sd_l_ext {n : Nat} {ad ad2 : Nat → Nat} (h : ∀ k, k < n → ad2 k = ad k) {l : List (Nat × Value)} (hl : ∀ q ∈ l, sd_bel n q.2) : sd_l ad2 l = sd_l ad l := List.map_congr_left (fun q hq => by rw [sd_v_ext h (hl q hq)])
theorem sd_H.down {D : va_G} {cl : List vw_C} {n n2 : Nat} {ad ad2 : Nat → Nat} {L L2 : Nat → sdL} {M : sdM} {H : Heap} (hloc : sd_loc n L) (hu : sd_up n L n2 L2) (ha : ∀ k, k < n → ad2 k = ad k) (h : sd_H D cl n2 ad2 L2 M H) : sd_H D cl n ad L M H := fun k hk => by
  have h1 := h k (Nat.lt_of_lt_of_le hk hu.1)
  rw [ha k hk, hu.2 k hk, hloc k hk ad2 ad (M k) (fun t ht => ha t ht)] at h1
  exact h1
/-- a new cell behind the others -/
theorem sd_grow {D : va_G} {cl : List vw_C} {b n q : Nat} {ad : Nat → Nat} {L : Nat → sdL} {M : sdM} {H1 : Heap} {ly : sdL} {f : Nat → Int32} {e : va_E} (hloc : sd_loc n L) (hly : ∀ a f, ly a f = ly ad f) (he : e = ly ad f) (hP : va_P D cl (sd_G n ad L M ++ [(q, e)]) H1) (hD : va_D (sd_A b) (sd_G n ad L M ++ [(q, e)])) :
    sd_H D cl (n + 1) (va_up ad n q) (va_up L n ly) (va_up M n f) H1 ∧ sd_ad b (n + 1) (va_up ad n q) ∧ sd_loc (n + 1) (va_up L n ly) ∧ sd_up n L (n + 1) (va_up L n ly) ∧ ∀ k, k < n → va_up ad n q k = ad k := by
  have hne : ∀ k, k < n → k ≠ n := fun k hk => Nat.ne_of_lt hk
  have had : ∀ k, k < n → va_up ad n q k = ad k := fun k hk => va_up_ne ad q (hne k hk)
  have old : ∀ k, k < n → (sd_G n ad L M ++ [(q, e)])[k]? = some (ad k, L k ad (M k)) := fun k hk => by rw [List.getElem?_append_left (by rw [sd_G_len]; exact hk), sd_G_get hk]
  have new : (sd_G n ad L M ++ [(q, e)])[n]? = some (q, e) := by rw [List.getElem?_append_right (by rw [sd_G_len]; exact Nat.le_refl _), sd_G_len, Nat.sub_self]; rfl
  have both : ∀ k, k < n + 1 → ∃ x : va_E, (sd_G n ad L M ++ [(q, e)])[k]? = some (va_up ad n q k, x) := fun k hk => by
    by_cases h : k = n
    · subst h; exact ⟨e, by rw [va_up_self]; exact new⟩
    · exact ⟨_, by rw [had k (by omega)]; exact old k (by omega)⟩
  refine ⟨fun k hk => ?_, ⟨fun i j hi hj hij => ?_, fun k hk => ?_⟩, fun k hk a a' f9 h => ?_, ⟨Nat.le_succ n, fun k hk => va_up_ne L ly (hne k hk)⟩, had⟩
  · by_cases h : k = n
    · subst h
      rw [va_up_self, va_up_self, va_up_self, hly, ← he]
      exact hP _ _ new
    · have hk2 : k < n := by omega
      rw [had k hk2, va_up_ne L ly h, va_up_ne M f h, hloc k hk2 (va_up ad n q) ad (M k) (fun t ht => had t ht)]
      exact hP _ _ (old k hk2)
  · obtain ⟨x, hx⟩ := both i hi
    obtain ⟨y, hy⟩ := both j hj
    exact hD.1 i j _ _ hx hy hij
  · obtain ⟨x, hx⟩ := both k hk
    exact hD.2 k _ hx
  · by_cases h9 : k = n
    · subst h9
      rw [va_up_self, hly, hly a']
    · rw [va_up_ne L ly h9]
      exact hloc k (by omega) a a' f9 (fun t ht => h t (by omega))
/-- the fields of a new object hold no reference -/
def sd_noref (fs : List (Option (Option Nat))) : Prop := ∀ q ∈ fs, ∀ t, q ≠ some (some t)
theorem sd_fv_noref {ad ad2 : Nat → Nat} {f : Nat → Int32} : ∀ (fs : List (Option (Option Nat))) (i : Nat), sd_noref fs → sd_fv ad f i fs = sd_fv ad2 f i fs
  | [], i, h => rfl
  | q :: r, i, h => by
    simp only [sd_fv]
    rw [sd_fv_noref (ad := ad) (ad2 := ad2) r (i + 1) (fun x hx => h x (List.mem_cons_of_mem _ hx))]
    have h1 : sd_fx ad (f i) q = sd_fx ad2 (f i) q := by
      cases q with
      | none => rfl
      | some q => cases q with
        | none => rfl
        | some t => exact absurd rfl (h _ List.mem_cons_self t)
    rw [h1]
section
variable {l : Launch} {E : sdE} {Y : sdY} {D : va_G} {tys : List (ClassId × FieldType)} {b n : Nat} {ad : Nat → Nat} {L : Nat → sdL} {aF : Nat → Nat} {F : sdM → Heap → Prop} {Q : Option Value → sdM → Prop} {X : String → sdM → Prop}
variable {pc : Nat} {loc : List (Nat × Value)} {st : List Value} {M : sdM} {rc rs : Nat}
theorem x_objInit {t idx : Nat} (d : decode Y.2.1 pc = .ok (.invokespecial idx, 3)) (h1 : Cond.methodLink Y.1 idx Lib.objectInit ∈ Y.2.2.2.2.1) (h2 : Cond.instanceMethod Lib.objectInit ∈ Y.2.2.2.2.1) (h3 : Cond.code Lib.objectInit ⟨#[0xb1]⟩ 1 none ∈ Y.2.2.2.2.1) (hR1 : 1 ≤ Y.2.2.2.2.2.1.frames) (hR2 : (st.map fun v => v.category).sum + 12 ≤ Y.2.2.2.2.2.1.locals)
    (k : sdW l E Y D tys b n ad L aF F Q X (pc + 3) loc st M rc rs) : sdW l E Y D tys b n ad L aF F Q X pc loc (.ref t :: st) M rc rs := by
  intro p e s m args below meth c H locs ls cells slots hC hK hH hS hl hc hs
  refine W.objInit (a := ad t) (rest := st.map (sd_v ad)) hC.1.1 hC.1.2.1 hC.1.2.2.2.1 (hC.1.2.2.2.2 _ h1) (hC.1.2.2.2.2 _ h2) (hC.1.2.2.2.2 _ h3) rfl (hl.1.trans hC.1.2.2.1.symm) rfl d hR1 (by rw [sd_cats]; show 2 * 0 + _ + 12 ≤ _; omega) ?_
  exact k p e s m args below meth c H locs ls cells slots hC hK hH hS hl hc hs
theorem x_new {ci N idx : Nat} {C : String} {T : u_T} (fs : List (Option (Option Nat))) (hA : sd_ad b n ad) (hloc : sd_loc n L) (hb1 : ∀ q ∈ loc, sd_bel n q.2) (hb2 : ∀ v ∈ st, sd_bel n v) (d : decode Y.2.1 pc = .ok (.new idx, 3)) (hc9 : E.1[ci]? = some (C, T, N)) (ty : Nat → FieldType) (hty : ∀ k, k < N → parseFieldDescriptor (T k).2.2.1 = some (ty k)) (hin : ∀ w ∈ u_ws C T N, w ∈ Y.2.2.2.2.1)
    (h1 : Cond.classLink Y.1 idx C ∈ Y.2.2.2.2.1) (h2 : Cond.instantiable C N ∈ Y.2.2.2.2.1) (h3 : Cond.initialized C ∈ Y.2.2.2.2.1) (hnr : sd_noref fs) (hfs : ∀ j, j < N → defaultValue (ty j) = vp_V (sd_fv (fun _ => 0) (fun _ => 0) 0 fs) j) (hR3 : Y.2.2.2.2.2.1.cells = Y.2.2.2.2.2.2.1) (hR4 : Y.2.2.2.2.2.1.slots = Y.2.2.2.2.2.2.2.1)
    (k : ∀ (ad2 : Nat → Nat) (L2 : Nat → sdL) (M2 : sdM), sd_ad b (n + 1) ad2 → sd_loc (n + 1) L2 → sd_up n L (n + 1) L2 → L2 n = sd_O ci fs → (∀ k, k < n → ad2 k = ad k) → M2 = va_up M n (fun _ => 0) → sdW l E Y D tys b (n + 1) ad2 L2 aF F Q X (pc + 3) loc (.ref n :: st) M2 rc rs) : sdW l E Y D tys b n ad L aF F Q X pc loc st M (rc + 1) (rs + N) := by
  intro p e s m args below meth c H locs ls cells slots hC hK hH hS hl hc hs
  refine va_new (ci := ci) (fs := sd_fv ad (fun _ => 0) 0 fs) hC.1.1 hC.1.2.1 hC.1.2.2.2.2 hin ty hty hC.1.2.2.2.1 (hC.1.2.2.2.2 _ h1) (hC.1.2.2.2.2 _ h2) (hC.1.2.2.2.2 _ h3) hK.1 hH.toP hA.toD hS (fun q h => Nat.le_trans hK.2.2.2.2.1 h) hc9 (by rw [sd_fv_noref (ad2 := fun _ => 0) fs 0 hnr]; exact hfs) (by rw [hR3]; omega) (by rw [hR4]; omega) d (fun q H1 hP1 hD1 hS1 => ?_)
  obtain ⟨g1, g2, g3, g4, g5⟩ := sd_grow (ly := sd_O ci fs) (f := fun _ => 0) hloc (fun a f => by show Sum.inr (ci, sd_fv a f 0 fs) = Sum.inr (ci, sd_fv ad f 0 fs); rw [sd_fv_noref (ad := a) (ad2 := ad) fs 0 hnr]) rfl hP1 hD1
  have key := k _ _ _ g2 g3 g4 (va_up_self _ _ _) g5 rfl p e s m args below meth c H1 locs ls (cells + 1) (slots + N) hC hK g1 hS1 (by rw [sd_l_ext g5 hb1]; exact hl) (by omega) (by omega)
  have hst : List.map (sd_v (va_up ad n q)) (.ref n :: st) = .ref q :: st.map (sd_v ad) := by
    rw [List.map_cons, sd_map_ext g5 hb2]
    show Value.ref (va_up ad n q n) :: _ = _
    rw [va_up_self]
  rw [hst] at key
  exact key
/-- a final field of the object that is being made gets a reference -/
theorem x_putr (j u : Nat) {t ci N : Nat} {fs : List (Option (Option Nat))} {C ref : String} {T : u_T} {idx : Nat} {ty : FieldType} (hA : sd_ad b n ad) (hi9 : ∀ (s : State) (m : MethodId) (meth : Method) (c : Code) (args : Array Value) (p : Program), sd_C Y p s m args meth c → meth.name = "<init>") (d : decode Y.2.1 pc = .ok (.putfield idx, 3)) (hn : t < n) (hL : L t = sd_O ci fs) (hj : j < fs.length) (hc9 : E.1[ci]? = some (C, T, N)) (hN : j < N) (hin : ∀ w ∈ u_ws C T N, w ∈ Y.2.2.2.2.1) (hlk : Cond.fieldLink Y.1 idx ref (T j).2.1 (T j).2.2.1 ∈ Y.2.2.2.2.1) (href : ref = (T j).1)
    (ty0 : Nat → FieldType) (hty : ∀ k, k < N → parseFieldDescriptor (T k).2.2.1 = some (ty0 k)) (hnm : ∀ a, a < N → ∀ b, b < N → a ≠ b → (T a).2.1 ≠ (T b).2.1) (hfin : (T j).2.2.2 = true) (hdecl : (T j).1 = Y.1) (hd : parseFieldDescriptor (T j).2.2.1 = some ty) (hnr : narrow ty (.ref (ad u)) = .ref (ad u)) (hft : fits ty (.ref (ad u)) = true)
    (k : sdW l E Y D tys b n ad (va_up L t (sd_O ci (fs.set j (some (some u))))) aF F Q X (pc + 3) loc st M rc rs) : sdW l E Y D tys b n ad L aF F Q X pc loc (.ref u :: .ref t :: st) M rc rs := by
  intro p e s m args below meth c H locs ls cells slots hC hK hH hS hl hc hs
  subst href
  have hG : (sd_G n ad L M)[t]? = some (ad t, .inr (ci, sd_fv ad (M t) 0 fs)) := by rw [sd_G_get hn, hL]; rfl
  refine va_putF (v := .ref (ad u)) hC.1.1 hC.1.2.1 hC.1.2.2.2.2 hin ty0 hty hnm hC.1.2.2.2.1 hK.1 hH.toP hA.toD hS t hG hc9 j hN (hC.1.2.2.2.2 _ hlk) (fun _ h => h) hfin (hi9 s m meth c args p hC) hdecl hd hnr hft (by rw [sd_fv_len]; exact hj) d (fun H1 locs1 hP1 _ hS1 => ?_)
  have hset : (sd_G n ad L M).set t (ad t, .inr (ci, (sd_fv ad (M t) 0 fs).set j (.ref (ad u)))) = sd_G n ad (va_up L t (sd_O ci (fs.set j (some (some u))))) M := by
    apply List.ext_getElem?
    intro i
    by_cases hi : i = t
    · subst hi
      rw [List.getElem?_set_self (by rw [sd_G_len]; exact hn), sd_G_get hn, va_up_self, sd_fv_setr]
      rfl
    · rw [List.getElem?_set_ne (Ne.symm hi)]
      by_cases h : i < n
      · rw [sd_G_get h, sd_G_get h, va_up_ne L _ hi]
      · rw [List.getElem?_eq_none (by rw [sd_G_len]; omega), List.getElem?_eq_none (by rw [sd_G_len]; omega)]
  rw [hset] at hP1
  exact k p e s m args below meth c H1 locs1 ls cells slots hC hK (sd_H.ofP hP1) hS1 hl hc hs
set_option maxHeartbeats 1000000 in
/-- a call of a constructor, that may leave another world -/
theorem x_callIg {Y' : sdY} {y : MethodName} {idx na t : Nat} {host : String} {As rest st0 : List Value} {F' : sdM → Heap → Prop} {Q' : Option Value → sdM → Prop} {X' : String → sdM → Prop}
    (hCn : sd_CnF l E y Y'.2.2.2.2.1 Y'.2.2.2.2.2.1 Y'.2.2.2.2.2.2.1 Y'.2.2.2.2.2.2.2.1 D tys b n ad L M (.ref t :: As) F' Q' X')
    (gws : GoodIn Y.2.2.2.2.1 Y'.2.2.2.2.1) (g2 : ∃ ws', Y'.2.2.2.2.1 = Cond.code y Y'.2.1 Y'.2.2.1 none :: ws') (hin9 : Cond.initialized y.cls ∈ Y.2.2.2.2.1) (him : Cond.instanceMethod y ∈ Y.2.2.2.2.1) (hlk : Cond.methodLink Y.1 idx y ∈ Y.2.2.2.2.1 ∨ Cond.methodLinkNest Y.1 idx y host ∈ E.2.1)
    (g7 : y.name = "<init>" ∧ y.cls ≠ "java/lang/invoke/MethodHandle" ∧ y.cls ≠ "java/lang/invoke/VarHandle" ∧ (parseMethodDescriptor y.desc).map (fun d => d.parameters.length) = some na)
    (g3 : Y'.2.2.2.2.2.1.cells = Y'.2.2.2.2.2.2.1 ∧ Y'.2.2.2.2.2.1.slots = Y'.2.2.2.2.2.2.2.1 ∧ Y.2.2.2.2.2.1.cells = Y.2.2.2.2.2.2.1 ∧ Y.2.2.2.2.2.1.slots = Y.2.2.2.2.2.2.2.1) (g8 : Y'.2.2.2.2.2.1.frames + 1 ≤ Y.2.2.2.2.2.1.frames ∧ 8 + (Y'.2.2.1 + 11) + Y'.2.2.2.2.2.1.locals ≤ Y.2.2.2.2.2.1.locals)
    (d : decode Y.2.1 pc = .ok (.invokespecial idx, 3)) (hna : As.length = na) (hst : st0 = As.reverse ++ .ref t :: rest) (hcat : (rest.map fun v => v.category).sum ≤ 8) (hX : ∀ E' M', X' E' M' → False)
    (k : ∀ (v : Option Value) (M' : sdM) (H1 : Heap), Q' v M' → F' M' H1 → v = none ∧ ∃ (n2 : Nat) (ad2 : Nat → Nat) (L2 : Nat → sdL), sd_H D E.1 n2 ad2 L2 M' H1 ∧ sd_l ad2 loc = sd_l ad loc ∧ rest.map (sd_v ad2) = rest.map (sd_v ad) ∧ sdW l E Y D tys b n2 ad2 L2 aF F Q X (pc + 3) loc rest M' rc rs) : sdW l E Y D tys b n ad L aF F Q X pc loc st0 M (rc + Y'.2.2.2.2.2.2.1) (rs + Y'.2.2.2.2.2.2.2.1) := by
  intro p e s m args below meth c H locs ls cells slots hC hK hH hS hl hc hs
  subst hst
  obtain ⟨ws', g2⟩ := g2
  obtain ⟨g3, g4, g5, g6⟩ := g3
  intro T hT X0
  subst hT
  obtain ⟨hy1, hy2, hy3, hy4⟩ := g7
  have hini : (Cond.initialized y.cls).before args s = true := hC.1.2.2.2.2 _ hin9
  have hinst : (Cond.instanceMethod y).before args s = true := hC.1.2.2.2.2 _ him
  have hcode : (Cond.code y Y'.2.1 Y'.2.2.1 none).before args s = true := hC.1.2.2.2.2 _ (gws _ (by rw [g2]; exact List.mem_cons_self)).1
  have hpl : e.platform.magicAccessors = ({} : Platform).magicAccessors := by rw [X0.admits.platform]
  have hlen : ∀ sig, parseMethodDescriptor y.desc = some sig → (As.map (sd_v ad)).length = sig.parameters.length := fun sig h => by
    rw [h] at hy4
    rw [List.length_map, hna]
    exact (Option.some.inj hy4).symm
  have hstk : (F0 m pc ls ((As.reverse ++ .ref t :: rest).map (sd_v ad))).stack = (As.map (sd_v ad)).reverse ++ .ref (ad t) :: rest.map (sd_v ad) := by
    show List.map (sd_v ad) (As.reverse ++ .ref t :: rest) = _
    simp [List.map_append, List.map_reverse, sd_v]
  have hstep : ∃ (mk : MethodId) (vm₁ : Vm), s.methodNamed? y = some mk ∧ s.WarmedH vm₁ ∧ ∀ target, (∀ acts, Steps p.tables e below (doInvoke e ((T.setVm vm₁).setTop { F0 m pc ls ((As.reverse ++ .ref t :: rest).map (sd_v ad)) with stack := rest.map (sd_v ad) }) acts mk (Value.ref (ad t) :: As.map (sd_v ad)).toArray).1 target) → Steps p.tables e below (T.setTop (F0 m pc ls ((As.reverse ++ .ref t :: rest).map (sd_v ad)))) target := by
    rcases hlk with hlk | hlk
    · obtain ⟨mk, methM, cM, kP, vm₁, hnamed, hmethM, hcodeM, -, hlocalsM, -, hkP, -, hW₁, hstep₁⟩ := Steps.initColdArgs (e := e) (f := F0 m pc ls ((As.reverse ++ .ref t :: rest).map (sd_v ad))) X0.here hC.1.1 X0.warmed hpl hC.1.2.2.2.1 hy1 ⟨hy2, hy3⟩ (hC.1.2.2.2.2 _ hlk) hinst hcode rfl hlen hstk (by rw [hC.1.2.1]; exact d)
      exact ⟨mk, vm₁, hnamed, hW₁, hstep₁⟩
    · obtain ⟨mk, methM, cM, kP, vm₁, hnamed, hmethM, hcodeM, -, hlocalsM, -, hkP, -, hW₁, hstep₁⟩ := Steps.initColdArgsNest (e := e) (f := F0 m pc ls ((As.reverse ++ .ref t :: rest).map (sd_v ad))) X0.here hC.1.1 X0.warmed hpl hC.1.2.2.2.1 hy1 ⟨hy2, hy3⟩ ((hK.2.1 _ hlk).2.1 _ _ _ (hK.2.1 _ hlk).1) hinst hcode rfl hlen hstk (by rw [hC.1.2.1]; exact d)
      exact ⟨mk, vm₁, hnamed, hW₁, hstep₁⟩
  obtain ⟨mk, vm₁, hnamed, hW₁, st1⟩ := hstep
  have X₁ := X0.noted hW₁
  rcases sd_pay (g := { F0 m pc ls ((As.reverse ++ .ref t :: rest).map (sd_v ad)) with stack := rest.map (sd_v ad) }) (a := (Value.ref (ad t) :: As.map (sd_v ad)).toArray) hCn X₁ rfl (hl.1.trans hC.1.2.2.1.symm) (by rw [hC.1.2.1]; exact d) (X₁.named hnamed) (fun w hw => pay_in hC.1.2.2.2.2 gws w hw _ _ X₁.warmed) (pay_in hC.1.2.2.2.2 gws _ (by rw [g2]; exact List.mem_cons_self) _ _ X₁.warmed) (word_at X₁.warmed (Or.inl rfl) hini) g3 g4 g8.1 g8.2 (lv_room (rest := rest.map (sd_v ad)) (by rw [sd_cats]; exact hcat)) (by rw [g5]; omega) (by rw [g6]; omega) ⟨rfl, (hK.move X₁.warmed rfl hS).call, hH⟩ with ⟨v, M', T', L', St', hq, hF', hfr, hL', hst'⟩ | ⟨q, E', M', ce, T', L', St', hx, hF', hce, hcv, hcl, hfr, hL', hst'⟩
  · obtain ⟨rfl, n2, ad2, L2, hH2, e1, e2, k2⟩ := k v M' T'.heap hq hF'
    obtain ⟨t2, a1, b1⟩ := k2 p e s m args below meth c T'.heap (locs ++ L') ls (cells + Y'.2.2.2.2.2.2.1) (slots + Y'.2.2.2.2.2.2.2.1) hC hK hH2 (sd_S_next hS hfr hL') (by rw [e1]; exact hl) (by omega) (by omega) T' rfl St'
    refine ⟨t2, st1 _ (fun acts => ?_), b1⟩
    rw [doInvoke_state]
    rw [e2] at a1
    exact hst'.trans a1
  · exact (hX _ _ hx).elim
/-- the same, where the world stays but for the memory and the layout L2 -/
theorem x_callIv {Y' : sdY} {y : MethodName} {idx na t : Nat} {host : String} {As rest st0 : List Value} {L2 : Nat → sdL} {Q0 : sdM → Prop}
    (hCn : sd_CnF l E y Y'.2.2.2.2.1 Y'.2.2.2.2.2.1 Y'.2.2.2.2.2.2.1 Y'.2.2.2.2.2.2.2.1 D tys b n ad L M (.ref t :: As) (sd_H D E.1 n ad L2) (sd_qv Q0) sd_xf)
    (gws : GoodIn Y.2.2.2.2.1 Y'.2.2.2.2.1) (g2 : ∃ ws', Y'.2.2.2.2.1 = Cond.code y Y'.2.1 Y'.2.2.1 none :: ws') (hin9 : Cond.initialized y.cls ∈ Y.2.2.2.2.1) (him : Cond.instanceMethod y ∈ Y.2.2.2.2.1) (hlk : Cond.methodLink Y.1 idx y ∈ Y.2.2.2.2.1 ∨ Cond.methodLinkNest Y.1 idx y host ∈ E.2.1)
    (g7 : y.name = "<init>" ∧ y.cls ≠ "java/lang/invoke/MethodHandle" ∧ y.cls ≠ "java/lang/invoke/VarHandle" ∧ (parseMethodDescriptor y.desc).map (fun d => d.parameters.length) = some na)
    (g3 : Y'.2.2.2.2.2.1.cells = Y'.2.2.2.2.2.2.1 ∧ Y'.2.2.2.2.2.1.slots = Y'.2.2.2.2.2.2.2.1 ∧ Y.2.2.2.2.2.1.cells = Y.2.2.2.2.2.2.1 ∧ Y.2.2.2.2.2.1.slots = Y.2.2.2.2.2.2.2.1) (g8 : Y'.2.2.2.2.2.1.frames + 1 ≤ Y.2.2.2.2.2.1.frames ∧ 8 + (Y'.2.2.1 + 11) + Y'.2.2.2.2.2.1.locals ≤ Y.2.2.2.2.2.1.locals)
    (d : decode Y.2.1 pc = .ok (.invokespecial idx, 3)) (hna : As.length = na) (hst : st0 = As.reverse ++ .ref t :: rest) (hcat : (rest.map fun v => v.category).sum ≤ 8)
    (k : ∀ (M' : sdM), Q0 M' → sdW l E Y D tys b n ad L2 aF F Q X (pc + 3) loc rest M' rc rs) : sdW l E Y D tys b n ad L aF F Q X pc loc st0 M (rc + Y'.2.2.2.2.2.2.1) (rs + Y'.2.2.2.2.2.2.2.1) :=
  x_callIg hCn gws g2 hin9 him hlk g7 g3 g8 d hna hst hcat (fun _ _ h => h) (fun v M' H1 hq hF' => ⟨hq.1, n, ad, L2, hF', rfl, rfl, k M' hq.2⟩)
end
