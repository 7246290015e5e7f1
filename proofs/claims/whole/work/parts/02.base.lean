/-! memory (cell, slot), layouts of cells, the world of all cells at addresses ad; names of ours begin with sd -/
abbrev sdM : Type := Nat → Nat → Int32
abbrev sdL : Type := (Nat → Nat) → (Nat → Int32) → va_E
def sd_I (c : ClassId) (n : Nat) : sdL := fun _ f => .inl (c, n, .inl f)
def sd_Q (c : ClassId) (n : Nat) (g : Nat → Nat) : sdL := fun ad _ => .inl (c, n, .inr (.inr (.inr (.inr (fun j => if j < n then some (ad (g j)) else none)))))
def sd_J (c : ClassId) (n : Nat) : sdL := fun _ f => .inl (c, n, .inr (.inl (fun j => (f j).toInt64)))
def sd_fx (ad : Nat → Nat) (x : Int32) : Option (Option Nat) → Value
  | none => .int x
  | some none => .null
  | some (some t) => .ref (ad t)
def sd_fv (ad : Nat → Nat) (f : Nat → Int32) : Nat → List (Option (Option Nat)) → List Value
  | _, [] => []
  | j, q :: r => sd_fx ad (f j) q :: sd_fv ad f (j + 1) r
def sd_O (ci : Nat) (fs : List (Option (Option Nat))) : sdL := fun ad f => .inr (ci, sd_fv ad f 0 fs)
theorem sd_fv_at {ad : Nat → Nat} {f : Nat → Int32} {q : Option (Option Nat)} : ∀ (fs : List (Option (Option Nat))) (i j : Nat), fs[j]? = some q → (sd_fv ad f i fs)[j]? = some (sd_fx ad (f (i + j)) q)
  | [], i, j, h => by simp at h
  | a :: r, i, 0, h => by
    simp at h
    subst h
    simp [sd_fv]
  | a :: r, i, j + 1, h => by
    rw [List.getElem?_cons_succ] at h
    have h2 := sd_fv_at (ad := ad) (f := f) r (i + 1) j h
    simp only [sd_fv, List.getElem?_cons_succ]
    rw [h2, show i + 1 + j = i + (j + 1) by omega]
theorem sd_fv_len {ad : Nat → Nat} {f : Nat → Int32} : ∀ (fs : List (Option (Option Nat))) (i : Nat), (sd_fv ad f i fs).length = fs.length
  | [], i => rfl
  | a :: r, i => by simp only [sd_fv, List.length_cons, sd_fv_len r (i + 1)]
theorem sd_fv_congr {ad : Nat → Nat} {f g : Nat → Int32} : ∀ (fs : List (Option (Option Nat))) (i : Nat), (∀ k, i ≤ k → f k = g k) → sd_fv ad f i fs = sd_fv ad g i fs
  | [], i, h => rfl
  | a :: r, i, h => by
    simp only [sd_fv]
    rw [h i (Nat.le_refl _), sd_fv_congr r (i + 1) (fun k hk => h k (by omega))]
theorem sd_fv_set {ad : Nat → Nat} {f : Nat → Int32} {x : Int32} : ∀ (fs : List (Option (Option Nat))) (i j : Nat), fs[j]? = some none → (sd_fv ad f i fs).set j (.int x) = sd_fv ad (upd f (i + j) x) i fs
  | [], i, j, h => by simp at h
  | a :: r, i, 0, h => by
    simp at h
    subst h
    simp only [sd_fv, List.set_cons_zero, Nat.add_zero]
    rw [pk_us, sd_fv_congr (f := f) (g := upd f i x) r (i + 1) (fun k hk => (pk_un (by omega)).symm)]
    rfl
  | a :: r, i, j + 1, h => by
    rw [List.getElem?_cons_succ] at h
    simp only [sd_fv, List.set_cons_succ]
    rw [sd_fv_set r (i + 1) j h, show i + 1 + j = i + (j + 1) by omega, pk_un (show i ≠ i + (j + 1) by omega)]
theorem sd_fv_setr {ad : Nat → Nat} {f : Nat → Int32} {u : Nat} : ∀ (fs : List (Option (Option Nat))) (i j : Nat), (sd_fv ad f i fs).set j (.ref (ad u)) = sd_fv ad f i (fs.set j (some (some u)))
  | [], i, j => by simp [sd_fv]
  | a :: r, i, 0 => by
    simp only [sd_fv, List.set_cons_zero]
    rfl
  | a :: r, i, j + 1 => by
    simp only [sd_fv, List.set_cons_succ]
    rw [sd_fv_setr r (i + 1) j]
/-- a value whose references are cells' numbers, as the machine has it -/
def sd_v (ad : Nat → Nat) : Value → Value
  | .ref k => .ref (ad k)
  | .retAddr a => .ref a
  | v => v
theorem sd_v_cat (ad : Nat → Nat) (v : Value) : (sd_v ad v).category = v.category := by cases v <;> rfl
def sd_l (ad : Nat → Nat) (loc : List (Nat × Value)) : List (Nat × Value) := loc.map (fun q => (q.1, sd_v ad q.2))
theorem sd_l_get {ad : Nat → Nat} {loc : List (Nat × Value)} {j i : Nat} {v : Value} (h : loc[j]? = some (i, v)) : (sd_l ad loc)[j]? = some (i, sd_v ad v) := by
  rw [sd_l, List.getElem?_map, h]; rfl
theorem sd_l_flt {ad : Nat → Nat} {i : Nat} : ∀ (loc : List (Nat × Value)), (sd_l ad loc).filter (fun q => !(q.1 == i) && !(q.1 + 1 == i && q.2.category == 2)) = sd_l ad (loc.filter (fun q => !(q.1 == i) && !(q.1 + 1 == i && q.2.category == 2)))
  | [] => rfl
  | (a, v) :: r => by
    have h := sd_l_flt (ad := ad) (i := i) r
    simp only [sd_l, List.map_cons, List.filter_cons, sd_v_cat] at h ⊢
    split <;> simp only [List.map_cons, h]
def sd_A (b : Nat) : Nat → Prop := fun q => b ≤ q
/-- cells 0 .. n-1 lie at the addresses ad, laid out by L, with the numbers M -/
def sd_H (D : va_G) (cl : List vw_C) (n : Nat) (ad : Nat → Nat) (L : Nat → sdL) (M : sdM) (H : Heap) : Prop := ∀ k, k < n → va_at D cl (ad k, L k ad (M k)) H
def sd_ad (b n : Nat) (ad : Nat → Nat) : Prop := (∀ i j, i < n → j < n → ad i = ad j → i = j) ∧ ∀ k, k < n → b ≤ ad k
def sd_G (n : Nat) (ad : Nat → Nat) (L : Nat → sdL) (M : sdM) : va_W := (List.range n).map (fun k => (ad k, L k ad (M k)))
theorem sd_G_get {n k : Nat} {ad : Nat → Nat} {L : Nat → sdL} {M : sdM} (h : k < n) : (sd_G n ad L M)[k]? = some (ad k, L k ad (M k)) := by
  simp [sd_G, List.getElem?_map, List.getElem?_range h]
theorem sd_G_len {n : Nat} {ad : Nat → Nat} {L : Nat → sdL} {M : sdM} : (sd_G n ad L M).length = n := by simp [sd_G]
theorem sd_G_lt {n k : Nat} {ad : Nat → Nat} {L : Nat → sdL} {M : sdM} {q : Nat × va_E} (h : (sd_G n ad L M)[k]? = some q) : k < n ∧ q = (ad k, L k ad (M k)) := by
  have h1 : k < n := by have := (List.getElem?_eq_some_iff.mp h).1; rwa [sd_G_len] at this
  rw [sd_G_get h1] at h
  exact ⟨h1, (Option.some.inj h).symm⟩
theorem sd_H.toP {D : va_G} {cl : List vw_C} {n : Nat} {ad : Nat → Nat} {L : Nat → sdL} {M : sdM} {H : Heap} (h : sd_H D cl n ad L M H) : va_P D cl (sd_G n ad L M) H := fun k q hk => by
  obtain ⟨h1, rfl⟩ := sd_G_lt hk
  exact h k h1
theorem sd_H.ofP {D : va_G} {cl : List vw_C} {n : Nat} {ad : Nat → Nat} {L : Nat → sdL} {M : sdM} {H : Heap} (h : va_P D cl (sd_G n ad L M) H) : sd_H D cl n ad L M H := fun k hk => h k _ (sd_G_get hk)
theorem sd_ad.toD {b n : Nat} {ad : Nat → Nat} {L : Nat → sdL} {M : sdM} (h : sd_ad b n ad) : va_D (sd_A b) (sd_G n ad L M) := by
  refine ⟨fun i j p q hi hj e => ?_, fun k q hk => ?_⟩
  · obtain ⟨h1, rfl⟩ := sd_G_lt hi
    obtain ⟨h2, rfl⟩ := sd_G_lt hj
    exact h.1 i j h1 h2 e
  · obtain ⟨h1, rfl⟩ := sd_G_lt hk
    exact h.2 k h1
theorem sd_G_set {n k : Nat} {ad : Nat → Nat} {L : Nat → sdL} {M : sdM} {f : Nat → Int32} {e : va_E} (hk : k < n) (he : e = L k ad f) : (sd_G n ad L M).set k (ad k, e) = sd_G n ad L (va_up M k f) := by
  subst he
  apply List.ext_getElem?
  intro i
  by_cases hi : i = k
  · subst hi
    rw [List.getElem?_set_self (by rw [sd_G_len]; exact hk), sd_G_get hk, va_up_self]
  · rw [List.getElem?_set_ne (Ne.symm hi)]
    by_cases hn : i < n
    · rw [sd_G_get hn, sd_G_get hn, show va_up M k f i = M i from if_neg hi]
    · rw [List.getElem?_eq_none (by rw [sd_G_len]; omega), List.getElem?_eq_none (by rw [sd_G_len]; omega)]
/-- what the tables, and two static fields of Throwable, say at a state -/
abbrev sdE : Type := List vw_C × List Cond × List (String × Nat × String) × Option (Nat × Nat × (Nat → Int32))
/-- a static field of Throwable: where it lies (below b), and that it holds null or a reference -/
def sd_st (b : Nat) (nm d : String) (U : State) (H : Heap) : Prop := ∃ (c : ClassId) (k : Class) (i : Nat) (f : Field) (a : Nat) (cell : Cell) (v : Value), U.vm.findClass Bundle.tN = some c ∧ U.fieldFound? Bundle.tN nm d = some (c, k, i, f) ∧ f.isStatic = true ∧ k.statics = some a ∧ H[a]? = some cell ∧ cell.vm.isStatics = true ∧ cell.cls = c ∧ f.slot < cell.slots.size ∧ k.staticTypes[f.slot]? = some f.type ∧ cell.slots[f.slot]? = some v ∧ v.isRef = true ∧ a < b
theorem sd_st.go {b : Nat} {nm d : String} {u U : State} {H H1 : Heap} (hvm : u.vm.Alike U.vm) (hq : ∀ a : Nat, a < H.size → a < b → H1[a]? = H[a]?) (h : sd_st b nm d u H) : sd_st b nm d U H1 := by
  obtain ⟨c, k, i, f, a, cell, v, h1, h2, h3, h4, h5, h6, h7, h8, h9, h10, h11, h12⟩ := h
  obtain ⟨k', hi', he⟩ := State.fieldFound?_setVm hvm h2
  exact ⟨c, k', i, f, a, cell, v, by rw [hvm.findClass]; exact h1, hi', h3, by rw [he]; exact h4, by rw [hq a (Array.getElem?_eq_some_iff.mp h5).1 h12]; exact h5, h6, h7, h8, by rw [he]; exact h9, h10, h11, h12⟩
theorem sd_st.lays {b : Nat} {nm d : String} {U : State} {args : Array Value} (h : sd_st b nm d U U.heap) : (Cond.laysStatic Bundle.tN nm d).before args U = true := by
  obtain ⟨c, k, i, f, a, cell, v, h1, h2, h3, h4, h5, h6, h7, h8, h9, -⟩ := h
  show (Cond.laysStatic Bundle.tN nm d).holds args U none U [] = true
  exact Cond.laysStatic_of h1 h2 h3 h4 h5 h6 h7 h8 h9
theorem sd_st.ref {b : Nat} {nm d : String} {U : State} {args : Array Value} (h : sd_st b nm d U U.heap) : (Cond.isRef (.static Bundle.tN nm d)).before args U = true := by
  obtain ⟨c, k, i, f, a, cell, v, h1, h2, h3, h4, h5, h6, h7, h8, h9, h10, h11, -⟩ := h
  have he : (Term.static Bundle.tN nm d).eval args U none [] U = some v := by
    simp [Term.eval, State.fieldNamed?, h2, h3, h4, h5, h6, h10]
  simp only [Cond.before, Cond.holds, Cond.value, he]
  cases v <;> simp_all [Value.isRef]
/-- a word that stays while the tables warm -/
def sd_mv (w : Cond) : Prop := (∀ (A A9 : Array Value) (U : State), w.before A U = true → w.before A9 U = true) ∧ ∀ s U : State, s.WarmedH U.vm → va_Nw w s → va_Nw w U
/-- the four classes that the program throws: none is a kind of another -/
def sdEx4 : List String := ["java/lang/IllegalStateException", "java/lang/IndexOutOfBoundsException", "java/lang/IllegalArgumentException", "java/lang/UnsupportedOperationException"]
def sd_na (U : State) : Prop := ∀ A ∈ sdEx4, ∀ B ∈ sdEx4, A ≠ B → ∀ cA cB, U.vm.findClass A = some cA → U.vm.findClass B = some cB → U.vm.assignable cA cB = false
def sd_K (E : sdE) (D : va_G) (tys : List (ClassId × FieldType)) (b : Nat) (U : State) : Prop :=
  va_K D E.1 tys U ∧ (∀ w ∈ E.2.1, va_Nw w U ∧ sd_mv w) ∧ (∀ q ∈ E.2.2.1, ∃ sa, vk_R q.1 q.2.1 q.2.2 sa U) ∧
  (sd_st b "UNASSIGNED_STACK" Bundle.steD U U.heap ∧ sd_st b "SUPPRESSED_SENTINEL" Bundle.listD U U.heap) ∧ b ≤ U.heap.size ∧ (∀ q, E.2.2.2 = some q → va_X q.1 q.2.1 q.2.2 U U.heap ∧ q.1 < b) ∧ sd_na U
theorem sd_K.move {E : sdE} {D : va_G} {tys : List (ClassId × FieldType)} {b : Nat} {s U : State} {H : Heap} {locs : List Loc} (h : sd_K E D tys b s) (hW : s.WarmedH U.vm) (hH : U.heap = H) (hS : va_S (sd_A b) s.heap H locs) : sd_K E D tys b U := by
  obtain ⟨h1, h2, h3, h4, h6, h7, h10⟩ := h
  subst hH
  refine ⟨va_K.moved hW.alike h1, fun q hq => ⟨(h2 q hq).2.2 s U hW (h2 q hq).1, (h2 q hq).2⟩, fun q hq => ?_, ⟨h4.1.go hW.alike (fun a h8 h9 => hS.2.1 a h8 (fun z => absurd z (Nat.not_le.mpr h9))), h4.2.go hW.alike (fun a h8 h9 => hS.2.1 a h8 (fun z => absurd z (Nat.not_le.mpr h9)))⟩, Nat.le_trans h6 hS.1, fun q hq => ?_, fun A hA B hB hAB cA cB hcA hcB => by rw [hW.alike.findClass] at hcA hcB; rw [hW.alike.assignable]; exact h10 A hA B hB hAB cA cB hcA hcB⟩
  · obtain ⟨sa, h⟩ := h3 q hq
    exact ⟨sa, h.warm hW⟩
  · obtain ⟨g1, g2⟩ := h7 q hq
    exact ⟨va_X.moved hW.alike (g1.kept (hS.2.1 q.1 (Nat.lt_of_lt_of_le g2 h6) (fun z => absurd z (Nat.not_le.mpr g2)))), g2⟩
theorem sd_K.call {E : sdE} {D : va_G} {tys : List (ClassId × FieldType)} {b : Nat} {U : State} {g : JFrame} {mk : MethodId} {a : Array Value} (h : sd_K E D tys b U) : sd_K E D tys b (U.calling g mk a) :=
  h.move (H := U.heap) (locs := []) (State.WarmedH.refl U) rfl va_S.rf
/-- a method: its class, code, locals, answer, words, room, what it may make, and its handlers -/
abbrev sdY : Type := String × ByteArray × Nat × Option FieldType × List Cond × Room × Nat × Nat × List (Nat × Nat × Nat × Nat)
def sd_C (Y : sdY) (p : Program) (s : State) (m : MethodId) (args : Array Value) (meth : Method) (c : Code) : Prop :=
  CallFix p m c Y.2.1 Y.2.2.1 s args Y.2.2.2.2.1 Y.1 ∧ meth.locks = false ∧ meth.sig.returnType = Y.2.2.2.1 ∧ (c.exceptionTable.toList = tableOf Y.2.2.2.2.2.2.2.2) ∧ ∀ (y : MethodName) (bytes : ByteArray) (nL : Nat) (ret : Option FieldType) (ws' : List Cond), Y.2.2.2.2.1 = Cond.code y bytes nL ret :: ws' → meth.name = y.name
/-- an end: it returned with Q, or it threw an object of a class E with X; what was written lies from b on; at most mc cells of ms slots are new -/
def sd_R (b : Nat) (aF : Nat → Nat) (F : sdM → Heap → Prop) (Q : Option Value → sdM → Prop) : Array Value → State → Outcome → State → Prop := fun _ st o t => ∃ (v : Option Value) (M : sdM), o = .returned (v.map (sd_v aF)) ∧ Q v M ∧ F M t.heap ∧ va_F (sd_A b) st t
def sd_T (b : Nat) (F : sdM → Heap → Prop) (X : String → sdM → Prop) (mc ms : Nat) (st : State) (q : Addr) (t : State) : Prop :=
  ∃ (E : String) (M : sdM) (ce : Cell) (L : List Loc), X E M ∧ F M t.heap ∧ t.heap[q]? = some ce ∧ ce.vm = .none ∧ st.vm.findClass E = some ce.cls ∧ va_F (sd_A b) st t ∧ st.WarmedH t.vm ∧ st.sameButNew ({ t with vm := st.vm } : State) L mc ms ∧ ∀ z ∈ L, sd_A b z.base
def sd_End (b : Nat) (aF : Nat → Nat) (F : sdM → Heap → Prop) (Q : Option Value → sdM → Prop) (X : String → sdM → Prop) (mc ms : Nat) : Array Value → State → Outcome → State → Prop := fun a st o t =>
  (sd_R b aF F Q a st o t ∧ ∃ L, FrameEnd st o t L mc ms ∧ ∀ z ∈ L, sd_A b z.base) ∨ ∃ q, o = .threw q ∧ sd_T b F X mc ms st q t
def sd_Z (b : Nat) (aF : Nat → Nat) (F : sdM → Heap → Prop) (Q : Option Value → sdM → Prop) (X : String → sdM → Prop) (mc ms : Nat) (below : List Frame) (a : Array Value) (st : State) : State → Prop := fun t => ∃ o, t.status = .running ∧ Ended t below o ∧ sd_End b aF F Q X mc ms a st o t
/-- the contract of a method at a world: started with av in M, it ends with Q or throws with X -/
def sd_Cn (l : Launch) (E : sdE) (y : MethodName) (ws : List Cond) (rm : Room) (mc ms : Nat) (D : va_G) (tys : List (ClassId × FieldType)) (b n : Nat) (ad : Nat → Nat) (L : Nat → sdL) (M : sdM) (av : List Value) (Q : Option Value → sdM → Prop) (X : String → sdM → Prop) : Prop :=
  MetFree l y (headSpec ws rm) (va_Pc (av.map (sd_v ad)) (fun U => sd_K E D tys b U ∧ sd_H D E.1 n ad L M U.heap)) (fun _ _ _ _ _ => True) (sd_End b ad (sd_H D E.1 n ad L) Q X mc ms)
/-- a contract whose end is another world -/
def sd_CnF (l : Launch) (E : sdE) (y : MethodName) (ws : List Cond) (rm : Room) (mc ms : Nat) (D : va_G) (tys : List (ClassId × FieldType)) (b n : Nat) (ad : Nat → Nat) (L : Nat → sdL) (M : sdM) (av : List Value) (F : sdM → Heap → Prop) (Q : Option Value → sdM → Prop) (X : String → sdM → Prop) : Prop :=
  MetFree l y (headSpec ws rm) (va_Pc (av.map (sd_v ad)) (fun U => sd_K E D tys b U ∧ sd_H D E.1 n ad L M U.heap)) (fun _ _ _ _ _ => True) (sd_End b ad F Q X mc ms)
/-- the frame of Y at pc, with the locals loc and the stack st (references by their cells' numbers), in M: comes to its end with Q or X; rc, rs: what it may still make -/
def sdW (l : Launch) (E : sdE) (Y : sdY) (D : va_G) (tys : List (ClassId × FieldType)) (b n : Nat) (ad : Nat → Nat) (L : Nat → sdL) (aF : Nat → Nat) (F : sdM → Heap → Prop) (Q : Option Value → sdM → Prop) (X : String → sdM → Prop)
    (pc : Nat) (loc : List (Nat × Value)) (st : List Value) (M : sdM) (rc rs : Nat) : Prop :=
  ∀ (p : Program) (e : Env) (s : State) (m : MethodId) (args : Array Value) (below : List Frame) (meth : Method) (c : Code) (H : Heap) (locs : List Loc) (ls : Array Slot) (cells slots : Nat),
    sd_C Y p s m args meth c → sd_K E D tys b s → sd_H D E.1 n ad L M H → va_S (sd_A b) s.heap H locs → lv_has ls Y.2.2.1 (sd_l ad loc) → cells + rc ≤ Y.2.2.2.2.2.2.1 → slots + rs ≤ Y.2.2.2.2.2.2.2.1 →
    W p l e Y.2.2.2.2.2.1 s m args below meth c H locs cells slots (sd_Z b aF F Q X Y.2.2.2.2.2.2.1 Y.2.2.2.2.2.2.2.1 below args s) (F0 m pc ls (st.map (sd_v ad)))
def sd_s (M : sdM) (t i : Nat) (x : Int32) : sdM := va_up M t (upd (M t) i x)
def sdB (x : Int32) : Prop := x = 0 ∨ x = 1
theorem sdB_n {x : Int32} (h : sdB x) : narrow .boolean (.int x) = .int x := by rcases h with rfl | rfl <;> rfl
theorem sdB_f {x : Int32} (h : sdB x) : fits .boolean (.int x) = true := by rcases h with rfl | rfl <;> rfl
theorem sdB_v {x : Int32} (h : sdB x) : vp_nar .boolean x = x := by rcases h with rfl | rfl <;> rfl
def sd_qi (Q : Int32 → sdM → Prop) : Option Value → sdM → Prop := fun v M => ∃ r : Int32, v = some (.int r) ∧ Q r M
def sd_qv (Q : sdM → Prop) : Option Value → sdM → Prop := fun v M => v = none ∧ Q M
def sd_qr (P : Nat → Prop) (Q : Nat → sdM → Prop) : Option Value → sdM → Prop := fun v M => ∃ t : Nat, v = some (.ref t) ∧ P t ∧ Q t M
def sd_xf : String → sdM → Prop := fun _ _ => False
theorem sd_cats (ad : Nat → Nat) : ∀ (l : List Value), ((l.map (sd_v ad)).map fun v => v.category).sum = (l.map fun v => v.category).sum
  | [] => rfl
  | v :: r => by
    have h := sd_cats ad r
    simp only [List.map_cons, List.sum_cons, sd_v_cat, h]
theorem sd_args (ad : Nat → Nat) : ∀ (l : List Value) (i : Nat), lv_args i (l.map (sd_v ad)) = sd_l ad (lv_args i l)
  | [], i => rfl
  | v :: r, i => by
    simp only [List.map_cons, lv_args, sd_v_cat]
    rw [sd_args ad r]
    rfl
theorem sd_sl (ad : Nat → Nat) : ∀ (l : List Value), (lg_sl (l.map (sd_v ad))).length = (lg_sl l).length
  | [] => rfl
  | v :: r => by
    have h := sd_sl ad r
    simp only [lg_sl, List.map_cons, List.flatMap_cons, List.length_append, sd_v_cat] at h ⊢
    rw [h]
    split <;> rfl
theorem sd_tb {Y : sdY} {p : Program} {s : State} {m : MethodId} {args : Array Value} {meth : Method} {c : Code} (hC : sd_C Y p s m args meth c) (htb : Y.2.2.2.2.2.2.2.2 = []) : ∀ x ∈ c.exceptionTable.toList, False := by
  intro x hx
  rw [hC.2.2.2.1, htb] at hx
  cases hx
/-- what a call of y (its data Y') by the constant idx of Y's class rests on -/
def sd_cwV (Y Y' : sdY) (y : MethodName) (idx na : Nat) (C : String) : Prop :=
  GoodIn Y.2.2.2.2.1 (wsV Y.1 idx C y Y'.2.2.2.2.1) ∧ (∃ ws', Y'.2.2.2.2.1 = Cond.code y Y'.2.1 Y'.2.2.1 Y'.2.2.2.1 :: ws') ∧ (Y'.2.2.2.2.2.1.cells = Y'.2.2.2.2.2.2.1 ∧ Y'.2.2.2.2.2.1.slots = Y'.2.2.2.2.2.2.2.1 ∧ Y.2.2.2.2.2.1.cells = Y.2.2.2.2.2.2.1 ∧ Y.2.2.2.2.2.1.slots = Y.2.2.2.2.2.2.2.1) ∧
  (y.cls = C ∧ y.cls ≠ "java/lang/invoke/MethodHandle" ∧ y.cls ≠ "java/lang/invoke/VarHandle" ∧ (parseMethodDescriptor y.desc).map (fun d => d.parameters.length) = some na) ∧ (Y'.2.2.2.2.2.1.frames + 1 ≤ Y.2.2.2.2.2.1.frames ∧ 8 + (Y'.2.2.1 + 11) + Y'.2.2.2.2.2.1.locals ≤ Y.2.2.2.2.2.1.locals)
def sd_cwS (Y Y' : sdY) (y : MethodName) (idx na : Nat) : Prop :=
  GoodIn Y.2.2.2.2.1 (va_wsS Y.1 idx y Y'.2.2.2.2.1) ∧ (∃ ws', Y'.2.2.2.2.1 = Cond.code y Y'.2.1 Y'.2.2.1 Y'.2.2.2.1 :: ws') ∧ (Y'.2.2.2.2.2.1.cells = Y'.2.2.2.2.2.2.1 ∧ Y'.2.2.2.2.2.1.slots = Y'.2.2.2.2.2.2.2.1 ∧ Y.2.2.2.2.2.1.cells = Y.2.2.2.2.2.2.1 ∧ Y.2.2.2.2.2.1.slots = Y.2.2.2.2.2.2.2.1) ∧
  (y.cls ≠ "java/lang/invoke/MethodHandle" ∧ y.cls ≠ "java/lang/invoke/VarHandle" ∧ (parseMethodDescriptor y.desc).map (fun d => d.parameters.length) = some na) ∧ (Y'.2.2.2.2.2.1.frames + 1 ≤ Y.2.2.2.2.2.1.frames ∧ 8 + (Y'.2.2.1 + 11) + Y'.2.2.2.2.2.1.locals ≤ Y.2.2.2.2.2.1.locals)
/-- a call of a method that keeps its contract, from the caller's frame on -/
theorem sd_pay {p : Program} {l : Launch} {e : Env} {R : Room} {s : State} {m : MethodId} {args : Array Value} {below : List Frame} {meth : Method} {c : Code} {U : State} {locs : List Loc} {cells slots mc ms b : Nat} {y : MethodName} {ws : List Cond} {rm : Room} {Pc : Array Value → State → Prop} {ad : Nat → Nat} {F : sdM → Heap → Prop} {Q : Option Value → sdM → Prop} {X : String → sdM → Prop} {bytes : ByteArray} {maxL W9 : Nat} {ret : Option FieldType} {g : JFrame} {ig : Instr} {len : Nat} {mk : MethodId} {a : Array Value}
    (hM : MetFree l y (headSpec ws rm) Pc (fun _ _ _ _ _ => True) (sd_End b ad F Q X mc ms)) (St : Stand p l e R s m args below meth c U locs cells slots) (hg : g.method = m) (hsize : g.locals.size = c.maxLocals) (hdg : decode c.code g.pc = .ok (ig, len)) (hn : U.methodNamed? y = some mk)
    (hws : ∀ w ∈ ws, w.before a U = true) (hcode : (Cond.code y bytes maxL ret).before a U = true) (hinit : (Cond.initialized y.cls).before a U = true) (hrc : rm.cells = mc) (hrs : rm.slots = ms) (hfr : rm.frames + 1 ≤ R.frames) (hlo : W9 + (maxL + 11) + rm.locals ≤ R.locals) (hW : 2 * g.monitorRoom + (g.stack.map fun v => v.category).sum ≤ W9)
    (hc : cells + mc ≤ R.cells) (hs : slots + ms ≤ R.slots) (hP : Pc a (U.calling g mk a)) :
    (∃ (v : Option Value) (M : sdM) (T' : State) (L : List Loc), Stand p l e R s m args below meth c T' (locs ++ L) (cells + mc) (slots + ms) ∧ Q v M ∧ F M T'.heap ∧ (U.heap.size ≤ T'.heap.size ∧ ∀ q : Nat, q < U.heap.size → ¬ sd_A b q → T'.heap[q]? = U.heap[q]?) ∧ (∀ z ∈ L, sd_A b z.base) ∧
      Steps p.tables e below (doInvoke e (U.setTop g) [] mk a).1 (T'.setTop { g with pc := g.pc + len, stack := (v.map (sd_v ad)).toList ++ g.stack })) ∨
    (∃ (q : Addr) (E : String) (M : sdM) (ce : Cell) (T' : State) (L : List Loc), Stand p l e R s m args below meth c T' (locs ++ L) (cells + mc) (slots + ms) ∧ X E M ∧ F M T'.heap ∧ T'.heap[q]? = some ce ∧ ce.vm = .none ∧ U.vm.findClass E = some ce.cls ∧ (U.heap.size ≤ T'.heap.size ∧ ∀ q : Nat, q < U.heap.size → ¬ sd_A b q → T'.heap[q]? = U.heap[q]?) ∧ (∀ z ∈ L, sd_A b z.base) ∧
      Steps p.tables e below (doInvoke e (U.setTop g) [] mk a).1 ((T'.setTop g).pushFrame (.throwing q))) := by
  obtain ⟨methY, cY, hmY, hcY, -, hlY, -, -, -, -⟩ := Cond.code_spec hn hcode
  obtain ⟨kY, hkY, -⟩ := className_of_methodNamed hn
  have hat : At U g.method c below := by rw [hg]; exact St.here
  have happ : (headSpec ws rm).appliesLoose y e.platform (U.calling g mk a) = true :=
    Spec.appliesLoose_calling (g := g) hat hdg hn hkY (Cond.initialized_spec (findClass_of_methodNamed hn) hkY hinit)
      (St.room_calling (g := g) (R' := rm) hsize hmY hcY hfr (by rw [hlY]; omega) (by rw [hrc]; exact hc) (by rw [hrs]; exact hs)) (atoms_intro hws)
  obtain ⟨g0, hfr0⟩ := St.frames_eq
  have htop : (U.setTop g).frames = .java g :: below := by rw [State.frames_setTop' g St.here.top, hfr0]; rfl
  obtain ⟨o, t, hsteps, -, hend, hq⟩ := Free.Steps.callFree hM p St.admits St.cas St.clock (acts := []) (mid := [.java g]) (below := below) htop happ hP trivial
  rw [htop] at hend
  rcases hq with ⟨⟨v, M, rfl, hQ, hF, hFr⟩, L, ⟨-, hWm, hsame⟩, hL⟩ | ⟨q, rfl, E, M, ce, L, hX, hF, hce, hcv, hcl, hFr, hWm, hsame, hL⟩
  · obtain ⟨T', St', -, -, rfl⟩ := St.outOf hg hdg hend hWm hsame
    exact Or.inl ⟨v, M, T', L, St', hQ, hF, hFr, hL, hsteps⟩
  · obtain ⟨T', St', -, -, rfl⟩ := St.outOfThrown hg hend hWm hsame
    exact Or.inr ⟨q, E, M, ce, T', L, St', hX, hF, hce, hcv, hcl, hFr, hL, hsteps⟩
/-- the frame g of a method, with q thrown over it -/
def sd_TW (p : Program) (l : Launch) (e : Env) (R : Room) (s : State) (m : MethodId) (args : Array Value) (below : List Frame) (meth : Method) (c : Code) (H : Heap) (locs : List Loc) (cells slots : Nat) (Q : State → Prop) (g : JFrame) (q : Addr) : Prop :=
  ∀ T : State, T.heap = H → Stand p l e R s m args below meth c T locs cells slots → ∃ t, Steps p.tables e below ((T.setTop g).pushFrame (.throwing q)) t ∧ Q t
theorem sd_S_next {b : Nat} {H0 H H1 : Heap} {locs L : List Loc} (hS : va_S (sd_A b) H0 H locs) (h : H.size ≤ H1.size ∧ ∀ q : Nat, q < H.size → ¬ sd_A b q → H1[q]? = H[q]?) (hL : ∀ z ∈ L, sd_A b z.base) : va_S (sd_A b) H0 H1 (locs ++ L) := by
  refine ⟨Nat.le_trans hS.1 h.1, fun q h1 h2 => ?_, fun z hz => ?_⟩
  · rw [h.2 q (Nat.lt_of_lt_of_le h1 hS.1) h2]
    exact hS.2.1 q h1 h2
  · rcases List.mem_append.mp hz with hz | hz
    · exact hS.2.2 z hz
    · exact hL z hz
/-- no handler here: what was thrown goes on to the caller -/
theorem sd_out {p : Program} {l : Launch} {e : Env} {R : Room} {s : State} {m : MethodId} {args : Array Value} {below : List Frame} {meth : Method} {c : Code} {H : Heap} {locs : List Loc} {cells slots mc ms b : Nat} {aF : Nat → Nat} {F : sdM → Heap → Prop} {Q : Option Value → sdM → Prop} {X : String → sdM → Prop} {pc : Nat} {ls : Array Slot} {st : List Value} {q : Addr} {E : String} {M : sdM} {ce : Cell}
    (hout : ∀ x ∈ c.exceptionTable.toList, False) (hlocks : meth.locks = false) (hX : X E M) (hF : F M H) (hce : H[q]? = some ce) (hcv : ce.vm = .none) (hcl : s.vm.findClass E = some ce.cls) (hS : va_S (sd_A b) s.heap H locs) (hc : cells ≤ mc) (hs : slots ≤ ms) :
    sd_TW p l e R s m args below meth c H locs cells slots (sd_Z b aF F Q X mc ms below args s) (F0 m pc ls st) q := by
  intro T hT St
  subst hT
  obtain ⟨h1, h2, h3, h4, h5⟩ := St.leaveThrown q (g := F0 m pc ls st) rfl rfl rfl (fun x hx => (hout x hx).elim) hlocks
  exact ⟨_, h1, .threw q, h2, h3, Or.inr ⟨q, rfl, E, M, ce, locs, hX, hF, hce, hcv, hcl, hS.F rfl, h4, h5.mono hc hs, hS.2.2⟩⟩
theorem sd_ret {p : Program} {l : Launch} {e : Env} {R : Room} {s : State} {m : MethodId} {args : Array Value} {below : List Frame} {meth : Method} {c : Code} {H : Heap} {locs : List Loc} {cells slots mc ms b : Nat} {aF : Nat → Nat} {F : sdM → Heap → Prop} {Q : Option Value → sdM → Prop} {X : String → sdM → Prop} {g : JFrame} (k : W p l e R s m args below meth c H locs cells slots (MQ below (sd_R b aF F Q) args s mc ms (sd_A b)) g) : W p l e R s m args below meth c H locs cells slots (sd_Z b aF F Q X mc ms below args s) g := by
  intro T hT St
  obtain ⟨t, a1, o, b1, b2, b3, b4⟩ := k T hT St
  exact ⟨t, a1, o, b1, b2, Or.inl ⟨b3, b4⟩⟩
theorem sd_blind {E : sdE} {D : va_G} {tys : List (ClassId × FieldType)} {b n : Nat} {ad : Nat → Nat} {L : Nat → sdL} {M : sdM} {av : List Value} : FrameBlind (va_Pc av (fun U => sd_K E D tys b U ∧ sd_H D E.1 n ad L M U.heap)) :=
  fun _ _ _ _ q => ⟨q.1, q.2.1.call, q.2.2⟩
theorem sd_one {D : va_G} {cl : List vw_C} {q : Nat × va_E} {H : Heap} (h : va_at D cl q H) : va_P D cl [q] H := fun k x hk => by
  have hz : k < 1 := (List.getElem?_eq_some_iff.mp hk).1
  rw [show k = 0 by omega] at hk
  cases hk
  exact h
theorem sd_l_pick {ad : Nat → Nat} (loc : List (Nat × Value)) : ∀ (js : List Nat), lv_pick (sd_l ad loc) js = sd_l ad (lv_pick loc js)
  | [] => rfl
  | j :: js => by
    have h := sd_l_pick (ad := ad) loc js
    simp only [lv_pick, List.filterMap_cons] at h ⊢
    cases hj : loc[j]? with
    | none => 
      have h1 : (sd_l ad loc)[j]? = none := by rw [sd_l, List.getElem?_map, hj]; rfl
      simp only [h1, h]
    | some q =>
      have h1 : (sd_l ad loc)[j]? = some (q.1, sd_v ad q.2) := sd_l_get hj
      simp only [h1, h]
      rfl
section SDR
variable {l : Launch} {E : sdE} {Y : sdY} {D : va_G} {tys : List (ClassId × FieldType)} {b n : Nat} {ad : Nat → Nat} {L : Nat → sdL} {aF : Nat → Nat} {F : sdM → Heap → Prop} {Q : Option Value → sdM → Prop} {X : String → sdM → Prop}
variable {pc : Nat} {loc : List (Nat × Value)} {st : List Value} {M : sdM} {rc rs : Nat}
theorem x_iconst {z : Int} {v : Int32} (d : decode Y.2.1 pc = .ok (.iconst z, 1)) (hv : Int32.ofInt z = v) (k : sdW l E Y D tys b n ad L aF F Q X (pc + 1) loc (.int v :: st) M rc rs) : sdW l E Y D tys b n ad L aF F Q X pc loc st M rc rs := by
  intro p e s m args below meth c H locs ls cells slots hC hK hH hS hl hc hs
  exact lv_iconst hC.1.1 hC.1.2.1 d hv (k p e s m args below meth c H locs ls cells slots hC hK hH hS hl hc hs)
theorem x_bipush {z : Int} {v : Int32} (d : decode Y.2.1 pc = .ok (.bipush z, 2)) (hv : (Int8.ofInt z).toInt32 = v) (k : sdW l E Y D tys b n ad L aF F Q X (pc + 2) loc (.int v :: st) M rc rs) : sdW l E Y D tys b n ad L aF F Q X pc loc st M rc rs := by
  intro p e s m args below meth c H locs ls cells slots hC hK hH hS hl hc hs
  exact lv_bipush hC.1.1 hC.1.2.1 d hv (k p e s m args below meth c H locs ls cells slots hC hK hH hS hl hc hs)
theorem x_sipush {z : Int} {v : Int32} (d : decode Y.2.1 pc = .ok (.sipush z, 3)) (hv : (Int16.ofInt z).toInt32 = v) (k : sdW l E Y D tys b n ad L aF F Q X (pc + 3) loc (.int v :: st) M rc rs) : sdW l E Y D tys b n ad L aF F Q X pc loc st M rc rs := by
  intro p e s m args below meth c H locs ls cells slots hC hK hH hS hl hc hs
  exact lv_sipush hC.1.1 hC.1.2.1 d hv (k p e s m args below meth c H locs ls cells slots hC hK hH hS hl hc hs)
theorem x_iload_n {f : Fin 4} (i j : Nat) {x : Int32} (d : decode Y.2.1 pc = .ok (.iload_n f, 1)) (hi : (f : Nat) = i) (h : loc[j]? = some (i, .int x)) (k : sdW l E Y D tys b n ad L aF F Q X (pc + 1) loc (.int x :: st) M rc rs) : sdW l E Y D tys b n ad L aF F Q X pc loc st M rc rs := by
  intro p e s m args below meth c H locs ls cells slots hC hK hH hS hl hc hs
  exact lv_iload_n hC.1.1 hC.1.2.1 d hi (lv_at hl j (sd_l_get h)) (k p e s m args below meth c H locs ls cells slots hC hK hH hS hl hc hs)
theorem x_iload (i j : Nat) {x : Int32} (d : decode Y.2.1 pc = .ok (.iload i, 2)) (h : loc[j]? = some (i, .int x)) (k : sdW l E Y D tys b n ad L aF F Q X (pc + 2) loc (.int x :: st) M rc rs) : sdW l E Y D tys b n ad L aF F Q X pc loc st M rc rs := by
  intro p e s m args below meth c H locs ls cells slots hC hK hH hS hl hc hs
  exact lv_iload hC.1.1 hC.1.2.1 d (lv_at hl j (sd_l_get h)) (k p e s m args below meth c H locs ls cells slots hC hK hH hS hl hc hs)
theorem x_aload_n {f : Fin 4} (i j : Nat) {x : Nat} (d : decode Y.2.1 pc = .ok (.aload_n f, 1)) (hi : (f : Nat) = i) (h : loc[j]? = some (i, .ref x)) (k : sdW l E Y D tys b n ad L aF F Q X (pc + 1) loc (.ref x :: st) M rc rs) : sdW l E Y D tys b n ad L aF F Q X pc loc st M rc rs := by
  intro p e s m args below meth c H locs ls cells slots hC hK hH hS hl hc hs
  exact lv_aload_n hC.1.1 hC.1.2.1 d hi (lv_at hl j (sd_l_get h)) (k p e s m args below meth c H locs ls cells slots hC hK hH hS hl hc hs)
theorem x_aload (i j : Nat) {x : Nat} (d : decode Y.2.1 pc = .ok (.aload i, 2)) (h : loc[j]? = some (i, .ref x)) (k : sdW l E Y D tys b n ad L aF F Q X (pc + 2) loc (.ref x :: st) M rc rs) : sdW l E Y D tys b n ad L aF F Q X pc loc st M rc rs := by
  intro p e s m args below meth c H locs ls cells slots hC hK hH hS hl hc hs
  exact lv_aload hC.1.1 hC.1.2.1 d (lv_at hl j (sd_l_get h)) (k p e s m args below meth c H locs ls cells slots hC hK hH hS hl hc hs)
theorem x_istore_n {f : Fin 4} (i : Nat) (loc' : List (Nat × Value)) {x : Int32} (d : decode Y.2.1 pc = .ok (.istore_n f, 1)) (hi : (f : Nat) = i) (hn : i < Y.2.2.1) (h : (i, Value.int x) :: loc.filter (fun q => !(q.1 == i) && !(q.1 + 1 == i && q.2.category == 2)) = loc') (k : sdW l E Y D tys b n ad L aF F Q X (pc + 1) loc' st M rc rs) : sdW l E Y D tys b n ad L aF F Q X pc loc (.int x :: st) M rc rs := by
  intro p e s m args below meth c H locs ls cells slots hC hK hH hS hl hc hs
  refine lv_istore_n hC.1.1 hC.1.2.1 d hi hl hn rfl (fun ls' hl' => ?_)
  rw [sd_l_flt] at hl'
  subst h
  exact k p e s m args below meth c H locs ls' cells slots hC hK hH hS hl' hc hs
theorem x_istore (i : Nat) (loc' : List (Nat × Value)) {x : Int32} (d : decode Y.2.1 pc = .ok (.istore i, 2)) (hn : i < Y.2.2.1) (h : (i, Value.int x) :: loc.filter (fun q => !(q.1 == i) && !(q.1 + 1 == i && q.2.category == 2)) = loc') (k : sdW l E Y D tys b n ad L aF F Q X (pc + 2) loc' st M rc rs) : sdW l E Y D tys b n ad L aF F Q X pc loc (.int x :: st) M rc rs := by
  intro p e s m args below meth c H locs ls cells slots hC hK hH hS hl hc hs
  refine lv_istore hC.1.1 hC.1.2.1 d hl hn rfl (fun ls' hl' => ?_)
  rw [sd_l_flt] at hl'
  subst h
  exact k p e s m args below meth c H locs ls' cells slots hC hK hH hS hl' hc hs
theorem x_astore_n {f : Fin 4} (i : Nat) (loc' : List (Nat × Value)) {x : Nat} (d : decode Y.2.1 pc = .ok (.astore_n f, 1)) (hi : (f : Nat) = i) (hn : i < Y.2.2.1) (h : (i, Value.ref x) :: loc.filter (fun q => !(q.1 == i) && !(q.1 + 1 == i && q.2.category == 2)) = loc') (k : sdW l E Y D tys b n ad L aF F Q X (pc + 1) loc' st M rc rs) : sdW l E Y D tys b n ad L aF F Q X pc loc (.ref x :: st) M rc rs := by
  intro p e s m args below meth c H locs ls cells slots hC hK hH hS hl hc hs
  refine lv_astore_n hC.1.1 hC.1.2.1 d hi hl hn rfl (fun ls' hl' => ?_)
  rw [sd_l_flt] at hl'
  subst h
  exact k p e s m args below meth c H locs ls' cells slots hC hK hH hS hl' hc hs
theorem x_astore (i : Nat) (loc' : List (Nat × Value)) {x : Nat} (d : decode Y.2.1 pc = .ok (.astore i, 2)) (hn : i < Y.2.2.1) (h : (i, Value.ref x) :: loc.filter (fun q => !(q.1 == i) && !(q.1 + 1 == i && q.2.category == 2)) = loc') (k : sdW l E Y D tys b n ad L aF F Q X (pc + 2) loc' st M rc rs) : sdW l E Y D tys b n ad L aF F Q X pc loc (.ref x :: st) M rc rs := by
  intro p e s m args below meth c H locs ls cells slots hC hK hH hS hl hc hs
  refine lv_astore hC.1.1 hC.1.2.1 d hl hn rfl (fun ls' hl' => ?_)
  rw [sd_l_flt] at hl'
  subst h
  exact k p e s m args below meth c H locs ls' cells slots hC hK hH hS hl' hc hs
theorem x_iinc (i j : Nat) (loc' : List (Nat × Value)) {z : Int} {x v : Int32} (d : decode Y.2.1 pc = .ok (.iinc i z, 3)) (hj : loc[j]? = some (i, .int x)) (hv : x + Int32.ofInt z = v) (hn : i < Y.2.2.1) (h : (i, Value.int v) :: loc.filter (fun q => !(q.1 == i) && !(q.1 + 1 == i && q.2.category == 2)) = loc') (k : sdW l E Y D tys b n ad L aF F Q X (pc + 3) loc' st M rc rs) : sdW l E Y D tys b n ad L aF F Q X pc loc st M rc rs := by
  intro p e s m args below meth c H locs ls cells slots hC hK hH hS hl hc hs
  refine lv_iinc hC.1.1 hC.1.2.1 d hl (sd_l_get hj) hv hn rfl (fun ls' hl' => ?_)
  rw [sd_l_flt] at hl'
  subst h
  exact k p e s m args below meth c H locs ls' cells slots hC hK hH hS hl' hc hs
theorem x_iadd {x y : Int32} (d : decode Y.2.1 pc = .ok (.iadd, 1)) (k : sdW l E Y D tys b n ad L aF F Q X (pc + 1) loc (.int (x + y) :: st) M rc rs) : sdW l E Y D tys b n ad L aF F Q X pc loc (.int y :: .int x :: st) M rc rs := by
  intro p e s m args below meth c H locs ls cells slots hC hK hH hS hl hc hs
  exact lv_iadd hC.1.1 hC.1.2.1 d (k p e s m args below meth c H locs ls cells slots hC hK hH hS hl hc hs)
theorem x_isub {x y : Int32} (d : decode Y.2.1 pc = .ok (.isub, 1)) (k : sdW l E Y D tys b n ad L aF F Q X (pc + 1) loc (.int (x - y) :: st) M rc rs) : sdW l E Y D tys b n ad L aF F Q X pc loc (.int y :: .int x :: st) M rc rs := by
  intro p e s m args below meth c H locs ls cells slots hC hK hH hS hl hc hs
  exact lv_isub hC.1.1 hC.1.2.1 d (k p e s m args below meth c H locs ls cells slots hC hK hH hS hl hc hs)
theorem x_imul {x y : Int32} (d : decode Y.2.1 pc = .ok (.imul, 1)) (k : sdW l E Y D tys b n ad L aF F Q X (pc + 1) loc (.int (x * y) :: st) M rc rs) : sdW l E Y D tys b n ad L aF F Q X pc loc (.int y :: .int x :: st) M rc rs := by
  intro p e s m args below meth c H locs ls cells slots hC hK hH hS hl hc hs
  exact lv_imul hC.1.1 hC.1.2.1 d (k p e s m args below meth c H locs ls cells slots hC hK hH hS hl hc hs)
theorem x_iand {x y : Int32} (d : decode Y.2.1 pc = .ok (.iand, 1)) (k : sdW l E Y D tys b n ad L aF F Q X (pc + 1) loc (.int (x &&& y) :: st) M rc rs) : sdW l E Y D tys b n ad L aF F Q X pc loc (.int y :: .int x :: st) M rc rs := by
  intro p e s m args below meth c H locs ls cells slots hC hK hH hS hl hc hs
  exact lv_iand hC.1.1 hC.1.2.1 d (k p e s m args below meth c H locs ls cells slots hC hK hH hS hl hc hs)
theorem x_ior {x y : Int32} (d : decode Y.2.1 pc = .ok (.ior, 1)) (k : sdW l E Y D tys b n ad L aF F Q X (pc + 1) loc (.int (x ||| y) :: st) M rc rs) : sdW l E Y D tys b n ad L aF F Q X pc loc (.int y :: .int x :: st) M rc rs := by
  intro p e s m args below meth c H locs ls cells slots hC hK hH hS hl hc hs
  exact lv_ior hC.1.1 hC.1.2.1 d (k p e s m args below meth c H locs ls cells slots hC hK hH hS hl hc hs)
theorem x_ixor {x y : Int32} (d : decode Y.2.1 pc = .ok (.ixor, 1)) (k : sdW l E Y D tys b n ad L aF F Q X (pc + 1) loc (.int (x ^^^ y) :: st) M rc rs) : sdW l E Y D tys b n ad L aF F Q X pc loc (.int y :: .int x :: st) M rc rs := by
  intro p e s m args below meth c H locs ls cells slots hC hK hH hS hl hc hs
  exact lv_ixor hC.1.1 hC.1.2.1 d (k p e s m args below meth c H locs ls cells slots hC hK hH hS hl hc hs)
theorem x_ishl {x y : Int32} (d : decode Y.2.1 pc = .ok (.ishl, 1)) (k : sdW l E Y D tys b n ad L aF F Q X (pc + 1) loc (.int (x <<< (y &&& 31)) :: st) M rc rs) : sdW l E Y D tys b n ad L aF F Q X pc loc (.int y :: .int x :: st) M rc rs := by
  intro p e s m args below meth c H locs ls cells slots hC hK hH hS hl hc hs
  exact lv_ishl hC.1.1 hC.1.2.1 d (k p e s m args below meth c H locs ls cells slots hC hK hH hS hl hc hs)
theorem x_ishr {x y : Int32} (d : decode Y.2.1 pc = .ok (.ishr, 1)) (k : sdW l E Y D tys b n ad L aF F Q X (pc + 1) loc (.int (x >>> (y &&& 31)) :: st) M rc rs) : sdW l E Y D tys b n ad L aF F Q X pc loc (.int y :: .int x :: st) M rc rs := by
  intro p e s m args below meth c H locs ls cells slots hC hK hH hS hl hc hs
  exact lv_ishr hC.1.1 hC.1.2.1 d (k p e s m args below meth c H locs ls cells slots hC hK hH hS hl hc hs)
theorem x_idiv {x y : Int32} (d : decode Y.2.1 pc = .ok (.idiv, 1)) (h : ¬ y = 0) (k : sdW l E Y D tys b n ad L aF F Q X (pc + 1) loc (.int (x / y) :: st) M rc rs) : sdW l E Y D tys b n ad L aF F Q X pc loc (.int y :: .int x :: st) M rc rs := by
  intro p e s m args below meth c H locs ls cells slots hC hK hH hS hl hc hs
  exact lv_idiv hC.1.1 hC.1.2.1 d h (k p e s m args below meth c H locs ls cells slots hC hK hH hS hl hc hs)
theorem x_irem {x y : Int32} (d : decode Y.2.1 pc = .ok (.irem, 1)) (h : ¬ y = 0) (k : sdW l E Y D tys b n ad L aF F Q X (pc + 1) loc (.int (x - x / y * y) :: st) M rc rs) : sdW l E Y D tys b n ad L aF F Q X pc loc (.int y :: .int x :: st) M rc rs := by
  intro p e s m args below meth c H locs ls cells slots hC hK hH hS hl hc hs
  exact lv_irem hC.1.1 hC.1.2.1 d h (k p e s m args below meth c H locs ls cells slots hC hK hH hS hl hc hs)
theorem x_ineg {x : Int32} (d : decode Y.2.1 pc = .ok (.ineg, 1)) (k : sdW l E Y D tys b n ad L aF F Q X (pc + 1) loc (.int (-x) :: st) M rc rs) : sdW l E Y D tys b n ad L aF F Q X pc loc (.int x :: st) M rc rs := by
  intro p e s m args below meth c H locs ls cells slots hC hK hH hS hl hc hs
  exact lv_ineg hC.1.1 hC.1.2.1 d (k p e s m args below meth c H locs ls cells slots hC hK hH hS hl hc hs)
theorem x_dup {va : Value} (d : decode Y.2.1 pc = .ok (.dup, 1)) (hva : va.category = 1) (k : sdW l E Y D tys b n ad L aF F Q X (pc + 1) loc (va :: va :: st) M rc rs) : sdW l E Y D tys b n ad L aF F Q X pc loc (va :: st) M rc rs := by
  intro p e s m args below meth c H locs ls cells slots hC hK hH hS hl hc hs
  exact lv_dup hC.1.1 hC.1.2.1 d ((sd_v_cat ad va).trans hva) (k p e s m args below meth c H locs ls cells slots hC hK hH hS hl hc hs)
theorem x_pop {va : Value} (d : decode Y.2.1 pc = .ok (.pop, 1)) (hva : va.category = 1) (k : sdW l E Y D tys b n ad L aF F Q X (pc + 1) loc st M rc rs) : sdW l E Y D tys b n ad L aF F Q X pc loc (va :: st) M rc rs := by
  intro p e s m args below meth c H locs ls cells slots hC hK hH hS hl hc hs
  exact lv_pop hC.1.1 hC.1.2.1 d ((sd_v_cat ad va).trans hva) (k p e s m args below meth c H locs ls cells slots hC hK hH hS hl hc hs)
theorem x_dup_x1 {va vb : Value} (d : decode Y.2.1 pc = .ok (.dup_x1, 1)) (hva : va.category = 1) (hvb : vb.category = 1) (k : sdW l E Y D tys b n ad L aF F Q X (pc + 1) loc (va :: vb :: va :: st) M rc rs) : sdW l E Y D tys b n ad L aF F Q X pc loc (va :: vb :: st) M rc rs := by
  intro p e s m args below meth c H locs ls cells slots hC hK hH hS hl hc hs
  exact lv_dup_x1 hC.1.1 hC.1.2.1 d ((sd_v_cat ad va).trans hva) ((sd_v_cat ad vb).trans hvb) (k p e s m args below meth c H locs ls cells slots hC hK hH hS hl hc hs)
theorem x_dup_x2 {va vb vd : Value} (d : decode Y.2.1 pc = .ok (.dup_x2, 1)) (hva : va.category = 1) (hvb : vb.category = 1) (hvd : vd.category = 1) (k : sdW l E Y D tys b n ad L aF F Q X (pc + 1) loc (va :: vb :: vd :: va :: st) M rc rs) : sdW l E Y D tys b n ad L aF F Q X pc loc (va :: vb :: vd :: st) M rc rs := by
  intro p e s m args below meth c H locs ls cells slots hC hK hH hS hl hc hs
  exact lv_dup_x2 hC.1.1 hC.1.2.1 d ((sd_v_cat ad va).trans hva) ((sd_v_cat ad vb).trans hvb) ((sd_v_cat ad vd).trans hvd) (k p e s m args below meth c H locs ls cells slots hC hK hH hS hl hc hs)
theorem x_dup2 {va vb : Value} (d : decode Y.2.1 pc = .ok (.dup2, 1)) (hva : va.category = 1) (hvb : vb.category = 1) (k : sdW l E Y D tys b n ad L aF F Q X (pc + 1) loc (va :: vb :: va :: vb :: st) M rc rs) : sdW l E Y D tys b n ad L aF F Q X pc loc (va :: vb :: st) M rc rs := by
  intro p e s m args below meth c H locs ls cells slots hC hK hH hS hl hc hs
  exact lv_dup2_11 hC.1.1 hC.1.2.1 d ((sd_v_cat ad va).trans hva) ((sd_v_cat ad vb).trans hvb) (k p e s m args below meth c H locs ls cells slots hC hK hH hS hl hc hs)
theorem x_if_eq {x : Int32} {off : Int} (tgt : Nat) (d : decode Y.2.1 pc = .ok (.ifCond .eq off, 3)) (ht : (pc : Int) + off = (tgt : Int)) (kt : x = 0 → sdW l E Y D tys b n ad L aF F Q X tgt loc st M rc rs) (kf : ¬ x = 0 → sdW l E Y D tys b n ad L aF F Q X (pc + 3) loc st M rc rs) : sdW l E Y D tys b n ad L aF F Q X pc loc (.int x :: st) M rc rs := by
  intro p e s m args below meth c H locs ls cells slots hC hK hH hS hl hc hs
  exact lv_if_eq hC.1.1 hC.1.2.1 d ht (fun h => kt h p e s m args below meth c H locs ls cells slots hC hK hH hS hl hc hs) (fun h => kf h p e s m args below meth c H locs ls cells slots hC hK hH hS hl hc hs)
theorem x_if_ne {x : Int32} {off : Int} (tgt : Nat) (d : decode Y.2.1 pc = .ok (.ifCond .ne off, 3)) (ht : (pc : Int) + off = (tgt : Int)) (kt : ¬ x = 0 → sdW l E Y D tys b n ad L aF F Q X tgt loc st M rc rs) (kf : x = 0 → sdW l E Y D tys b n ad L aF F Q X (pc + 3) loc st M rc rs) : sdW l E Y D tys b n ad L aF F Q X pc loc (.int x :: st) M rc rs := by
  intro p e s m args below meth c H locs ls cells slots hC hK hH hS hl hc hs
  exact lv_if_ne hC.1.1 hC.1.2.1 d ht (fun h => kt h p e s m args below meth c H locs ls cells slots hC hK hH hS hl hc hs) (fun h => kf h p e s m args below meth c H locs ls cells slots hC hK hH hS hl hc hs)
theorem x_if_lt {x : Int32} {off : Int} (tgt : Nat) (d : decode Y.2.1 pc = .ok (.ifCond .lt off, 3)) (ht : (pc : Int) + off = (tgt : Int)) (kt : x < 0 → sdW l E Y D tys b n ad L aF F Q X tgt loc st M rc rs) (kf : ¬ x < 0 → sdW l E Y D tys b n ad L aF F Q X (pc + 3) loc st M rc rs) : sdW l E Y D tys b n ad L aF F Q X pc loc (.int x :: st) M rc rs := by
  intro p e s m args below meth c H locs ls cells slots hC hK hH hS hl hc hs
  exact lv_if_lt hC.1.1 hC.1.2.1 d ht (fun h => kt h p e s m args below meth c H locs ls cells slots hC hK hH hS hl hc hs) (fun h => kf h p e s m args below meth c H locs ls cells slots hC hK hH hS hl hc hs)
theorem x_if_ge {x : Int32} {off : Int} (tgt : Nat) (d : decode Y.2.1 pc = .ok (.ifCond .ge off, 3)) (ht : (pc : Int) + off = (tgt : Int)) (kt : 0 ≤ x → sdW l E Y D tys b n ad L aF F Q X tgt loc st M rc rs) (kf : ¬ 0 ≤ x → sdW l E Y D tys b n ad L aF F Q X (pc + 3) loc st M rc rs) : sdW l E Y D tys b n ad L aF F Q X pc loc (.int x :: st) M rc rs := by
  intro p e s m args below meth c H locs ls cells slots hC hK hH hS hl hc hs
  exact lv_if_ge hC.1.1 hC.1.2.1 d ht (fun h => kt h p e s m args below meth c H locs ls cells slots hC hK hH hS hl hc hs) (fun h => kf h p e s m args below meth c H locs ls cells slots hC hK hH hS hl hc hs)
theorem x_if_gt {x : Int32} {off : Int} (tgt : Nat) (d : decode Y.2.1 pc = .ok (.ifCond .gt off, 3)) (ht : (pc : Int) + off = (tgt : Int)) (kt : 0 < x → sdW l E Y D tys b n ad L aF F Q X tgt loc st M rc rs) (kf : ¬ 0 < x → sdW l E Y D tys b n ad L aF F Q X (pc + 3) loc st M rc rs) : sdW l E Y D tys b n ad L aF F Q X pc loc (.int x :: st) M rc rs := by
  intro p e s m args below meth c H locs ls cells slots hC hK hH hS hl hc hs
  exact lv_if_gt hC.1.1 hC.1.2.1 d ht (fun h => kt h p e s m args below meth c H locs ls cells slots hC hK hH hS hl hc hs) (fun h => kf h p e s m args below meth c H locs ls cells slots hC hK hH hS hl hc hs)
theorem x_if_le {x : Int32} {off : Int} (tgt : Nat) (d : decode Y.2.1 pc = .ok (.ifCond .le off, 3)) (ht : (pc : Int) + off = (tgt : Int)) (kt : x ≤ 0 → sdW l E Y D tys b n ad L aF F Q X tgt loc st M rc rs) (kf : ¬ x ≤ 0 → sdW l E Y D tys b n ad L aF F Q X (pc + 3) loc st M rc rs) : sdW l E Y D tys b n ad L aF F Q X pc loc (.int x :: st) M rc rs := by
  intro p e s m args below meth c H locs ls cells slots hC hK hH hS hl hc hs
  exact lv_if_le hC.1.1 hC.1.2.1 d ht (fun h => kt h p e s m args below meth c H locs ls cells slots hC hK hH hS hl hc hs) (fun h => kf h p e s m args below meth c H locs ls cells slots hC hK hH hS hl hc hs)
theorem x_icmp_eq {x y : Int32} {off : Int} (tgt : Nat) (d : decode Y.2.1 pc = .ok (.if_icmp .eq off, 3)) (ht : (pc : Int) + off = (tgt : Int)) (kt : x = y → sdW l E Y D tys b n ad L aF F Q X tgt loc st M rc rs) (kf : ¬ x = y → sdW l E Y D tys b n ad L aF F Q X (pc + 3) loc st M rc rs) : sdW l E Y D tys b n ad L aF F Q X pc loc (.int y :: .int x :: st) M rc rs := by
  intro p e s m args below meth c H locs ls cells slots hC hK hH hS hl hc hs
  exact lv_icmp_eq hC.1.1 hC.1.2.1 d ht (fun h => kt h p e s m args below meth c H locs ls cells slots hC hK hH hS hl hc hs) (fun h => kf h p e s m args below meth c H locs ls cells slots hC hK hH hS hl hc hs)
theorem x_icmp_ne {x y : Int32} {off : Int} (tgt : Nat) (d : decode Y.2.1 pc = .ok (.if_icmp .ne off, 3)) (ht : (pc : Int) + off = (tgt : Int)) (kt : ¬ x = y → sdW l E Y D tys b n ad L aF F Q X tgt loc st M rc rs) (kf : x = y → sdW l E Y D tys b n ad L aF F Q X (pc + 3) loc st M rc rs) : sdW l E Y D tys b n ad L aF F Q X pc loc (.int y :: .int x :: st) M rc rs := by
  intro p e s m args below meth c H locs ls cells slots hC hK hH hS hl hc hs
  exact lv_icmp_ne hC.1.1 hC.1.2.1 d ht (fun h => kt h p e s m args below meth c H locs ls cells slots hC hK hH hS hl hc hs) (fun h => kf h p e s m args below meth c H locs ls cells slots hC hK hH hS hl hc hs)
theorem x_icmp_lt {x y : Int32} {off : Int} (tgt : Nat) (d : decode Y.2.1 pc = .ok (.if_icmp .lt off, 3)) (ht : (pc : Int) + off = (tgt : Int)) (kt : x < y → sdW l E Y D tys b n ad L aF F Q X tgt loc st M rc rs) (kf : ¬ x < y → sdW l E Y D tys b n ad L aF F Q X (pc + 3) loc st M rc rs) : sdW l E Y D tys b n ad L aF F Q X pc loc (.int y :: .int x :: st) M rc rs := by
  intro p e s m args below meth c H locs ls cells slots hC hK hH hS hl hc hs
  exact lv_icmp_lt hC.1.1 hC.1.2.1 d ht (fun h => kt h p e s m args below meth c H locs ls cells slots hC hK hH hS hl hc hs) (fun h => kf h p e s m args below meth c H locs ls cells slots hC hK hH hS hl hc hs)
theorem x_icmp_ge {x y : Int32} {off : Int} (tgt : Nat) (d : decode Y.2.1 pc = .ok (.if_icmp .ge off, 3)) (ht : (pc : Int) + off = (tgt : Int)) (kt : y ≤ x → sdW l E Y D tys b n ad L aF F Q X tgt loc st M rc rs) (kf : ¬ y ≤ x → sdW l E Y D tys b n ad L aF F Q X (pc + 3) loc st M rc rs) : sdW l E Y D tys b n ad L aF F Q X pc loc (.int y :: .int x :: st) M rc rs := by
  intro p e s m args below meth c H locs ls cells slots hC hK hH hS hl hc hs
  exact lv_icmp_ge hC.1.1 hC.1.2.1 d ht (fun h => kt h p e s m args below meth c H locs ls cells slots hC hK hH hS hl hc hs) (fun h => kf h p e s m args below meth c H locs ls cells slots hC hK hH hS hl hc hs)
theorem x_icmp_gt {x y : Int32} {off : Int} (tgt : Nat) (d : decode Y.2.1 pc = .ok (.if_icmp .gt off, 3)) (ht : (pc : Int) + off = (tgt : Int)) (kt : y < x → sdW l E Y D tys b n ad L aF F Q X tgt loc st M rc rs) (kf : ¬ y < x → sdW l E Y D tys b n ad L aF F Q X (pc + 3) loc st M rc rs) : sdW l E Y D tys b n ad L aF F Q X pc loc (.int y :: .int x :: st) M rc rs := by
  intro p e s m args below meth c H locs ls cells slots hC hK hH hS hl hc hs
  exact lv_icmp_gt hC.1.1 hC.1.2.1 d ht (fun h => kt h p e s m args below meth c H locs ls cells slots hC hK hH hS hl hc hs) (fun h => kf h p e s m args below meth c H locs ls cells slots hC hK hH hS hl hc hs)
theorem x_icmp_le {x y : Int32} {off : Int} (tgt : Nat) (d : decode Y.2.1 pc = .ok (.if_icmp .le off, 3)) (ht : (pc : Int) + off = (tgt : Int)) (kt : x ≤ y → sdW l E Y D tys b n ad L aF F Q X tgt loc st M rc rs) (kf : ¬ x ≤ y → sdW l E Y D tys b n ad L aF F Q X (pc + 3) loc st M rc rs) : sdW l E Y D tys b n ad L aF F Q X pc loc (.int y :: .int x :: st) M rc rs := by
  intro p e s m args below meth c H locs ls cells slots hC hK hH hS hl hc hs
  exact lv_icmp_le hC.1.1 hC.1.2.1 d ht (fun h => kt h p e s m args below meth c H locs ls cells slots hC hK hH hS hl hc hs) (fun h => kf h p e s m args below meth c H locs ls cells slots hC hK hH hS hl hc hs)
theorem x_goto {off : Int} (tgt : Nat) (d : decode Y.2.1 pc = .ok (.goto off, 3)) (ht : (pc : Int) + off = (tgt : Int)) (k : sdW l E Y D tys b n ad L aF F Q X tgt loc st M rc rs) : sdW l E Y D tys b n ad L aF F Q X pc loc st M rc rs := by
  intro p e s m args below meth c H locs ls cells slots hC hK hH hS hl hc hs
  exact lv_goto hC.1.1 hC.1.2.1 d ht (k p e s m args below meth c H locs ls cells slots hC hK hH hS hl hc hs)
theorem x_sub (js : List Nat) (loc' : List (Nat × Value)) (h : lv_pick loc js = loc') (k : sdW l E Y D tys b n ad L aF F Q X pc loc' st M rc rs) : sdW l E Y D tys b n ad L aF F Q X pc loc st M rc rs := by
  intro p e s m args below meth c H locs ls cells slots hC hK hH hS hl hc hs
  subst h
  exact k p e s m args below meth c H locs ls cells slots hC hK hH hS (lv_sub hl js (sd_l_pick loc js)) hc hs
theorem x_wide (rc' rs' : Nat) (h1 : rc' ≤ rc) (h2 : rs' ≤ rs) (k : sdW l E Y D tys b n ad L aF F Q X pc loc st M rc' rs') : sdW l E Y D tys b n ad L aF F Q X pc loc st M rc rs := by
  intro p e s m args below meth c H locs ls cells slots hC hK hH hS hl hc hs
  exact k p e s m args below meth c H locs ls cells slots hC hK hH hS hl (by omega) (by omega)
theorem x_same {pc' : Nat} {loc' : List (Nat × Value)} {st' : List Value} {M' : sdM} (k : sdW l E Y D tys b n ad L aF F Q X pc' loc' st' M' rc rs) (h1 : pc' = pc) (h2 : loc' = loc) (h3 : st' = st) (h4 : M' = M) : sdW l E Y D tys b n ad L aF F Q X pc loc st M rc rs := by
  subst h1 h2 h3 h4
  exact k
theorem x_geti (j : Nat) {t ci N : Nat} {fs : List (Option (Option Nat))} {C ref : String} {T : u_T} {idx : Nat} (d : decode Y.2.1 pc = .ok (.getfield idx, 3)) (hn : t < n) (hL : L t = sd_O ci fs) (hj : fs[j]? = some none) (hc9 : E.1[ci]? = some (C, T, N)) (hN : j < N) (hin : ∀ w ∈ u_ws C T N, w ∈ Y.2.2.2.2.1) (hlk : Cond.fieldLink Y.1 idx ref (T j).2.1 (T j).2.2.1 ∈ Y.2.2.2.2.1) (href : ref = (T j).1) (k : sdW l E Y D tys b n ad L aF F Q X (pc + 3) loc (.int (M t j) :: st) M rc rs) : sdW l E Y D tys b n ad L aF F Q X pc loc (.ref t :: st) M rc rs := by
  intro p e s m args below meth c H locs ls cells slots hC hK hH hS hl hc hs
  subst href
  have hat := hH t hn
  rw [hL] at hat
  refine va_get hC.1.1 hC.1.2.1 hC.1.2.2.2.2 hin hC.1.2.2.2.1 hK.1 (ws := [(ad t, .inr (ci, sd_fv ad (M t) 0 fs))]) (sd_one hat) 0 rfl hc9 j hN (hC.1.2.2.2.2 _ hlk) (fun _ h => h) (v := .int (M t j)) ?_ d (k p e s m args below meth c H locs ls cells slots hC hK hH hS hl hc hs)
  have h9 := sd_fv_at (ad := ad) (f := M t) fs 0 j hj
  rwa [Nat.zero_add] at h9
theorem x_getr (j u : Nat) {t ci N : Nat} {fs : List (Option (Option Nat))} {C ref : String} {T : u_T} {idx : Nat} (d : decode Y.2.1 pc = .ok (.getfield idx, 3)) (hn : t < n) (hL : L t = sd_O ci fs) (hj : fs[j]? = some (some (some u))) (hc9 : E.1[ci]? = some (C, T, N)) (hN : j < N) (hin : ∀ w ∈ u_ws C T N, w ∈ Y.2.2.2.2.1) (hlk : Cond.fieldLink Y.1 idx ref (T j).2.1 (T j).2.2.1 ∈ Y.2.2.2.2.1) (href : ref = (T j).1) (k : sdW l E Y D tys b n ad L aF F Q X (pc + 3) loc (.ref u :: st) M rc rs) : sdW l E Y D tys b n ad L aF F Q X pc loc (.ref t :: st) M rc rs := by
  intro p e s m args below meth c H locs ls cells slots hC hK hH hS hl hc hs
  subst href
  have hat := hH t hn
  rw [hL] at hat
  exact va_get hC.1.1 hC.1.2.1 hC.1.2.2.2.2 hin hC.1.2.2.2.1 hK.1 (ws := [(ad t, .inr (ci, sd_fv ad (M t) 0 fs))]) (sd_one hat) 0 rfl hc9 j hN (hC.1.2.2.2.2 _ hlk) (fun _ h => h) (v := .ref (ad u)) (sd_fv_at fs 0 j hj) d (k p e s m args below meth c H locs ls cells slots hC hK hH hS hl hc hs)
theorem x_puti (j : Nat) {t ci N : Nat} {fs : List (Option (Option Nat))} {C ref : String} {T : u_T} {idx : Nat} {ty : FieldType} {x : Int32} (hA : sd_ad b n ad) (d : decode Y.2.1 pc = .ok (.putfield idx, 3)) (hn : t < n) (hL : L t = sd_O ci fs) (hj : fs[j]? = some none) (hc9 : E.1[ci]? = some (C, T, N)) (hN : j < N) (hin : ∀ w ∈ u_ws C T N, w ∈ Y.2.2.2.2.1) (hlk : Cond.fieldLink Y.1 idx ref (T j).2.1 (T j).2.2.1 ∈ Y.2.2.2.2.1) (href : ref = (T j).1) (ty0 : Nat → FieldType) (hty : ∀ k, k < N → parseFieldDescriptor (T k).2.2.1 = some (ty0 k)) (hnm : ∀ a, a < N → ∀ b, b < N → a ≠ b → (T a).2.1 ≠ (T b).2.1) (hfin : (T j).2.2.2 = false) (hd : parseFieldDescriptor (T j).2.2.1 = some ty) (hnr : narrow ty (.int x) = .int x) (hft : fits ty (.int x) = true) (k : ∀ M1 : sdM, M1 = sd_s M t j x → sdW l E Y D tys b n ad L aF F Q X (pc + 3) loc st M1 rc rs) : sdW l E Y D tys b n ad L aF F Q X pc loc (.int x :: .ref t :: st) M rc rs := by
  intro p e s m args below meth c H locs ls cells slots hC hK hH hS hl hc hs
  subst href
  have hG : (sd_G n ad L M)[t]? = some (ad t, .inr (ci, sd_fv ad (M t) 0 fs)) := by rw [sd_G_get hn, hL]; rfl
  refine va_put (v := .int x) hC.1.1 hC.1.2.1 hC.1.2.2.2.2 hin ty0 hty hnm hC.1.2.2.2.1 hK.1 hH.toP hA.toD hS t hG hc9 j hN (hC.1.2.2.2.2 _ hlk) (fun _ h => h) hfin hd hnr hft (by rw [sd_fv_len]; exact (List.getElem?_eq_some_iff.mp hj).1) d (fun H1 locs1 hP1 _ hS1 => ?_)
  have he : (Sum.inr (ci, (sd_fv ad (M t) 0 fs).set j (.int x)) : va_E) = L t ad (upd (M t) j x) := by
    rw [hL, sd_fv_set fs 0 j hj, Nat.zero_add]; rfl
  rw [sd_G_set hn he] at hP1
  exact k _ rfl p e s m args below meth c H1 locs1 ls cells slots hC hK (sd_H.ofP hP1) hS1 hl hc hs
theorem x_iald {t len : Nat} {cA : ClassId} {i : Int32} (d : decode Y.2.1 pc = .ok (.iaload, 1)) (hn : t < n) (hL : L t = sd_I cA len) (ht : tys[0]? = some (cA, .int)) (hi : vp_in i len) (k : sdW l E Y D tys b n ad L aF F Q X (pc + 1) loc (.int (M t i.toNatClampNeg) :: st) M rc rs) : sdW l E Y D tys b n ad L aF F Q X pc loc (.int i :: .ref t :: st) M rc rs := by
  intro p e s m args below meth c H locs ls cells slots hC hK hH hS hl hc hs
  have hat := hH t hn
  rw [hL] at hat
  exact va_iald hC.1.1 hC.1.2.1 hK.1 (ws := [(ad t, .inl (cA, len, .inl (M t)))]) (sd_one hat) 0 0 rfl ht hi d (k p e s m args below meth c H locs ls cells slots hC hK hH hS hl hc hs)
theorem x_zald {t len : Nat} {cA : ClassId} {i : Int32} (d : decode Y.2.1 pc = .ok (.baload, 1)) (hn : t < n) (hL : L t = sd_I cA len) (ht : tys[1]? = some (cA, .boolean)) (hi : vp_in i len) (k : sdW l E Y D tys b n ad L aF F Q X (pc + 1) loc (.int (M t i.toNatClampNeg) :: st) M rc rs) : sdW l E Y D tys b n ad L aF F Q X pc loc (.int i :: .ref t :: st) M rc rs := by
  intro p e s m args below meth c H locs ls cells slots hC hK hH hS hl hc hs
  have hat := hH t hn
  rw [hL] at hat
  exact va_zald hC.1.1 hC.1.2.1 hK.1 (ws := [(ad t, .inl (cA, len, .inl (M t)))]) (sd_one hat) 0 1 rfl ht hi d (k p e s m args below meth c H locs ls cells slots hC hK hH hS hl hc hs)
theorem x_aald (j : Nat) {t len t0 : Nat} {cA : ClassId} {C : String} {g : Nat → Nat} {i : Int32} (d : decode Y.2.1 pc = .ok (.aaload, 1)) (hn : t < n) (hL : L t = sd_Q cA len g) (ht : tys[t0]? = some (cA, .object C)) (hi : vp_in i len) (hj : g i.toNatClampNeg = j) (k : sdW l E Y D tys b n ad L aF F Q X (pc + 1) loc (.ref j :: st) M rc rs) : sdW l E Y D tys b n ad L aF F Q X pc loc (.int i :: .ref t :: st) M rc rs := by
  intro p e s m args below meth c H locs ls cells slots hC hK hH hS hl hc hs
  subst hj
  have hat := hH t hn
  rw [hL] at hat
  refine va_aldq hC.1.1 hC.1.2.1 hK.1 (ws := [(ad t, .inl (cA, len, .inr (.inr (.inr (.inr (fun j => if j < len then some (ad (g j)) else none))))))]) (sd_one hat) 0 t0 rfl ht hi d ?_
  show W p l e Y.2.2.2.2.2.1 s m args below meth c H locs cells slots _ (F0 m (pc + 1) ls (va_rf (if i.toNatClampNeg < len then some (ad (g i.toNatClampNeg)) else none) :: st.map (sd_v ad)))
  rw [if_pos (Nat.not_le.mp fun q => hi (Or.inr q))]
  exact k p e s m args below meth c H locs ls cells slots hC hK hH hS hl hc hs
theorem x_iast {t len : Nat} {cA : ClassId} {i x : Int32} (hA : sd_ad b n ad) (d : decode Y.2.1 pc = .ok (.iastore, 1)) (hn : t < n) (hL : L t = sd_I cA len) (ht : tys[0]? = some (cA, .int)) (hi : vp_in i len) (k : ∀ M1 : sdM, M1 = sd_s M t i.toNatClampNeg x → sdW l E Y D tys b n ad L aF F Q X (pc + 1) loc st M1 rc rs) : sdW l E Y D tys b n ad L aF F Q X pc loc (.int x :: .int i :: .ref t :: st) M rc rs := by
  intro p e s m args below meth c H locs ls cells slots hC hK hH hS hl hc hs
  have hG : (sd_G n ad L M)[t]? = some (ad t, .inl (cA, len, .inl (M t))) := by rw [sd_G_get hn, hL]; rfl
  refine va_iast hC.1.1 hC.1.2.1 hK.1 hH.toP hA.toD hS t 0 hG ht hi d (fun H1 locs1 hP1 _ hS1 => ?_)
  have he : (Sum.inl (cA, len, Sum.inl (upd (M t) i.toNatClampNeg x)) : va_E) = L t ad (upd (M t) i.toNatClampNeg x) := by rw [hL]; rfl
  rw [sd_G_set hn he] at hP1
  exact k _ rfl p e s m args below meth c H1 locs1 ls cells slots hC hK (sd_H.ofP hP1) hS1 hl hc hs
theorem x_zast {t len : Nat} {cA : ClassId} {i x : Int32} (hA : sd_ad b n ad) (d : decode Y.2.1 pc = .ok (.bastore, 1)) (hn : t < n) (hL : L t = sd_I cA len) (ht : tys[1]? = some (cA, .boolean)) (hi : vp_in i len) (hx : vp_nar .boolean x = x) (k : ∀ M1 : sdM, M1 = sd_s M t i.toNatClampNeg x → sdW l E Y D tys b n ad L aF F Q X (pc + 1) loc st M1 rc rs) : sdW l E Y D tys b n ad L aF F Q X pc loc (.int x :: .int i :: .ref t :: st) M rc rs := by
  intro p e s m args below meth c H locs ls cells slots hC hK hH hS hl hc hs
  have hG : (sd_G n ad L M)[t]? = some (ad t, .inl (cA, len, .inl (M t))) := by rw [sd_G_get hn, hL]; rfl
  refine va_zast hC.1.1 hC.1.2.1 hK.1 hH.toP hA.toD hS t 1 hG ht hi d (fun H1 locs1 hP1 _ hS1 => ?_)
  rw [hx] at hP1
  have he : (Sum.inl (cA, len, Sum.inl (upd (M t) i.toNatClampNeg x)) : va_E) = L t ad (upd (M t) i.toNatClampNeg x) := by rw [hL]; rfl
  rw [sd_G_set hn he] at hP1
  exact k _ rfl p e s m args below meth c H1 locs1 ls cells slots hC hK (sd_H.ofP hP1) hS1 hl hc hs
theorem x_iret {x : Int32} (d : decode Y.2.1 pc = .ok (.ireturn, 1)) (hr : Y.2.2.2.1 = some .int) (hF : ∀ H : Heap, sd_H D E.1 n ad L M H → F M H) (k : Q (some (.int x)) M) : sdW l E Y D tys b n ad L aF F Q X pc loc [.int x] M rc rs := by
  intro p e s m args below meth c H locs ls cells slots hC hK hH hS hl hc hs
  refine W.widen (k := Y.2.2.2.2.2.2.1) (n := Y.2.2.2.2.2.2.2.1) (by omega) (by omega) (sd_ret ?_)
  exact W.iret hC.1.1 hC.1.2.1 (hC.2.2.1.trans hr) (fun t ht _ => ⟨some (.int x), M, rfl, k, by rw [ht]; exact hF H hH, hS.F ht⟩) hS.2.2 d hC.2.1
theorem x_zret {x : Int32} (d : decode Y.2.1 pc = .ok (.ireturn, 1)) (hr : Y.2.2.2.1 = some .boolean) (hx : narrow .boolean (.int x) = .int x) (hF : ∀ H : Heap, sd_H D E.1 n ad L M H → F M H) (k : Q (some (.int x)) M) : sdW l E Y D tys b n ad L aF F Q X pc loc [.int x] M rc rs := by
  intro p e s m args below meth c H locs ls cells slots hC hK hH hS hl hc hs
  refine W.widen (k := Y.2.2.2.2.2.2.1) (n := Y.2.2.2.2.2.2.2.1) (by omega) (by omega) (sd_ret ?_)
  exact W.zret hC.1.1 hC.1.2.1 (hC.2.2.1.trans hr) hx (fun t ht _ => ⟨some (.int x), M, rfl, k, by rw [ht]; exact hF H hH, hS.F ht⟩) hS.2.2 d hC.2.1
theorem x_vret (d : decode Y.2.1 pc = .ok (.return_, 1)) (hr : Y.2.2.2.1 = none) (hF : ∀ H : Heap, sd_H D E.1 n ad L M H → F M H) (k : Q none M) : sdW l E Y D tys b n ad L aF F Q X pc loc [] M rc rs := by
  intro p e s m args below meth c H locs ls cells slots hC hK hH hS hl hc hs
  refine W.widen (k := Y.2.2.2.2.2.2.1) (n := Y.2.2.2.2.2.2.2.1) (by omega) (by omega) (sd_ret ?_)
  exact W.vret hC.1.1 hC.1.2.1 (hC.2.2.1.trans hr) (fun t ht _ => ⟨none, M, rfl, k, by rw [ht]; exact hF H hH, hS.F ht⟩) hS.2.2 d hC.2.1
theorem x_aret {t : Nat} {nm : String} (d : decode Y.2.1 pc = .ok (.areturn, 1)) (hr : Y.2.2.2.1 = some (.object nm)) (ha : ad t = aF t) (hF : ∀ H : Heap, sd_H D E.1 n ad L M H → F M H) (k : Q (some (.ref t)) M) : sdW l E Y D tys b n ad L aF F Q X pc loc [.ref t] M rc rs := by
  intro p e s m args below meth c H locs ls cells slots hC hK hH hS hl hc hs
  refine W.widen (k := Y.2.2.2.2.2.2.1) (n := Y.2.2.2.2.2.2.2.1) (by omega) (by omega) (sd_ret ?_)
  exact W.aret (v := .ref (ad t)) hC.1.1 hC.1.2.1 (hC.2.2.1.trans hr) (Or.inl ⟨_, rfl⟩) (Or.inr ⟨_, rfl⟩) (fun t' ht _ => ⟨some (.ref t), M, by rw [ha]; rfl, k, by rw [ht]; exact hF H hH, hS.F ht⟩) hS.2.2 d hC.2.1
theorem x_callVg {Y' : sdY} {y : MethodName} {idx na : Nat} {As rest st0 : List Value} {Q' : Option Value → sdM → Prop} {X' : String → sdM → Prop} {t ci N : Nat} {fs : List (Option (Option Nat))} {C : String} {T : u_T} (hCn : sd_Cn l E y Y'.2.2.2.2.1 Y'.2.2.2.2.2.1 Y'.2.2.2.2.2.2.1 Y'.2.2.2.2.2.2.2.1 D tys b n ad L M (.ref t :: As) Q' X') (hcw : sd_cwV Y Y' y idx na C) (hn : t < n) (hL : L t = sd_O ci fs) (hc9 : E.1[ci]? = some (C, T, N)) (d : decode Y.2.1 pc = .ok (.invokevirtual idx, 3)) (hna : As.length = na) (hst : st0 = As.reverse ++ .ref t :: rest) (hcat : (rest.map fun v => v.category).sum ≤ 8) (htb : Y.2.2.2.2.2.2.2.2 = []) (hX : ∀ E' M', X' E' M' → X E' M') (hF : ∀ (M : sdM) (H : Heap), sd_H D E.1 n ad L M H → F M H)
    (k : ∀ (v : Option Value) (M' : sdM), Q' v M' → sdW l E Y D tys b n ad L aF F Q X (pc + 3) loc (v.toList ++ rest) M' rc rs) : sdW l E Y D tys b n ad L aF F Q X pc loc st0 M (rc + Y'.2.2.2.2.2.2.1) (rs + Y'.2.2.2.2.2.2.2.1) := by
  intro p e s m args below meth c H locs ls cells slots hC hK hH hS hl hc hs
  subst hst
  obtain ⟨g1, ⟨ws', g2⟩, ⟨g3, g4, g5, g6⟩, g7, g8⟩ := hcw
  intro T hT X0
  subst hT
  have hat := hH t hn
  rw [hL] at hat
  have gws : GoodIn Y.2.2.2.2.1 Y'.2.2.2.2.1 := fun w h => g1 w (by unfold wsV; exact List.mem_append_right _ h)
  have ok : ∀ w ∈ wsV Y.1 idx C y Y'.2.2.2.2.1, w.before args s = true := fun w h => hC.1.2.2.2.2 w (g1 w h).1
  obtain ⟨rfl, hy1, hy2, hy3⟩ := g7
  have hini : (Cond.initialized y.cls).before args s = true := ok _ (by simp [wsV])
  have hinst : (Cond.instanceMethod y).before args s = true := ok _ (by simp [wsV])
  have hsel : (Cond.selects y.cls y y).before args s = true := ok _ (by simp [wsV])
  have hcode : (Cond.code y Y'.2.1 Y'.2.2.1 Y'.2.2.2.1).before args s = true := hC.1.2.2.2.2 _ (gws _ (by rw [g2]; exact List.mem_cons_self)).1
  obtain ⟨cellB, hcB, hoB, hclB⟩ := va_recv (q0 := 0) (a := ad t) (fs := sd_fv ad (M t) 0 fs) hK.1 (sd_one hat) hc9 rfl
  obtain ⟨mk, methM, hnamed, hmethM, hstM, habM⟩ := Cond.instanceMethod_spec hinst
  obtain ⟨methM', cM, hmethM', -, -, -, -, -, -, hsigM⟩ := Cond.code_spec hnamed hcode
  cases hmethM.symm.trans hmethM'
  obtain ⟨c2, r2, m2, q1, q2, q3, q4, kP, hkP, hkPi⟩ := Cond.selects_spec hsel
  cases hclB.symm.trans q1
  cases (State.methodFound?_of_named hnamed ⟨hy1, hy2⟩).symm.trans q2
  cases hnamed.symm.trans q3
  have hlen : (As.map (sd_v ad)).length = methM.sig.parameters.length := by
    rw [hsigM] at hy3
    rw [List.length_map, hna]
    exact (Option.some.inj hy3).symm
  obtain ⟨vm₁, X₁, st1⟩ := X0.invokevirtual hC.1.1 hC.1.2.2.2.1 (ok (.methodLink Y.1 idx y) (by simp [wsV])) hnamed hmethM hstM hkP hkPi ⟨hy1, hy2⟩ (a := ad t) (cell := cellB) hcB
    (fun z h => by rw [h] at hoB; cases hoB) (by rw [Launch.admits_selectMethod X0.admits]; exact q4) hmethM habM hkP hkPi (g := F0 m pc ls ((As.reverse ++ .ref t :: rest).map (sd_v ad))) rfl (argsL := As.map (sd_v ad)) (rest := rest.map (sd_v ad)) hlen (by show List.map (sd_v ad) (As.reverse ++ .ref t :: rest) = _; simp [List.map_append, List.map_reverse, sd_v]) (by rw [hC.1.2.1]; exact d)
  rcases sd_pay hCn X₁ rfl (hl.1.trans hC.1.2.2.1.symm) (by rw [hC.1.2.1]; exact d) (X₁.named hnamed) (fun w hw => pay_in hC.1.2.2.2.2 gws w hw _ _ X₁.warmed) (pay_in hC.1.2.2.2.2 gws _ (by rw [g2]; exact List.mem_cons_self) _ _ X₁.warmed) (word_at X₁.warmed (Or.inl rfl) hini) g3 g4 g8.1 g8.2 (lv_room (rest := rest.map (sd_v ad)) (by rw [sd_cats]; exact hcat)) (by rw [g5]; omega) (by rw [g6]; omega) ⟨rfl, (hK.move X₁.warmed rfl hS).call, hH⟩ with ⟨v, M', T', L', St', hq, hF', hfr, hL', hst'⟩ | ⟨q, E', M', ce, T', L', St', hx, hF', hce, hcv, hcl, hfr, hL', hst'⟩
  · obtain ⟨t2, a1, b1⟩ := k v M' hq p e s m args below meth c T'.heap (locs ++ L') ls (cells + Y'.2.2.2.2.2.2.1) (slots + Y'.2.2.2.2.2.2.2.1) hC hK hF' (sd_S_next hS hfr hL') hl (by omega) (by omega) T' rfl St'
    refine ⟨t2, st1 _ (fun acts => ?_), b1⟩
    rw [doInvoke_state]
    refine hst'.trans ?_
    cases v <;> exact a1
  · obtain ⟨t2, a1, b1⟩ := sd_out (R := Y.2.2.2.2.2.1) (p := p) (l := l) (e := e) (args := args) (below := below) (pc := pc) (ls := ls) (st := rest.map (sd_v ad)) (aF := aF) (Q := Q) (sd_tb hC htb) hC.2.1 (hX _ _ hx) (hF _ _ hF') hce hcv (by rw [← X₁.warmed.alike.findClass]; exact hcl) (sd_S_next hS hfr hL') (show cells + Y'.2.2.2.2.2.2.1 ≤ Y.2.2.2.2.2.2.1 by omega) (show slots + Y'.2.2.2.2.2.2.2.1 ≤ Y.2.2.2.2.2.2.2.1 by omega) T' rfl St'
    refine ⟨t2, st1 _ (fun acts => ?_), b1⟩
    rw [doInvoke_state]
    exact hst'.trans a1
theorem x_callSg {Y' : sdY} {y : MethodName} {idx na : Nat} {As rest st0 : List Value} {Q' : Option Value → sdM → Prop} {X' : String → sdM → Prop} (hCn : sd_Cn l E y Y'.2.2.2.2.1 Y'.2.2.2.2.2.1 Y'.2.2.2.2.2.2.1 Y'.2.2.2.2.2.2.2.1 D tys b n ad L M As Q' X') (hcw : sd_cwS Y Y' y idx na) (d : decode Y.2.1 pc = .ok (.invokestatic idx, 3)) (hna : As.length = na) (hst : st0 = As.reverse ++ rest) (hcat : (rest.map fun v => v.category).sum ≤ 8) (htb : Y.2.2.2.2.2.2.2.2 = []) (hX : ∀ E' M', X' E' M' → X E' M') (hF : ∀ (M : sdM) (H : Heap), sd_H D E.1 n ad L M H → F M H)
    (k : ∀ (v : Option Value) (M' : sdM), Q' v M' → sdW l E Y D tys b n ad L aF F Q X (pc + 3) loc (v.toList ++ rest) M' rc rs) : sdW l E Y D tys b n ad L aF F Q X pc loc st0 M (rc + Y'.2.2.2.2.2.2.1) (rs + Y'.2.2.2.2.2.2.2.1) := by
  intro p e s m args below meth c H locs ls cells slots hC hK hH hS hl hc hs
  subst hst
  obtain ⟨g1, ⟨ws', g2⟩, ⟨g3, g4, g5, g6⟩, g7, g8⟩ := hcw
  intro T hT X0
  subst hT
  have gws : GoodIn Y.2.2.2.2.1 Y'.2.2.2.2.1 := fun w h => g1 w (by unfold va_wsS; exact List.mem_append_right _ h)
  have ok : ∀ w ∈ va_wsS Y.1 idx y Y'.2.2.2.2.1, w.before args s = true := fun w h => hC.1.2.2.2.2 w (g1 w h).1
  obtain ⟨hy1, hy2, hy3⟩ := g7
  have hini : (Cond.initialized y.cls).before args s = true := ok _ (by simp [va_wsS])
  have hstt : (Cond.static y).before args s = true := ok _ (by simp [va_wsS])
  have hcode : (Cond.code y Y'.2.1 Y'.2.2.1 Y'.2.2.2.1).before args s = true := hC.1.2.2.2.2 _ (gws _ (by rw [g2]; exact List.mem_cons_self)).1
  obtain ⟨mk, hnamed⟩ := Cond.code_named hcode
  obtain ⟨methM, cM, hmethM, -, -, -, -, -, -, hsigM⟩ := Cond.code_spec hnamed hcode
  obtain ⟨kP, hkP, -⟩ := className_of_methodNamed hnamed
  have hlen : (As.map (sd_v ad)).length = methM.sig.parameters.length := by
    rw [hsigM] at hy3
    rw [List.length_map, hna]
    exact (Option.some.inj hy3).symm
  obtain ⟨vm₁, X₁, st1⟩ := X0.invokestatic hC.1.1 hC.1.2.2.2.1 (ok (.methodLink Y.1 idx y) (by simp [va_wsS])) hnamed hmethM (Cond.static_spec hnamed hmethM hstt) hkP (Cond.initialized_spec (findClass_of_methodNamed hnamed) hkP hini) ⟨hy1, hy2⟩ (g := F0 m pc ls ((As.reverse ++ rest).map (sd_v ad))) rfl (argsL := As.map (sd_v ad)) (rest := rest.map (sd_v ad)) hlen (by show List.map (sd_v ad) (As.reverse ++ rest) = _; simp [List.map_append, List.map_reverse]) (by rw [hC.1.2.1]; exact d)
  rcases sd_pay hCn X₁ rfl (hl.1.trans hC.1.2.2.1.symm) (by rw [hC.1.2.1]; exact d) (X₁.named hnamed) (fun w hw => pay_in hC.1.2.2.2.2 gws w hw _ _ X₁.warmed) (pay_in hC.1.2.2.2.2 gws _ (by rw [g2]; exact List.mem_cons_self) _ _ X₁.warmed) (word_at X₁.warmed (Or.inl rfl) hini) g3 g4 g8.1 g8.2 (lv_room (rest := rest.map (sd_v ad)) (by rw [sd_cats]; exact hcat)) (by rw [g5]; omega) (by rw [g6]; omega) ⟨rfl, (hK.move X₁.warmed rfl hS).call, hH⟩ with ⟨v, M', T', L', St', hq, hF', hfr, hL', hst'⟩ | ⟨q, E', M', ce, T', L', St', hx, hF', hce, hcv, hcl, hfr, hL', hst'⟩
  · obtain ⟨t2, a1, b1⟩ := k v M' hq p e s m args below meth c T'.heap (locs ++ L') ls (cells + Y'.2.2.2.2.2.2.1) (slots + Y'.2.2.2.2.2.2.2.1) hC hK hF' (sd_S_next hS hfr hL') hl (by omega) (by omega) T' rfl St'
    refine ⟨t2, st1 _ (fun acts => ?_), b1⟩
    rw [doInvoke_state]
    refine hst'.trans ?_
    cases v <;> exact a1
  · obtain ⟨t2, a1, b1⟩ := sd_out (R := Y.2.2.2.2.2.1) (p := p) (l := l) (e := e) (args := args) (below := below) (pc := pc) (ls := ls) (st := rest.map (sd_v ad)) (aF := aF) (Q := Q) (sd_tb hC htb) hC.2.1 (hX _ _ hx) (hF _ _ hF') hce hcv (by rw [← X₁.warmed.alike.findClass]; exact hcl) (sd_S_next hS hfr hL') (show cells + Y'.2.2.2.2.2.2.1 ≤ Y.2.2.2.2.2.2.1 by omega) (show slots + Y'.2.2.2.2.2.2.2.1 ≤ Y.2.2.2.2.2.2.2.1 by omega) T' rfl St'
    refine ⟨t2, st1 _ (fun acts => ?_), b1⟩
    rw [doInvoke_state]
    exact hst'.trans a1
theorem x_callVi {Y' : sdY} {y : MethodName} {idx na : Nat} {As rest st0 : List Value} {Q0 : Int32 → sdM → Prop} {X' : String → sdM → Prop} {t ci N : Nat} {fs : List (Option (Option Nat))} {C : String} {T : u_T} (hCn : sd_Cn l E y Y'.2.2.2.2.1 Y'.2.2.2.2.2.1 Y'.2.2.2.2.2.2.1 Y'.2.2.2.2.2.2.2.1 D tys b n ad L M (.ref t :: As) (sd_qi Q0) X')  (hcw : sd_cwV Y Y' y idx na C) (hn : t < n) (hL : L t = sd_O ci fs) (hc9 : E.1[ci]? = some (C, T, N)) (d : decode Y.2.1 pc = .ok (.invokevirtual idx, 3)) (hna : As.length = na) (hst : st0 = As.reverse ++ .ref t :: rest) (hcat : (rest.map fun v => v.category).sum ≤ 8) (htb : Y.2.2.2.2.2.2.2.2 = []) (hX : ∀ E' M', X' E' M' → X E' M') (hF : ∀ (M : sdM) (H : Heap), sd_H D E.1 n ad L M H → F M H) (k : ∀ (r : Int32) (M' : sdM), Q0 r M' → sdW l E Y D tys b n ad L aF F Q X (pc + 3) loc (.int r :: rest) M' rc rs) : sdW l E Y D tys b n ad L aF F Q X pc loc st0 M (rc + Y'.2.2.2.2.2.2.1) (rs + Y'.2.2.2.2.2.2.2.1) :=
  x_callVg hCn hcw hn hL hc9 d hna hst hcat htb hX hF (fun v M' hq => by obtain ⟨r, rfl, h⟩ := hq; exact k r M' h)
theorem x_callVv {Y' : sdY} {y : MethodName} {idx na : Nat} {As rest st0 : List Value} {Q0 : sdM → Prop} {X' : String → sdM → Prop} {t ci N : Nat} {fs : List (Option (Option Nat))} {C : String} {T : u_T} (hCn : sd_Cn l E y Y'.2.2.2.2.1 Y'.2.2.2.2.2.1 Y'.2.2.2.2.2.2.1 Y'.2.2.2.2.2.2.2.1 D tys b n ad L M (.ref t :: As) (sd_qv Q0) X')  (hcw : sd_cwV Y Y' y idx na C) (hn : t < n) (hL : L t = sd_O ci fs) (hc9 : E.1[ci]? = some (C, T, N)) (d : decode Y.2.1 pc = .ok (.invokevirtual idx, 3)) (hna : As.length = na) (hst : st0 = As.reverse ++ .ref t :: rest) (hcat : (rest.map fun v => v.category).sum ≤ 8) (htb : Y.2.2.2.2.2.2.2.2 = []) (hX : ∀ E' M', X' E' M' → X E' M') (hF : ∀ (M : sdM) (H : Heap), sd_H D E.1 n ad L M H → F M H) (k : ∀ (M' : sdM), Q0 M' → sdW l E Y D tys b n ad L aF F Q X (pc + 3) loc rest M' rc rs) : sdW l E Y D tys b n ad L aF F Q X pc loc st0 M (rc + Y'.2.2.2.2.2.2.1) (rs + Y'.2.2.2.2.2.2.2.1) :=
  x_callVg hCn hcw hn hL hc9 d hna hst hcat htb hX hF (fun v M' hq => by obtain ⟨rfl, h⟩ := hq; exact k M' h)
theorem x_callVr {Y' : sdY} {y : MethodName} {idx na : Nat} {As rest st0 : List Value} {P0 : Nat → Prop} {Q0 : Nat → sdM → Prop} {X' : String → sdM → Prop} {t ci N : Nat} {fs : List (Option (Option Nat))} {C : String} {T : u_T} (hCn : sd_Cn l E y Y'.2.2.2.2.1 Y'.2.2.2.2.2.1 Y'.2.2.2.2.2.2.1 Y'.2.2.2.2.2.2.2.1 D tys b n ad L M (.ref t :: As) (sd_qr P0 Q0) X')  (hcw : sd_cwV Y Y' y idx na C) (hn : t < n) (hL : L t = sd_O ci fs) (hc9 : E.1[ci]? = some (C, T, N)) (d : decode Y.2.1 pc = .ok (.invokevirtual idx, 3)) (hna : As.length = na) (hst : st0 = As.reverse ++ .ref t :: rest) (hcat : (rest.map fun v => v.category).sum ≤ 8) (htb : Y.2.2.2.2.2.2.2.2 = []) (hX : ∀ E' M', X' E' M' → X E' M') (hF : ∀ (M : sdM) (H : Heap), sd_H D E.1 n ad L M H → F M H) (k : ∀ (r : Nat) (M' : sdM), P0 r → Q0 r M' → sdW l E Y D tys b n ad L aF F Q X (pc + 3) loc (.ref r :: rest) M' rc rs) : sdW l E Y D tys b n ad L aF F Q X pc loc st0 M (rc + Y'.2.2.2.2.2.2.1) (rs + Y'.2.2.2.2.2.2.2.1) :=
  x_callVg hCn hcw hn hL hc9 d hna hst hcat htb hX hF (fun v M' hq => by obtain ⟨r, rfl, h0, h⟩ := hq; exact k r M' h0 h)
theorem x_callSi {Y' : sdY} {y : MethodName} {idx na : Nat} {As rest st0 : List Value} {Q0 : Int32 → sdM → Prop} {X' : String → sdM → Prop}  (hCn : sd_Cn l E y Y'.2.2.2.2.1 Y'.2.2.2.2.2.1 Y'.2.2.2.2.2.2.1 Y'.2.2.2.2.2.2.2.1 D tys b n ad L M As (sd_qi Q0) X') (hcw : sd_cwS Y Y' y idx na) (d : decode Y.2.1 pc = .ok (.invokestatic idx, 3)) (hna : As.length = na) (hst : st0 = As.reverse ++ rest) (hcat : (rest.map fun v => v.category).sum ≤ 8) (htb : Y.2.2.2.2.2.2.2.2 = []) (hX : ∀ E' M', X' E' M' → X E' M') (hF : ∀ (M : sdM) (H : Heap), sd_H D E.1 n ad L M H → F M H) (k : ∀ (r : Int32) (M' : sdM), Q0 r M' → sdW l E Y D tys b n ad L aF F Q X (pc + 3) loc (.int r :: rest) M' rc rs) : sdW l E Y D tys b n ad L aF F Q X pc loc st0 M (rc + Y'.2.2.2.2.2.2.1) (rs + Y'.2.2.2.2.2.2.2.1) :=
  x_callSg hCn hcw d hna hst hcat htb hX hF (fun v M' hq => by obtain ⟨r, rfl, h⟩ := hq; exact k r M' h)
theorem x_callSv {Y' : sdY} {y : MethodName} {idx na : Nat} {As rest st0 : List Value} {Q0 : sdM → Prop} {X' : String → sdM → Prop}  (hCn : sd_Cn l E y Y'.2.2.2.2.1 Y'.2.2.2.2.2.1 Y'.2.2.2.2.2.2.1 Y'.2.2.2.2.2.2.2.1 D tys b n ad L M As (sd_qv Q0) X') (hcw : sd_cwS Y Y' y idx na) (d : decode Y.2.1 pc = .ok (.invokestatic idx, 3)) (hna : As.length = na) (hst : st0 = As.reverse ++ rest) (hcat : (rest.map fun v => v.category).sum ≤ 8) (htb : Y.2.2.2.2.2.2.2.2 = []) (hX : ∀ E' M', X' E' M' → X E' M') (hF : ∀ (M : sdM) (H : Heap), sd_H D E.1 n ad L M H → F M H) (k : ∀ (M' : sdM), Q0 M' → sdW l E Y D tys b n ad L aF F Q X (pc + 3) loc rest M' rc rs) : sdW l E Y D tys b n ad L aF F Q X pc loc st0 M (rc + Y'.2.2.2.2.2.2.1) (rs + Y'.2.2.2.2.2.2.2.1) :=
  x_callSg hCn hcw d hna hst hcat htb hX hF (fun v M' hq => by obtain ⟨rfl, h⟩ := hq; exact k M' h)
theorem x_callSr {Y' : sdY} {y : MethodName} {idx na : Nat} {As rest st0 : List Value} {P0 : Nat → Prop} {Q0 : Nat → sdM → Prop} {X' : String → sdM → Prop}  (hCn : sd_Cn l E y Y'.2.2.2.2.1 Y'.2.2.2.2.2.1 Y'.2.2.2.2.2.2.1 Y'.2.2.2.2.2.2.2.1 D tys b n ad L M As (sd_qr P0 Q0) X') (hcw : sd_cwS Y Y' y idx na) (d : decode Y.2.1 pc = .ok (.invokestatic idx, 3)) (hna : As.length = na) (hst : st0 = As.reverse ++ rest) (hcat : (rest.map fun v => v.category).sum ≤ 8) (htb : Y.2.2.2.2.2.2.2.2 = []) (hX : ∀ E' M', X' E' M' → X E' M') (hF : ∀ (M : sdM) (H : Heap), sd_H D E.1 n ad L M H → F M H) (k : ∀ (r : Nat) (M' : sdM), P0 r → Q0 r M' → sdW l E Y D tys b n ad L aF F Q X (pc + 3) loc (.ref r :: rest) M' rc rs) : sdW l E Y D tys b n ad L aF F Q X pc loc st0 M (rc + Y'.2.2.2.2.2.2.1) (rs + Y'.2.2.2.2.2.2.2.1) :=
  x_callSg hCn hcw d hna hst hcat htb hX hF (fun v M' hq => by obtain ⟨r, rfl, h0, h⟩ := hq; exact k r M' h0 h)
theorem x_alen {t len : Nat} {cA : ClassId} {v : Int32} (d : decode Y.2.1 pc = .ok (.arraylength, 1)) (hn : t < n) (hL : L t = sd_I cA len) (ht : tys[0]? = some (cA, .int)) (hv : Int32.ofNat len = v) (k : sdW l E Y D tys b n ad L aF F Q X (pc + 1) loc (.int v :: st) M rc rs) : sdW l E Y D tys b n ad L aF F Q X pc loc (.ref t :: st) M rc rs := by
  intro p e s m args below meth c H locs ls cells slots hC hK hH hS hl hc hs
  have hat := hH t hn
  rw [hL] at hat
  exact va_alen hC.1.1 hC.1.2.1 hK.1 (ws := [(ad t, .inl (cA, len, .inl (M t)))]) (sd_one hat) 0 0 rfl ht hv d (k p e s m args below meth c H locs ls cells slots hC hK hH hS hl hc hs)
theorem x_tin {dflt lo hi off : Int} {offs : Array Int} {len : Nat} {x : Int32} (tgt : Nat) (d : decode Y.2.1 pc = .ok (.tableswitch dflt lo hi offs, len)) (h1 : ¬ x.toInt < lo) (h2 : ¬ hi < x.toInt) (ho : offs[(x.toInt - lo).toNat]? = some off) (ht : (pc : Int) + off = (tgt : Int)) (k : sdW l E Y D tys b n ad L aF F Q X tgt loc st M rc rs) : sdW l E Y D tys b n ad L aF F Q X pc loc (.int x :: st) M rc rs := by
  intro p e s m args below meth c H locs ls cells slots hC hK hH hS hl hc hs
  exact lv_tableIn hC.1.1 hC.1.2.1 d h1 h2 ho ht (k p e s m args below meth c H locs ls cells slots hC hK hH hS hl hc hs)
theorem x_tout {dflt lo hi : Int} {offs : Array Int} {len : Nat} {x : Int32} (tgt : Nat) (d : decode Y.2.1 pc = .ok (.tableswitch dflt lo hi offs, len)) (h : x.toInt < lo ∨ hi < x.toInt) (ht : (pc : Int) + dflt = (tgt : Int)) (k : sdW l E Y D tys b n ad L aF F Q X tgt loc st M rc rs) : sdW l E Y D tys b n ad L aF F Q X pc loc (.int x :: st) M rc rs := by
  intro p e s m args below meth c H locs ls cells slots hC hK hH hS hl hc hs
  exact lv_tableOut hC.1.1 hC.1.2.1 d h ht (k p e s m args below meth c H locs ls cells slots hC hK hH hS hl hc hs)
theorem x_mmin {idx : Nat} {x y : Int32} (d : decode Y.2.1 pc = .ok (.invokestatic idx, 3)) (h1 : Cond.methodLink Y.1 idx Lib.Math.min.name ∈ Y.2.2.2.2.1) (h2 : Cond.static Lib.Math.min.name ∈ Y.2.2.2.2.1) (h3 : Cond.initialized "java/lang/Math" ∈ Y.2.2.2.2.1) (h4 : Cond.code Lib.Math.min.name Lib.Math.min.code 2 (some .int) ∈ Y.2.2.2.2.1) (hR1 : 1 ≤ Y.2.2.2.2.2.1.frames) (hR2 : (st.map fun v => v.category).sum + 13 ≤ Y.2.2.2.2.2.1.locals) (hR3 : Y.2.2.2.2.2.1.cells = Y.2.2.2.2.2.2.1) (hR4 : Y.2.2.2.2.2.1.slots = Y.2.2.2.2.2.2.2.1) (k : sdW l E Y D tys b n ad L aF F Q X (pc + 3) loc (.int (if y < x then y else x) :: st) M rc rs) : sdW l E Y D tys b n ad L aF F Q X pc loc (.int y :: .int x :: st) M rc rs := by
  intro p e s m args below meth c H locs ls cells slots hC hK hH hS hl hc hs
  exact va_mmin (rest := st.map (sd_v ad)) hC.1.1 hC.1.2.1 (hC.1.2.2.1.trans hl.1.symm) hC.1.2.2.2.1 (hC.1.2.2.2.2 _ h1) (hC.1.2.2.2.2 _ h2) (hC.1.2.2.2.2 _ h3) (hC.1.2.2.2.2 _ h4) hR1 (by rw [sd_cats]; exact hR2) (by rw [hR3]; omega) (by rw [hR4]; omega) d (k p e s m args below meth c H locs ls cells slots hC hK hH hS hl hc hs)
/-- System.arraycopy of int arrays -/
theorem x_copyi {idx t u len len' : Nat} {cA : ClassId} {sp dp z : Int32} (hA : sd_ad b n ad) (d : decode Y.2.1 pc = .ok (.invokestatic idx, 3)) (h1 : Cond.methodLink Y.1 idx arraycopyName ∈ Y.2.2.2.2.1) (h2 : Cond.native arraycopyName ∈ Y.2.2.2.2.1) (h3 : Cond.static arraycopyName ∈ Y.2.2.2.2.1) (h4 : Cond.initialized "java/lang/System" ∈ Y.2.2.2.2.1)
    (hn : t < n) (hL : L t = sd_I cA len) (hn' : u < n) (hL' : L u = sd_I cA len') (ht : tys[0]? = some (cA, .int)) (hi : ¬ sp < 0 ∧ ¬ dp < 0 ∧ ¬ z < 0 ∧ sp.toNatClampNeg + z.toNatClampNeg ≤ len ∧ dp.toNatClampNeg + z.toNatClampNeg ≤ len') (hR1 : 1 ≤ Y.2.2.2.2.2.1.frames) (hR2 : (st.map fun v => v.category).sum + (nativeFrameWords "java/lang/System" "arraycopy" 5 + 11) ≤ Y.2.2.2.2.2.1.locals)
    (k : ∀ M1 : sdM, M1 = va_up M u (va_cpy (M t) (M u) sp.toNatClampNeg dp.toNatClampNeg z.toNatClampNeg) → sdW l E Y D tys b n ad L aF F Q X (pc + 3) loc st M1 rc rs) : sdW l E Y D tys b n ad L aF F Q X pc loc (.int z :: .int dp :: .ref u :: .int sp :: .ref t :: st) M rc rs := by
  intro p e s m args below meth c H locs ls cells slots hC hK hH hS hl hc hs
  have hG : (sd_G n ad L M)[t]? = some (ad t, .inl (cA, len, .inl (M t))) := by rw [sd_G_get hn, hL]; rfl
  have hG' : (sd_G n ad L M)[u]? = some (ad u, .inl (cA, len', .inl (M u))) := by rw [sd_G_get hn', hL']; rfl
  refine va_copyi (rest := st.map (sd_v ad)) hC.1.1 hC.1.2.1 (hC.1.2.2.1.trans hl.1.symm) hC.1.2.2.2.1 (hC.1.2.2.2.2 _ h1) (hC.1.2.2.2.2 _ h2) (hC.1.2.2.2.2 _ h3) (hC.1.2.2.2.2 _ h4) hK.1 hH.toP hA.toD hS t u 0 0 hG hG' ht ht rfl hi.1 hi.2.1 hi.2.2.1 hi.2.2.2.1 hi.2.2.2.2 (fun _ _ => rfl) hR1 (by rw [sd_cats]; exact hR2) d (fun H1 locs1 hP1 _ hS1 => ?_)
  have he : (Sum.inl (cA, len', Sum.inl (va_cpy (M t) (M u) sp.toNatClampNeg dp.toNatClampNeg z.toNatClampNeg)) : va_E) = L u ad (va_cpy (M t) (M u) sp.toNatClampNeg dp.toNatClampNeg z.toNatClampNeg) := by rw [hL']; rfl
  rw [sd_G_set hn' he] at hP1
  exact k _ rfl p e s m args below meth c H1 locs1 ls cells slots hC hK (sd_H.ofP hP1) hS1 hl hc hs
end SDR
theorem sd_enterF {l : Launch} {E : sdE} {Y : sdY} {D : va_G} {tys : List (ClassId × FieldType)} {b n : Nat} {ad : Nat → Nat} {L : Nat → sdL} {F : sdM → Heap → Prop} {Q : Option Value → sdM → Prop} {X : String → sdM → Prop} {M : sdM} {y : MethodName} {ws' : List Cond} {av : List Value}
    (htb : Y.2.2.2.2.2.2.2.2 = []) (hy : plainFor y = true) (hyc : y.cls = Y.1) (hw : Y.2.2.2.2.1 = Cond.code y Y.2.1 Y.2.2.1 Y.2.2.2.1 :: ws') (hn : (lg_sl av).length ≤ Y.2.2.1)
    (k : sdW l E Y D tys b n ad L ad F Q X 0 (lv_args 0 av) [] M Y.2.2.2.2.2.2.1 Y.2.2.2.2.2.2.2.1) : sd_CnF l E y Y.2.2.2.2.1 Y.2.2.2.2.2.1 Y.2.2.2.2.2.2.1 Y.2.2.2.2.2.2.2.1 D tys b n ad L M av F Q X := by
  refine MetFree.of_bodySF (code := Y.2.1) (maxLocals := Y.2.2.1) (ret := Y.2.2.2.1) hy ?_ ?_
  · intro args s m h hn
    obtain ⟨meth, c, h1, h2, h3, h4, h5, h6, -, -⟩ := Cond.code_spec hn (atoms_spec (ws := Y.2.2.2.2.1) h _ (by rw [hw]; exact List.mem_cons_self))
    exact ⟨meth, c, h1, h2, h3, h4, h5, h6⟩
  intro p e s m args below meth c s₁ B hml hv _
  have hx : ∀ x ∈ c.exceptionTable.toList, False := by
    obtain ⟨meth9, c9, h1, h2, -, -, -, -, h7, -⟩ := Cond.code_spec B.named (atoms_spec (ws := Y.2.2.2.2.1) B.pre _ (by rw [hw]; exact List.mem_cons_self))
    cases Option.some.inj (h1.symm.trans B.method)
    cases Option.some.inj (h2.symm.trans (Stand.of_body B).code)
    intro x hx
    rw [Array.isEmpty_iff.mp h7] at hx
    cases hx
  have hx' : c.exceptionTable.toList = tableOf Y.2.2.2.2.2.2.2.2 := by
    rw [htb]
    cases hz : c.exceptionTable.toList with
    | nil => rfl
    | cons z r => exact (hx z (by rw [hz]; exact List.mem_cons_self)).elim
  obtain ⟨rfl, hK, hH⟩ := hv
  have hown : s.vm.findClass Y.1 = some m.cls := by rw [← hyc]; exact findClass_of_methodNamed B.named
  have hl := lv_entry (av.map (sd_v ad)) (n := Y.2.2.1) (by rw [sd_sl]; exact hn)
  have hh0 : s₁.heap = s.heap := by rw [B.state]; rfl
  have key : W p l e Y.2.2.2.2.2.1 s m (av.map (sd_v ad)).toArray below meth c s₁.heap [] 0 0 (sd_Z b ad F Q X Y.2.2.2.2.2.2.1 Y.2.2.2.2.2.2.2.1 below (av.map (sd_v ad)).toArray s) (entryFrame m (av.map (sd_v ad)).toArray Y.2.2.1) := by
    rw [lg_entry_eq, hh0]
    generalize (lg_sl (av.map (sd_v ad)) ++ List.replicate (Y.2.2.1 - (lg_sl (av.map (sd_v ad))).length) Slot.unset).toArray = ls at hl ⊢
    rw [sd_args] at hl
    exact k p e s m _ below meth c s.heap [] ls 0 0 ⟨⟨B.exec, B.bytes, hml, hown, atoms_spec (ws := Y.2.2.2.2.1) B.pre⟩, B.notSynchronized, B.returns, hx', fun y9 b9 n9 r9 w9 h9 => by rw [hw] at h9; cases h9; exact (name_of_methodNamed B.named B.method).1⟩ hK hH va_S.rf hl (by omega) (by omega)
  obtain ⟨t, a1, o, b1, b2, b3⟩ := key s₁ rfl (Stand.of_body B)
  exact ⟨t, o, a1, b1, b2, b3⟩
theorem sd_enter {l : Launch} {E : sdE} {Y : sdY} {D : va_G} {tys : List (ClassId × FieldType)} {b n : Nat} {ad : Nat → Nat} {L : Nat → sdL} {Q : Option Value → sdM → Prop} {X : String → sdM → Prop} {M : sdM} {y : MethodName} {ws' : List Cond} {av : List Value}
    (htb : Y.2.2.2.2.2.2.2.2 = []) (hy : plainFor y = true) (hyc : y.cls = Y.1) (hw : Y.2.2.2.2.1 = Cond.code y Y.2.1 Y.2.2.1 Y.2.2.2.1 :: ws') (hn : (lg_sl av).length ≤ Y.2.2.1)
    (k : sdW l E Y D tys b n ad L ad (sd_H D E.1 n ad L) Q X 0 (lv_args 0 av) [] M Y.2.2.2.2.2.2.1 Y.2.2.2.2.2.2.2.1) : sd_Cn l E y Y.2.2.2.2.1 Y.2.2.2.2.2.1 Y.2.2.2.2.2.2.1 Y.2.2.2.2.2.2.2.1 D tys b n ad L M av Q X := sd_enterF htb hy hyc hw hn k
